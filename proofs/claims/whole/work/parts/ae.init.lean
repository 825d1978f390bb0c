/-! the constructors run -/
abbrev Op : Type := Bool × Int × Nat × Nat × Int × Int
def rn1 (xs : Int → Int) : List Op → Int → Int → Int
  | [], a, i => if a = 1000001 then xs i else 0
  | (true, b, kd, _, _, _) :: r, a, i => if a = b then nz kd i else rn1 xs r a i
  | (false, b, _, _, f, v) :: r, a, i => if a = b ∧ i = f then v else rn1 xs r a i
def rn2 (L : Nat) : List Op → Int → Nat × Nat
  | [], a => if a = 1000001 then (20, L) else (99, 0)
  | (true, b, kd, n, _, _) :: r, a => if a = b then (kd, n) else rn2 L r a
  | (false, _, _, _, _, _) :: r, a => rn2 L r a
def rn3 : List Op → Nat
  | [] => 0
  | (true, b, _, _, _, _) :: _ => b.toNat + 1
  | (false, _, _, _, _, _) :: r => rn3 r
def rm (xs : Int → Int) (L : Nat) (o : List Op) : Mem := (rn1 xs o, rn2 L o, rn3 o)
/-- the same without the script -/
def ro1 : List Op → Int → Int → Option Int
  | [], a, _ => if a = 1000001 then none else some 0
  | (true, b, kd, _, _, _) :: r, a, i => if a = b then some (nz kd i) else ro1 r a i
  | (false, b, _, _, f, v) :: r, a, i => if a = b ∧ i = f then some v else ro1 r a i
def ro2 : List Op → Int → Option (Nat × Nat)
  | [], a => if a = 1000001 then none else some (99, 0)
  | (true, b, kd, n, _, _) :: r, a => if a = b then some (kd, n) else ro2 r a
  | (false, _, _, _, _, _) :: r, a => ro2 r a
/-- never written: its kind -/
def roz : List Op → Int → Option Nat
  | [], _ => none
  | (true, b, kd, _, _, _) :: r, a => if a = b then some kd else roz r a
  | (false, b, _, _, _, _) :: r, a => if a = b then none else roz r a
theorem rm_s {xs : Int → Int} {L : Nat} : ∀ {o : List Op} {a : Int} {s : Nat × Nat}, ro2 o a = some s → (rm xs L o).2.1 a = s := by
  intro o
  induction o with
  | nil =>
    intro a s h
    show (if a = 1000001 then (20, L) else (99, 0)) = s
    have h : (if a = 1000001 then none else some (99, 0)) = some s := h
    by_cases q : a = 1000001
    · rw [if_pos q] at h; cases h
    · rw [if_neg q] at h ⊢; exact Option.some.inj h
  | cons x r ih =>
    intro a s h
    obtain ⟨t, b, kd, n, f, v⟩ := x
    cases t with
    | true =>
      show (if a = b then (kd, n) else rn2 L r a) = s
      have h : (if a = b then some (kd, n) else ro2 r a) = some s := h
      by_cases q : a = b
      · rw [if_pos q] at h ⊢; exact Option.some.inj h
      · rw [if_neg q] at h ⊢; exact ih h
    | false => exact ih (show ro2 r a = some s from h)
theorem rm_c {xs : Int → Int} {L : Nat} : ∀ {o : List Op} {a i v : Int}, ro1 o a i = some v → (rm xs L o).1 a i = v := by
  intro o
  induction o with
  | nil =>
    intro a i w h
    show (if a = 1000001 then xs i else 0) = w
    have h : (if a = 1000001 then none else some 0) = some w := h
    by_cases q : a = 1000001
    · rw [if_pos q] at h; cases h
    · rw [if_neg q] at h ⊢; exact Option.some.inj h
  | cons x r ih =>
    intro a i w h
    obtain ⟨t, b, kd, n, f, v⟩ := x
    cases t with
    | true =>
      show (if a = b then nz kd i else rn1 xs r a i) = w
      have h : (if a = b then some (nz kd i) else ro1 r a i) = some w := h
      by_cases q : a = b
      · rw [if_pos q] at h ⊢; exact Option.some.inj h
      · rw [if_neg q] at h ⊢; exact ih h
    | false =>
      show (if a = b ∧ i = f then v else rn1 xs r a i) = w
      have h : (if a = b ∧ i = f then some v else ro1 r a i) = some w := h
      by_cases q : a = b ∧ i = f
      · rw [if_pos q] at h ⊢; exact Option.some.inj h
      · rw [if_neg q] at h ⊢; exact ih h
theorem rm_z {xs : Int → Int} {L : Nat} : ∀ {o : List Op} {a : Int} {k : Nat}, roz o a = some k → ∀ i, (rm xs L o).1 a i = nz k i := by
  intro o
  induction o with
  | nil => intro a k h; cases h
  | cons x r ih =>
    intro a k h i
    obtain ⟨t, b, kd, n, f, v⟩ := x
    cases t with
    | true =>
      show (if a = b then nz kd i else rn1 xs r a i) = nz k i
      have h : (if a = b then some kd else roz r a) = some k := h
      by_cases q : a = b
      · rw [if_pos q] at h ⊢; rw [Option.some.inj h]
      · rw [if_neg q] at h ⊢; exact ih h i
    | false =>
      show (if a = b ∧ i = f then v else rn1 xs r a i) = nz k i
      have h : (if a = b then none else roz r a) = some k := h
      by_cases q : a = b
      · rw [if_pos q] at h; cases h
      · rw [if_neg q] at h
        rw [if_neg (fun w => q w.1)]; exact ih h i
theorem ck_rm {xs : Int → Int} {L : Nat} {o : List Op} {a : Int} {c n : Nat} (h : ro2 o a = some (c, n)) : ck (rm xs L o) a c n = some () := by
  unfold ck
  rw [if_pos (rm_s h)]
theorem gf_rm {xs : Int → Int} {L : Nat} {o : List Op} {a v : Int} {c n f : Nat} (h : ro2 o a = some (c, n)) (h2 : ro1 o a f = some v) : gf (rm xs L o) a c n f = some v := by
  unfold gf
  rw [if_pos (rm_s h), rm_c h2]
theorem pf_rm {xs : Int → Int} {L : Nat} {o : List Op} {a v : Int} {c n f : Nat} (h : ro2 o a = some (c, n)) : pf (rm xs L o) a c n f v = some (rm xs L ((false, a, 0, 0, (f : Int), v) :: o)) := by
  unfold pf
  rw [if_pos (rm_s h)]
  rfl
theorem wt_rm {xs : Int → Int} {L : Nat} {o : List Op} {a i v : Int} {k n : Nat} (h : ro2 o a = some (k, n)) (i0 : 0 ≤ i) (i1 : i < n) : wt (rm xs L o) k a i v = some (rm xs L ((false, a, 0, 0, i, v) :: o)) := by
  rw [wt_v (rm_s h) i0 i1]
  rfl
theorem nw_rm {xs : Int → Int} {L : Nat} {o : List Op} {k n b : Nat} (h : rn3 o = b) (hb : b < 900000) : nw (rm xs L o) k n = some ((b : Int), rm xs L ((true, (b : Int), k, n, 0, 0) :: o)) := by
  have e : (rm xs L o).2.2 = b := h
  rw [nw_al (by rw [e]; exact hb)]
  unfold al
  rw [e]
  rfl
theorem na_rm {xs : Int → Int} {L : Nat} {o : List Op} {k n b : Nat} (h : rn3 o = b) (hb : b < 900000) (hn : n ≤ 10000000) : na (rm xs L o) k n = some ((b : Int), rm xs L ((true, (b : Int), k, n, 0, 0) :: o)) := by
  unfold na
  rw [if_pos (by omega), Int.toNat_natCast]
  exact nw_rm h hb
def op_0 : List Op := []
def op_1 : List Op := (true, 0, 8, 8, 0, 0) :: op_0
theorem in_1 (xs : Int → Int) (L : Nat) : nw (rm xs L op_0) 8 8 = some (0, rm xs L op_1) := nw_rm (b := 0) (by decide +kernel) (by decide)
theorem in_2 (xs : Int → Int) (L : Nat) : ck (rm xs L op_1) 0 8 8 = some () := ck_rm (by decide +kernel)
theorem in_3 (xs : Int → Int) (L : Nat) : ck (rm xs L op_1) 0 8 8 = some () := ck_rm (by decide +kernel)
def op_2 : List Op := (true, 1, 5, 3, 0, 0) :: op_1
theorem in_4 (xs : Int → Int) (L : Nat) : nw (rm xs L op_1) 5 3 = some (1, rm xs L op_2) := nw_rm (b := 1) (by decide +kernel) (by decide)
theorem in_5 (xs : Int → Int) (L : Nat) : ck (rm xs L op_2) 1 5 3 = some () := ck_rm (by decide +kernel)
theorem in_6 (xs : Int → Int) (L : Nat) : ck (rm xs L op_2) 1 5 3 = some () := ck_rm (by decide +kernel)
def op_3 : List Op := (true, 2, 10, 6, 0, 0) :: op_2
theorem in_7 (xs : Int → Int) (L : Nat) : na (rm xs L op_2) 10 6 = some (2, rm xs L op_3) := na_rm (b := 2) (by decide +kernel) (by decide) (by decide)
def op_4 : List Op := (false, 1, 0, 0, 0, 2) :: op_3
theorem in_8 (xs : Int → Int) (L : Nat) : pf (rm xs L op_3) 1 5 3 0 2 = some (rm xs L op_4) := pf_rm (by decide +kernel)
def op_5 : List Op := (false, 1, 0, 0, 1, 0) :: op_4
theorem in_9 (xs : Int → Int) (L : Nat) : pf (rm xs L op_4) 1 5 3 1 0 = some (rm xs L op_5) := pf_rm (by decide +kernel)
def op_6 : List Op := (false, 1, 0, 0, 2, 0) :: op_5
theorem in_10 (xs : Int → Int) (L : Nat) : pf (rm xs L op_5) 1 5 3 2 0 = some (rm xs L op_6) := pf_rm (by decide +kernel)
def op_7 : List Op := (false, 0, 0, 0, 0, 1) :: op_6
theorem in_11 (xs : Int → Int) (L : Nat) : pf (rm xs L op_6) 0 8 8 0 1 = some (rm xs L op_7) := pf_rm (by decide +kernel)
def op_8 : List Op := (true, 3, 4, 5, 0, 0) :: op_7
theorem in_12 (xs : Int → Int) (L : Nat) : nw (rm xs L op_7) 4 5 = some (3, rm xs L op_8) := nw_rm (b := 3) (by decide +kernel) (by decide)
theorem in_13 (xs : Int → Int) (L : Nat) : gf (rm xs L op_8) 0 8 8 0 = some 1 := gf_rm (by decide +kernel) (by decide +kernel)
theorem in_14 (xs : Int → Int) (L : Nat) : ck (rm xs L op_8) 3 4 5 = some () := ck_rm (by decide +kernel)
theorem in_15 (xs : Int → Int) (L : Nat) : ck (rm xs L op_8) 3 4 5 = some () := ck_rm (by decide +kernel)
def op_9 : List Op := (true, 4, 10, 120, 0, 0) :: op_8
theorem in_16 (xs : Int → Int) (L : Nat) : na (rm xs L op_8) 10 120 = some (4, rm xs L op_9) := na_rm (b := 4) (by decide +kernel) (by decide) (by decide)
def op_10 : List Op := (false, 3, 0, 0, 1, 4) :: op_9
theorem in_17 (xs : Int → Int) (L : Nat) : pf (rm xs L op_9) 3 4 5 1 4 = some (rm xs L op_10) := pf_rm (by decide +kernel)
def op_11 : List Op := (true, 5, 10, 120, 0, 0) :: op_10
theorem in_18 (xs : Int → Int) (L : Nat) : na (rm xs L op_10) 10 120 = some (5, rm xs L op_11) := na_rm (b := 5) (by decide +kernel) (by decide) (by decide)
def op_12 : List Op := (false, 3, 0, 0, 2, 5) :: op_11
theorem in_19 (xs : Int → Int) (L : Nat) : pf (rm xs L op_11) 3 4 5 2 5 = some (rm xs L op_12) := pf_rm (by decide +kernel)
def op_13 : List Op := (true, 6, 10, 120, 0, 0) :: op_12
theorem in_20 (xs : Int → Int) (L : Nat) : na (rm xs L op_12) 10 120 = some (6, rm xs L op_13) := na_rm (b := 6) (by decide +kernel) (by decide) (by decide)
def op_14 : List Op := (false, 3, 0, 0, 3, 6) :: op_13
theorem in_21 (xs : Int → Int) (L : Nat) : pf (rm xs L op_13) 3 4 5 3 6 = some (rm xs L op_14) := pf_rm (by decide +kernel)
def op_15 : List Op := (false, 3, 0, 0, 4, 0) :: op_14
theorem in_22 (xs : Int → Int) (L : Nat) : pf (rm xs L op_14) 3 4 5 4 0 = some (rm xs L op_15) := pf_rm (by decide +kernel)
def op_16 : List Op := (false, 3, 0, 0, 0, 1) :: op_15
theorem in_23 (xs : Int → Int) (L : Nat) : pf (rm xs L op_15) 3 4 5 0 1 = some (rm xs L op_16) := pf_rm (by decide +kernel)
def op_17 : List Op := (false, 0, 0, 0, 1, 3) :: op_16
theorem in_24 (xs : Int → Int) (L : Nat) : pf (rm xs L op_16) 0 8 8 1 3 = some (rm xs L op_17) := pf_rm (by decide +kernel)
def op_18 : List Op := (true, 7, 14, 16, 0, 0) :: op_17
theorem in_25 (xs : Int → Int) (L : Nat) : na (rm xs L op_17) 14 16 = some (7, rm xs L op_18) := na_rm (b := 7) (by decide +kernel) (by decide) (by decide)
def op_19 : List Op := (false, 0, 0, 0, 2, 7) :: op_18
theorem in_26 (xs : Int → Int) (L : Nat) : pf (rm xs L op_18) 0 8 8 2 7 = some (rm xs L op_19) := pf_rm (by decide +kernel)
def op_20 : List Op := (true, 8, 2, 6, 0, 0) :: op_19
theorem in_27 (xs : Int → Int) (L : Nat) : nw (rm xs L op_19) 2 6 = some (8, rm xs L op_20) := nw_rm (b := 8) (by decide +kernel) (by decide)
theorem in_28 (xs : Int → Int) (L : Nat) : gf (rm xs L op_20) 0 8 8 0 = some 1 := gf_rm (by decide +kernel) (by decide +kernel)
theorem in_29 (xs : Int → Int) (L : Nat) : ck (rm xs L op_20) 8 2 6 = some () := ck_rm (by decide +kernel)
theorem in_30 (xs : Int → Int) (L : Nat) : ck (rm xs L op_20) 8 2 6 = some () := ck_rm (by decide +kernel)
def op_21 : List Op := (true, 9, 10, 864, 0, 0) :: op_20
theorem in_31 (xs : Int → Int) (L : Nat) : na (rm xs L op_20) 10 864 = some (9, rm xs L op_21) := na_rm (b := 9) (by decide +kernel) (by decide) (by decide)
def op_22 : List Op := (false, 8, 0, 0, 1, 9) :: op_21
theorem in_32 (xs : Int → Int) (L : Nat) : pf (rm xs L op_21) 8 2 6 1 9 = some (rm xs L op_22) := pf_rm (by decide +kernel)
def op_23 : List Op := (false, 8, 0, 0, 2, 0) :: op_22
theorem in_33 (xs : Int → Int) (L : Nat) : pf (rm xs L op_22) 8 2 6 2 0 = some (rm xs L op_23) := pf_rm (by decide +kernel)
def op_24 : List Op := (false, 8, 0, 0, 3, 0) :: op_23
theorem in_34 (xs : Int → Int) (L : Nat) : pf (rm xs L op_23) 8 2 6 3 0 = some (rm xs L op_24) := pf_rm (by decide +kernel)
def op_25 : List Op := (false, 8, 0, 0, 4, 0) :: op_24
theorem in_35 (xs : Int → Int) (L : Nat) : pf (rm xs L op_24) 8 2 6 4 0 = some (rm xs L op_25) := pf_rm (by decide +kernel)
def op_26 : List Op := (false, 8, 0, 0, 5, 10) :: op_25
theorem in_36 (xs : Int → Int) (L : Nat) : pf (rm xs L op_25) 8 2 6 5 10 = some (rm xs L op_26) := pf_rm (by decide +kernel)
def op_27 : List Op := (false, 8, 0, 0, 0, 1) :: op_26
theorem in_37 (xs : Int → Int) (L : Nat) : pf (rm xs L op_26) 8 2 6 0 1 = some (rm xs L op_27) := pf_rm (by decide +kernel)
def op_28 : List Op := (false, 0, 0, 0, 3, 8) :: op_27
theorem in_38 (xs : Int → Int) (L : Nat) : pf (rm xs L op_27) 0 8 8 3 8 = some (rm xs L op_28) := pf_rm (by decide +kernel)
def op_29 : List Op := (true, 10, 3, 17, 0, 0) :: op_28
theorem in_39 (xs : Int → Int) (L : Nat) : nw (rm xs L op_28) 3 17 = some (10, rm xs L op_29) := nw_rm (b := 10) (by decide +kernel) (by decide)
theorem in_40 (xs : Int → Int) (L : Nat) : gf (rm xs L op_29) 0 8 8 0 = some 1 := gf_rm (by decide +kernel) (by decide +kernel)
theorem in_41 (xs : Int → Int) (L : Nat) : gf (rm xs L op_29) 0 8 8 3 = some 8 := gf_rm (by decide +kernel) (by decide +kernel)
theorem in_42 (xs : Int → Int) (L : Nat) : ck (rm xs L op_29) 10 3 17 = some () := ck_rm (by decide +kernel)
theorem in_43 (xs : Int → Int) (L : Nat) : ck (rm xs L op_29) 10 3 17 = some () := ck_rm (by decide +kernel)
def op_30 : List Op := (true, 11, 10, 384, 0, 0) :: op_29
theorem in_44 (xs : Int → Int) (L : Nat) : na (rm xs L op_29) 10 384 = some (11, rm xs L op_30) := na_rm (b := 11) (by decide +kernel) (by decide) (by decide)
def op_31 : List Op := (false, 10, 0, 0, 2, 11) :: op_30
theorem in_45 (xs : Int → Int) (L : Nat) : pf (rm xs L op_30) 10 3 17 2 11 = some (rm xs L op_31) := pf_rm (by decide +kernel)
def op_32 : List Op := (true, 12, 10, 384, 0, 0) :: op_31
theorem in_46 (xs : Int → Int) (L : Nat) : na (rm xs L op_31) 10 384 = some (12, rm xs L op_32) := na_rm (b := 12) (by decide +kernel) (by decide) (by decide)
def op_33 : List Op := (false, 10, 0, 0, 3, 12) :: op_32
theorem in_47 (xs : Int → Int) (L : Nat) : pf (rm xs L op_32) 10 3 17 3 12 = some (rm xs L op_33) := pf_rm (by decide +kernel)
def op_34 : List Op := (true, 13, 10, 384, 0, 0) :: op_33
theorem in_48 (xs : Int → Int) (L : Nat) : na (rm xs L op_33) 10 384 = some (13, rm xs L op_34) := na_rm (b := 13) (by decide +kernel) (by decide) (by decide)
def op_35 : List Op := (false, 10, 0, 0, 4, 13) :: op_34
theorem in_49 (xs : Int → Int) (L : Nat) : pf (rm xs L op_34) 10 3 17 4 13 = some (rm xs L op_35) := pf_rm (by decide +kernel)
def op_36 : List Op := (true, 14, 10, 4096, 0, 0) :: op_35
theorem in_50 (xs : Int → Int) (L : Nat) : na (rm xs L op_35) 10 4096 = some (14, rm xs L op_36) := na_rm (b := 14) (by decide +kernel) (by decide) (by decide)
def op_37 : List Op := (false, 10, 0, 0, 5, 14) :: op_36
theorem in_51 (xs : Int → Int) (L : Nat) : pf (rm xs L op_36) 10 3 17 5 14 = some (rm xs L op_37) := pf_rm (by decide +kernel)
def op_38 : List Op := (false, 10, 0, 0, 6, 0) :: op_37
theorem in_52 (xs : Int → Int) (L : Nat) : pf (rm xs L op_37) 10 3 17 6 0 = some (rm xs L op_38) := pf_rm (by decide +kernel)
def op_39 : List Op := (true, 15, 10, 6, 0, 0) :: op_38
theorem in_53 (xs : Int → Int) (L : Nat) : na (rm xs L op_38) 10 6 = some (15, rm xs L op_39) := na_rm (b := 15) (by decide +kernel) (by decide) (by decide)
def op_40 : List Op := (false, 10, 0, 0, 7, 15) :: op_39
theorem in_54 (xs : Int → Int) (L : Nat) : pf (rm xs L op_39) 10 3 17 7 15 = some (rm xs L op_40) := pf_rm (by decide +kernel)
def op_41 : List Op := (true, 16, 10, 6, 0, 0) :: op_40
theorem in_55 (xs : Int → Int) (L : Nat) : na (rm xs L op_40) 10 6 = some (16, rm xs L op_41) := na_rm (b := 16) (by decide +kernel) (by decide) (by decide)
def op_42 : List Op := (false, 10, 0, 0, 8, 16) :: op_41
theorem in_56 (xs : Int → Int) (L : Nat) : pf (rm xs L op_41) 10 3 17 8 16 = some (rm xs L op_42) := pf_rm (by decide +kernel)
def op_43 : List Op := (true, 17, 10, 216, 0, 0) :: op_42
theorem in_57 (xs : Int → Int) (L : Nat) : na (rm xs L op_42) 10 216 = some (17, rm xs L op_43) := na_rm (b := 17) (by decide +kernel) (by decide) (by decide)
def op_44 : List Op := (false, 10, 0, 0, 9, 17) :: op_43
theorem in_58 (xs : Int → Int) (L : Nat) : pf (rm xs L op_43) 10 3 17 9 17 = some (rm xs L op_44) := pf_rm (by decide +kernel)
def op_45 : List Op := (false, 10, 0, 0, 10, 0) :: op_44
theorem in_59 (xs : Int → Int) (L : Nat) : pf (rm xs L op_44) 10 3 17 10 0 = some (rm xs L op_45) := pf_rm (by decide +kernel)
def op_46 : List Op := (false, 10, 0, 0, 11, 0) :: op_45
theorem in_60 (xs : Int → Int) (L : Nat) : pf (rm xs L op_45) 10 3 17 11 0 = some (rm xs L op_46) := pf_rm (by decide +kernel)
def op_47 : List Op := (true, 18, 13, 8, 0, 0) :: op_46
theorem in_61 (xs : Int → Int) (L : Nat) : na (rm xs L op_46) 13 8 = some (18, rm xs L op_47) := na_rm (b := 18) (by decide +kernel) (by decide) (by decide)
def op_48 : List Op := (false, 10, 0, 0, 12, 18) :: op_47
theorem in_62 (xs : Int → Int) (L : Nat) : pf (rm xs L op_47) 10 3 17 12 18 = some (rm xs L op_48) := pf_rm (by decide +kernel)
def op_49 : List Op := (true, 19, 10, 8, 0, 0) :: op_48
theorem in_63 (xs : Int → Int) (L : Nat) : na (rm xs L op_48) 10 8 = some (19, rm xs L op_49) := na_rm (b := 19) (by decide +kernel) (by decide) (by decide)
def op_50 : List Op := (false, 10, 0, 0, 13, 19) :: op_49
theorem in_64 (xs : Int → Int) (L : Nat) : pf (rm xs L op_49) 10 3 17 13 19 = some (rm xs L op_50) := pf_rm (by decide +kernel)
def op_51 : List Op := (false, 10, 0, 0, 14, 1) :: op_50
theorem in_65 (xs : Int → Int) (L : Nat) : pf (rm xs L op_50) 10 3 17 14 1 = some (rm xs L op_51) := pf_rm (by decide +kernel)
def op_52 : List Op := (true, 20, 6, 2, 0, 0) :: op_51
theorem in_66 (xs : Int → Int) (L : Nat) : nw (rm xs L op_51) 6 2 = some (20, rm xs L op_52) := nw_rm (b := 20) (by decide +kernel) (by decide)
theorem in_67 (xs : Int → Int) (L : Nat) : ck (rm xs L op_52) 20 6 2 = some () := ck_rm (by decide +kernel)
theorem in_68 (xs : Int → Int) (L : Nat) : ck (rm xs L op_52) 20 6 2 = some () := ck_rm (by decide +kernel)
def op_53 : List Op := (true, 21, 10, 64, 0, 0) :: op_52
theorem in_69 (xs : Int → Int) (L : Nat) : na (rm xs L op_52) 10 64 = some (21, rm xs L op_53) := na_rm (b := 21) (by decide +kernel) (by decide) (by decide)
def op_54 : List Op := (false, 20, 0, 0, 0, 21) :: op_53
theorem in_70 (xs : Int → Int) (L : Nat) : pf (rm xs L op_53) 20 6 2 0 21 = some (rm xs L op_54) := pf_rm (by decide +kernel)
def op_55 : List Op := (true, 22, 10, 64, 0, 0) :: op_54
theorem in_71 (xs : Int → Int) (L : Nat) : na (rm xs L op_54) 10 64 = some (22, rm xs L op_55) := na_rm (b := 22) (by decide +kernel) (by decide) (by decide)
def op_56 : List Op := (false, 20, 0, 0, 1, 22) :: op_55
theorem in_72 (xs : Int → Int) (L : Nat) : pf (rm xs L op_55) 20 6 2 1 22 = some (rm xs L op_56) := pf_rm (by decide +kernel)
def op_57 : List Op := (false, 10, 0, 0, 15, 20) :: op_56
theorem in_73 (xs : Int → Int) (L : Nat) : pf (rm xs L op_56) 10 3 17 15 20 = some (rm xs L op_57) := pf_rm (by decide +kernel)
def op_58 : List Op := (true, 23, 6, 2, 0, 0) :: op_57
theorem in_74 (xs : Int → Int) (L : Nat) : nw (rm xs L op_57) 6 2 = some (23, rm xs L op_58) := nw_rm (b := 23) (by decide +kernel) (by decide)
theorem in_75 (xs : Int → Int) (L : Nat) : ck (rm xs L op_58) 23 6 2 = some () := ck_rm (by decide +kernel)
theorem in_76 (xs : Int → Int) (L : Nat) : ck (rm xs L op_58) 23 6 2 = some () := ck_rm (by decide +kernel)
def op_59 : List Op := (true, 24, 10, 64, 0, 0) :: op_58
theorem in_77 (xs : Int → Int) (L : Nat) : na (rm xs L op_58) 10 64 = some (24, rm xs L op_59) := na_rm (b := 24) (by decide +kernel) (by decide) (by decide)
def op_60 : List Op := (false, 23, 0, 0, 0, 24) :: op_59
theorem in_78 (xs : Int → Int) (L : Nat) : pf (rm xs L op_59) 23 6 2 0 24 = some (rm xs L op_60) := pf_rm (by decide +kernel)
def op_61 : List Op := (true, 25, 10, 64, 0, 0) :: op_60
theorem in_79 (xs : Int → Int) (L : Nat) : na (rm xs L op_60) 10 64 = some (25, rm xs L op_61) := na_rm (b := 25) (by decide +kernel) (by decide) (by decide)
def op_62 : List Op := (false, 23, 0, 0, 1, 25) :: op_61
theorem in_80 (xs : Int → Int) (L : Nat) : pf (rm xs L op_61) 23 6 2 1 25 = some (rm xs L op_62) := pf_rm (by decide +kernel)
def op_63 : List Op := (false, 10, 0, 0, 16, 23) :: op_62
theorem in_81 (xs : Int → Int) (L : Nat) : pf (rm xs L op_62) 10 3 17 16 23 = some (rm xs L op_63) := pf_rm (by decide +kernel)
def op_64 : List Op := (false, 10, 0, 0, 0, 1) :: op_63
theorem in_82 (xs : Int → Int) (L : Nat) : pf (rm xs L op_63) 10 3 17 0 1 = some (rm xs L op_64) := pf_rm (by decide +kernel)
def op_65 : List Op := (false, 10, 0, 0, 1, 8) :: op_64
theorem in_83 (xs : Int → Int) (L : Nat) : pf (rm xs L op_64) 10 3 17 1 8 = some (rm xs L op_65) := pf_rm (by decide +kernel)
theorem in_84 (xs : Int → Int) (L : Nat) : gf (rm xs L op_65) 10 3 17 12 = some 18 := gf_rm (by decide +kernel) (by decide +kernel)
def op_66 : List Op := (true, 26, 6, 2, 0, 0) :: op_65
theorem in_85 (xs : Int → Int) (L : Nat) : nw (rm xs L op_65) 6 2 = some (26, rm xs L op_66) := nw_rm (b := 26) (by decide +kernel) (by decide)
theorem in_86 (xs : Int → Int) (L : Nat) : ck (rm xs L op_66) 26 6 2 = some () := ck_rm (by decide +kernel)
theorem in_87 (xs : Int → Int) (L : Nat) : ck (rm xs L op_66) 26 6 2 = some () := ck_rm (by decide +kernel)
def op_67 : List Op := (true, 27, 10, 64, 0, 0) :: op_66
theorem in_88 (xs : Int → Int) (L : Nat) : na (rm xs L op_66) 10 64 = some (27, rm xs L op_67) := na_rm (b := 27) (by decide +kernel) (by decide) (by decide)
def op_68 : List Op := (false, 26, 0, 0, 0, 27) :: op_67
theorem in_89 (xs : Int → Int) (L : Nat) : pf (rm xs L op_67) 26 6 2 0 27 = some (rm xs L op_68) := pf_rm (by decide +kernel)
def op_69 : List Op := (true, 28, 10, 64, 0, 0) :: op_68
theorem in_90 (xs : Int → Int) (L : Nat) : na (rm xs L op_68) 10 64 = some (28, rm xs L op_69) := na_rm (b := 28) (by decide +kernel) (by decide) (by decide)
def op_70 : List Op := (false, 26, 0, 0, 1, 28) :: op_69
theorem in_91 (xs : Int → Int) (L : Nat) : pf (rm xs L op_69) 26 6 2 1 28 = some (rm xs L op_70) := pf_rm (by decide +kernel)
theorem in_92 (xs : Int → Int) (L : Nat) : ck (rm xs L op_70) 26 6 2 = some () := ck_rm (by decide +kernel)
def op_71 : List Op := (false, 18, 0, 0, 0, 26) :: op_70
theorem in_93 (xs : Int → Int) (L : Nat) : wt (rm xs L op_70) 13 18 0 26 = some (rm xs L op_71) := wt_rm (n := 8) (by decide +kernel) (by decide) (by decide)
theorem in_94 (xs : Int → Int) (L : Nat) : gf (rm xs L op_71) 10 3 17 12 = some 18 := gf_rm (by decide +kernel) (by decide +kernel)
def op_72 : List Op := (true, 29, 6, 2, 0, 0) :: op_71
theorem in_95 (xs : Int → Int) (L : Nat) : nw (rm xs L op_71) 6 2 = some (29, rm xs L op_72) := nw_rm (b := 29) (by decide +kernel) (by decide)
theorem in_96 (xs : Int → Int) (L : Nat) : ck (rm xs L op_72) 29 6 2 = some () := ck_rm (by decide +kernel)
theorem in_97 (xs : Int → Int) (L : Nat) : ck (rm xs L op_72) 29 6 2 = some () := ck_rm (by decide +kernel)
def op_73 : List Op := (true, 30, 10, 64, 0, 0) :: op_72
theorem in_98 (xs : Int → Int) (L : Nat) : na (rm xs L op_72) 10 64 = some (30, rm xs L op_73) := na_rm (b := 30) (by decide +kernel) (by decide) (by decide)
def op_74 : List Op := (false, 29, 0, 0, 0, 30) :: op_73
theorem in_99 (xs : Int → Int) (L : Nat) : pf (rm xs L op_73) 29 6 2 0 30 = some (rm xs L op_74) := pf_rm (by decide +kernel)
def op_75 : List Op := (true, 31, 10, 64, 0, 0) :: op_74
theorem in_100 (xs : Int → Int) (L : Nat) : na (rm xs L op_74) 10 64 = some (31, rm xs L op_75) := na_rm (b := 31) (by decide +kernel) (by decide) (by decide)
def op_76 : List Op := (false, 29, 0, 0, 1, 31) :: op_75
theorem in_101 (xs : Int → Int) (L : Nat) : pf (rm xs L op_75) 29 6 2 1 31 = some (rm xs L op_76) := pf_rm (by decide +kernel)
theorem in_102 (xs : Int → Int) (L : Nat) : ck (rm xs L op_76) 29 6 2 = some () := ck_rm (by decide +kernel)
def op_77 : List Op := (false, 18, 0, 0, 1, 29) :: op_76
theorem in_103 (xs : Int → Int) (L : Nat) : wt (rm xs L op_76) 13 18 1 29 = some (rm xs L op_77) := wt_rm (n := 8) (by decide +kernel) (by decide) (by decide)
theorem in_104 (xs : Int → Int) (L : Nat) : gf (rm xs L op_77) 10 3 17 12 = some 18 := gf_rm (by decide +kernel) (by decide +kernel)
def op_78 : List Op := (true, 32, 6, 2, 0, 0) :: op_77
theorem in_105 (xs : Int → Int) (L : Nat) : nw (rm xs L op_77) 6 2 = some (32, rm xs L op_78) := nw_rm (b := 32) (by decide +kernel) (by decide)
theorem in_106 (xs : Int → Int) (L : Nat) : ck (rm xs L op_78) 32 6 2 = some () := ck_rm (by decide +kernel)
theorem in_107 (xs : Int → Int) (L : Nat) : ck (rm xs L op_78) 32 6 2 = some () := ck_rm (by decide +kernel)
def op_79 : List Op := (true, 33, 10, 64, 0, 0) :: op_78
theorem in_108 (xs : Int → Int) (L : Nat) : na (rm xs L op_78) 10 64 = some (33, rm xs L op_79) := na_rm (b := 33) (by decide +kernel) (by decide) (by decide)
def op_80 : List Op := (false, 32, 0, 0, 0, 33) :: op_79
theorem in_109 (xs : Int → Int) (L : Nat) : pf (rm xs L op_79) 32 6 2 0 33 = some (rm xs L op_80) := pf_rm (by decide +kernel)
def op_81 : List Op := (true, 34, 10, 64, 0, 0) :: op_80
theorem in_110 (xs : Int → Int) (L : Nat) : na (rm xs L op_80) 10 64 = some (34, rm xs L op_81) := na_rm (b := 34) (by decide +kernel) (by decide) (by decide)
def op_82 : List Op := (false, 32, 0, 0, 1, 34) :: op_81
theorem in_111 (xs : Int → Int) (L : Nat) : pf (rm xs L op_81) 32 6 2 1 34 = some (rm xs L op_82) := pf_rm (by decide +kernel)
theorem in_112 (xs : Int → Int) (L : Nat) : ck (rm xs L op_82) 32 6 2 = some () := ck_rm (by decide +kernel)
def op_83 : List Op := (false, 18, 0, 0, 2, 32) :: op_82
theorem in_113 (xs : Int → Int) (L : Nat) : wt (rm xs L op_82) 13 18 2 32 = some (rm xs L op_83) := wt_rm (n := 8) (by decide +kernel) (by decide) (by decide)
theorem in_114 (xs : Int → Int) (L : Nat) : gf (rm xs L op_83) 10 3 17 12 = some 18 := gf_rm (by decide +kernel) (by decide +kernel)
def op_84 : List Op := (true, 35, 6, 2, 0, 0) :: op_83
theorem in_115 (xs : Int → Int) (L : Nat) : nw (rm xs L op_83) 6 2 = some (35, rm xs L op_84) := nw_rm (b := 35) (by decide +kernel) (by decide)
theorem in_116 (xs : Int → Int) (L : Nat) : ck (rm xs L op_84) 35 6 2 = some () := ck_rm (by decide +kernel)
theorem in_117 (xs : Int → Int) (L : Nat) : ck (rm xs L op_84) 35 6 2 = some () := ck_rm (by decide +kernel)
def op_85 : List Op := (true, 36, 10, 64, 0, 0) :: op_84
theorem in_118 (xs : Int → Int) (L : Nat) : na (rm xs L op_84) 10 64 = some (36, rm xs L op_85) := na_rm (b := 36) (by decide +kernel) (by decide) (by decide)
def op_86 : List Op := (false, 35, 0, 0, 0, 36) :: op_85
theorem in_119 (xs : Int → Int) (L : Nat) : pf (rm xs L op_85) 35 6 2 0 36 = some (rm xs L op_86) := pf_rm (by decide +kernel)
def op_87 : List Op := (true, 37, 10, 64, 0, 0) :: op_86
theorem in_120 (xs : Int → Int) (L : Nat) : na (rm xs L op_86) 10 64 = some (37, rm xs L op_87) := na_rm (b := 37) (by decide +kernel) (by decide) (by decide)
def op_88 : List Op := (false, 35, 0, 0, 1, 37) :: op_87
theorem in_121 (xs : Int → Int) (L : Nat) : pf (rm xs L op_87) 35 6 2 1 37 = some (rm xs L op_88) := pf_rm (by decide +kernel)
theorem in_122 (xs : Int → Int) (L : Nat) : ck (rm xs L op_88) 35 6 2 = some () := ck_rm (by decide +kernel)
def op_89 : List Op := (false, 18, 0, 0, 3, 35) :: op_88
theorem in_123 (xs : Int → Int) (L : Nat) : wt (rm xs L op_88) 13 18 3 35 = some (rm xs L op_89) := wt_rm (n := 8) (by decide +kernel) (by decide) (by decide)
theorem in_124 (xs : Int → Int) (L : Nat) : gf (rm xs L op_89) 10 3 17 12 = some 18 := gf_rm (by decide +kernel) (by decide +kernel)
def op_90 : List Op := (true, 38, 6, 2, 0, 0) :: op_89
theorem in_125 (xs : Int → Int) (L : Nat) : nw (rm xs L op_89) 6 2 = some (38, rm xs L op_90) := nw_rm (b := 38) (by decide +kernel) (by decide)
theorem in_126 (xs : Int → Int) (L : Nat) : ck (rm xs L op_90) 38 6 2 = some () := ck_rm (by decide +kernel)
theorem in_127 (xs : Int → Int) (L : Nat) : ck (rm xs L op_90) 38 6 2 = some () := ck_rm (by decide +kernel)
def op_91 : List Op := (true, 39, 10, 64, 0, 0) :: op_90
theorem in_128 (xs : Int → Int) (L : Nat) : na (rm xs L op_90) 10 64 = some (39, rm xs L op_91) := na_rm (b := 39) (by decide +kernel) (by decide) (by decide)
def op_92 : List Op := (false, 38, 0, 0, 0, 39) :: op_91
theorem in_129 (xs : Int → Int) (L : Nat) : pf (rm xs L op_91) 38 6 2 0 39 = some (rm xs L op_92) := pf_rm (by decide +kernel)
def op_93 : List Op := (true, 40, 10, 64, 0, 0) :: op_92
theorem in_130 (xs : Int → Int) (L : Nat) : na (rm xs L op_92) 10 64 = some (40, rm xs L op_93) := na_rm (b := 40) (by decide +kernel) (by decide) (by decide)
def op_94 : List Op := (false, 38, 0, 0, 1, 40) :: op_93
theorem in_131 (xs : Int → Int) (L : Nat) : pf (rm xs L op_93) 38 6 2 1 40 = some (rm xs L op_94) := pf_rm (by decide +kernel)
theorem in_132 (xs : Int → Int) (L : Nat) : ck (rm xs L op_94) 38 6 2 = some () := ck_rm (by decide +kernel)
def op_95 : List Op := (false, 18, 0, 0, 4, 38) :: op_94
theorem in_133 (xs : Int → Int) (L : Nat) : wt (rm xs L op_94) 13 18 4 38 = some (rm xs L op_95) := wt_rm (n := 8) (by decide +kernel) (by decide) (by decide)
theorem in_134 (xs : Int → Int) (L : Nat) : gf (rm xs L op_95) 10 3 17 12 = some 18 := gf_rm (by decide +kernel) (by decide +kernel)
def op_96 : List Op := (true, 41, 6, 2, 0, 0) :: op_95
theorem in_135 (xs : Int → Int) (L : Nat) : nw (rm xs L op_95) 6 2 = some (41, rm xs L op_96) := nw_rm (b := 41) (by decide +kernel) (by decide)
theorem in_136 (xs : Int → Int) (L : Nat) : ck (rm xs L op_96) 41 6 2 = some () := ck_rm (by decide +kernel)
theorem in_137 (xs : Int → Int) (L : Nat) : ck (rm xs L op_96) 41 6 2 = some () := ck_rm (by decide +kernel)
def op_97 : List Op := (true, 42, 10, 64, 0, 0) :: op_96
theorem in_138 (xs : Int → Int) (L : Nat) : na (rm xs L op_96) 10 64 = some (42, rm xs L op_97) := na_rm (b := 42) (by decide +kernel) (by decide) (by decide)
def op_98 : List Op := (false, 41, 0, 0, 0, 42) :: op_97
theorem in_139 (xs : Int → Int) (L : Nat) : pf (rm xs L op_97) 41 6 2 0 42 = some (rm xs L op_98) := pf_rm (by decide +kernel)
def op_99 : List Op := (true, 43, 10, 64, 0, 0) :: op_98
theorem in_140 (xs : Int → Int) (L : Nat) : na (rm xs L op_98) 10 64 = some (43, rm xs L op_99) := na_rm (b := 43) (by decide +kernel) (by decide) (by decide)
def op_100 : List Op := (false, 41, 0, 0, 1, 43) :: op_99
theorem in_141 (xs : Int → Int) (L : Nat) : pf (rm xs L op_99) 41 6 2 1 43 = some (rm xs L op_100) := pf_rm (by decide +kernel)
theorem in_142 (xs : Int → Int) (L : Nat) : ck (rm xs L op_100) 41 6 2 = some () := ck_rm (by decide +kernel)
def op_101 : List Op := (false, 18, 0, 0, 5, 41) :: op_100
theorem in_143 (xs : Int → Int) (L : Nat) : wt (rm xs L op_100) 13 18 5 41 = some (rm xs L op_101) := wt_rm (n := 8) (by decide +kernel) (by decide) (by decide)
theorem in_144 (xs : Int → Int) (L : Nat) : gf (rm xs L op_101) 10 3 17 12 = some 18 := gf_rm (by decide +kernel) (by decide +kernel)
def op_102 : List Op := (true, 44, 6, 2, 0, 0) :: op_101
theorem in_145 (xs : Int → Int) (L : Nat) : nw (rm xs L op_101) 6 2 = some (44, rm xs L op_102) := nw_rm (b := 44) (by decide +kernel) (by decide)
theorem in_146 (xs : Int → Int) (L : Nat) : ck (rm xs L op_102) 44 6 2 = some () := ck_rm (by decide +kernel)
theorem in_147 (xs : Int → Int) (L : Nat) : ck (rm xs L op_102) 44 6 2 = some () := ck_rm (by decide +kernel)
def op_103 : List Op := (true, 45, 10, 64, 0, 0) :: op_102
theorem in_148 (xs : Int → Int) (L : Nat) : na (rm xs L op_102) 10 64 = some (45, rm xs L op_103) := na_rm (b := 45) (by decide +kernel) (by decide) (by decide)
def op_104 : List Op := (false, 44, 0, 0, 0, 45) :: op_103
theorem in_149 (xs : Int → Int) (L : Nat) : pf (rm xs L op_103) 44 6 2 0 45 = some (rm xs L op_104) := pf_rm (by decide +kernel)
def op_105 : List Op := (true, 46, 10, 64, 0, 0) :: op_104
theorem in_150 (xs : Int → Int) (L : Nat) : na (rm xs L op_104) 10 64 = some (46, rm xs L op_105) := na_rm (b := 46) (by decide +kernel) (by decide) (by decide)
def op_106 : List Op := (false, 44, 0, 0, 1, 46) :: op_105
theorem in_151 (xs : Int → Int) (L : Nat) : pf (rm xs L op_105) 44 6 2 1 46 = some (rm xs L op_106) := pf_rm (by decide +kernel)
theorem in_152 (xs : Int → Int) (L : Nat) : ck (rm xs L op_106) 44 6 2 = some () := ck_rm (by decide +kernel)
def op_107 : List Op := (false, 18, 0, 0, 6, 44) :: op_106
theorem in_153 (xs : Int → Int) (L : Nat) : wt (rm xs L op_106) 13 18 6 44 = some (rm xs L op_107) := wt_rm (n := 8) (by decide +kernel) (by decide) (by decide)
theorem in_154 (xs : Int → Int) (L : Nat) : gf (rm xs L op_107) 10 3 17 12 = some 18 := gf_rm (by decide +kernel) (by decide +kernel)
def op_108 : List Op := (true, 47, 6, 2, 0, 0) :: op_107
theorem in_155 (xs : Int → Int) (L : Nat) : nw (rm xs L op_107) 6 2 = some (47, rm xs L op_108) := nw_rm (b := 47) (by decide +kernel) (by decide)
theorem in_156 (xs : Int → Int) (L : Nat) : ck (rm xs L op_108) 47 6 2 = some () := ck_rm (by decide +kernel)
theorem in_157 (xs : Int → Int) (L : Nat) : ck (rm xs L op_108) 47 6 2 = some () := ck_rm (by decide +kernel)
def op_109 : List Op := (true, 48, 10, 64, 0, 0) :: op_108
theorem in_158 (xs : Int → Int) (L : Nat) : na (rm xs L op_108) 10 64 = some (48, rm xs L op_109) := na_rm (b := 48) (by decide +kernel) (by decide) (by decide)
def op_110 : List Op := (false, 47, 0, 0, 0, 48) :: op_109
theorem in_159 (xs : Int → Int) (L : Nat) : pf (rm xs L op_109) 47 6 2 0 48 = some (rm xs L op_110) := pf_rm (by decide +kernel)
def op_111 : List Op := (true, 49, 10, 64, 0, 0) :: op_110
theorem in_160 (xs : Int → Int) (L : Nat) : na (rm xs L op_110) 10 64 = some (49, rm xs L op_111) := na_rm (b := 49) (by decide +kernel) (by decide) (by decide)
def op_112 : List Op := (false, 47, 0, 0, 1, 49) :: op_111
theorem in_161 (xs : Int → Int) (L : Nat) : pf (rm xs L op_111) 47 6 2 1 49 = some (rm xs L op_112) := pf_rm (by decide +kernel)
theorem in_162 (xs : Int → Int) (L : Nat) : ck (rm xs L op_112) 47 6 2 = some () := ck_rm (by decide +kernel)
def op_113 : List Op := (false, 18, 0, 0, 7, 47) :: op_112
theorem in_163 (xs : Int → Int) (L : Nat) : wt (rm xs L op_112) 13 18 7 47 = some (rm xs L op_113) := wt_rm (n := 8) (by decide +kernel) (by decide) (by decide)
def op_114 : List Op := (false, 0, 0, 0, 4, 10) :: op_113
theorem in_164 (xs : Int → Int) (L : Nat) : pf (rm xs L op_113) 0 8 8 4 10 = some (rm xs L op_114) := pf_rm (by decide +kernel)
def op_115 : List Op := (true, 50, 1, 14, 0, 0) :: op_114
theorem in_165 (xs : Int → Int) (L : Nat) : nw (rm xs L op_114) 1 14 = some (50, rm xs L op_115) := nw_rm (b := 50) (by decide +kernel) (by decide)
theorem in_166 (xs : Int → Int) (L : Nat) : gf (rm xs L op_115) 0 8 8 0 = some 1 := gf_rm (by decide +kernel) (by decide +kernel)
theorem in_167 (xs : Int → Int) (L : Nat) : ck (rm xs L op_115) 50 1 14 = some () := ck_rm (by decide +kernel)
theorem in_168 (xs : Int → Int) (L : Nat) : ck (rm xs L op_115) 50 1 14 = some () := ck_rm (by decide +kernel)
def op_116 : List Op := (true, 51, 10, 216, 0, 0) :: op_115
theorem in_169 (xs : Int → Int) (L : Nat) : na (rm xs L op_115) 10 216 = some (51, rm xs L op_116) := na_rm (b := 51) (by decide +kernel) (by decide) (by decide)
def op_117 : List Op := (false, 50, 0, 0, 1, 51) :: op_116
theorem in_170 (xs : Int → Int) (L : Nat) : pf (rm xs L op_116) 50 1 14 1 51 = some (rm xs L op_117) := pf_rm (by decide +kernel)
def op_118 : List Op := (true, 52, 10, 6, 0, 0) :: op_117
theorem in_171 (xs : Int → Int) (L : Nat) : na (rm xs L op_117) 10 6 = some (52, rm xs L op_118) := na_rm (b := 52) (by decide +kernel) (by decide) (by decide)
def op_119 : List Op := (false, 50, 0, 0, 2, 52) :: op_118
theorem in_172 (xs : Int → Int) (L : Nat) : pf (rm xs L op_118) 50 1 14 2 52 = some (rm xs L op_119) := pf_rm (by decide +kernel)
def op_120 : List Op := (true, 53, 10, 6, 0, 0) :: op_119
theorem in_173 (xs : Int → Int) (L : Nat) : na (rm xs L op_119) 10 6 = some (53, rm xs L op_120) := na_rm (b := 53) (by decide +kernel) (by decide) (by decide)
def op_121 : List Op := (false, 50, 0, 0, 3, 53) :: op_120
theorem in_174 (xs : Int → Int) (L : Nat) : pf (rm xs L op_120) 50 1 14 3 53 = some (rm xs L op_121) := pf_rm (by decide +kernel)
def op_122 : List Op := (true, 54, 10, 6, 0, 0) :: op_121
theorem in_175 (xs : Int → Int) (L : Nat) : na (rm xs L op_121) 10 6 = some (54, rm xs L op_122) := na_rm (b := 54) (by decide +kernel) (by decide) (by decide)
def op_123 : List Op := (false, 50, 0, 0, 4, 54) :: op_122
theorem in_176 (xs : Int → Int) (L : Nat) : pf (rm xs L op_122) 50 1 14 4 54 = some (rm xs L op_123) := pf_rm (by decide +kernel)
def op_124 : List Op := (true, 55, 10, 6, 0, 0) :: op_123
theorem in_177 (xs : Int → Int) (L : Nat) : na (rm xs L op_123) 10 6 = some (55, rm xs L op_124) := na_rm (b := 55) (by decide +kernel) (by decide) (by decide)
def op_125 : List Op := (false, 50, 0, 0, 5, 55) :: op_124
theorem in_178 (xs : Int → Int) (L : Nat) : pf (rm xs L op_124) 50 1 14 5 55 = some (rm xs L op_125) := pf_rm (by decide +kernel)
def op_126 : List Op := (true, 56, 11, 246, 0, 0) :: op_125
theorem in_179 (xs : Int → Int) (L : Nat) : na (rm xs L op_125) 11 246 = some (56, rm xs L op_126) := na_rm (b := 56) (by decide +kernel) (by decide) (by decide)
def op_127 : List Op := (false, 50, 0, 0, 6, 56) :: op_126
theorem in_180 (xs : Int → Int) (L : Nat) : pf (rm xs L op_126) 50 1 14 6 56 = some (rm xs L op_127) := pf_rm (by decide +kernel)
def op_128 : List Op := (true, 57, 10, 6, 0, 0) :: op_127
theorem in_181 (xs : Int → Int) (L : Nat) : na (rm xs L op_127) 10 6 = some (57, rm xs L op_128) := na_rm (b := 57) (by decide +kernel) (by decide) (by decide)
def op_129 : List Op := (false, 50, 0, 0, 7, 57) :: op_128
theorem in_182 (xs : Int → Int) (L : Nat) : pf (rm xs L op_128) 50 1 14 7 57 = some (rm xs L op_129) := pf_rm (by decide +kernel)
def op_130 : List Op := (true, 58, 10, 6, 0, 0) :: op_129
theorem in_183 (xs : Int → Int) (L : Nat) : na (rm xs L op_129) 10 6 = some (58, rm xs L op_130) := na_rm (b := 58) (by decide +kernel) (by decide) (by decide)
def op_131 : List Op := (false, 50, 0, 0, 8, 58) :: op_130
theorem in_184 (xs : Int → Int) (L : Nat) : pf (rm xs L op_130) 50 1 14 8 58 = some (rm xs L op_131) := pf_rm (by decide +kernel)
def op_132 : List Op := (true, 59, 10, 6, 0, 0) :: op_131
theorem in_185 (xs : Int → Int) (L : Nat) : na (rm xs L op_131) 10 6 = some (59, rm xs L op_132) := na_rm (b := 59) (by decide +kernel) (by decide) (by decide)
def op_133 : List Op := (false, 50, 0, 0, 9, 59) :: op_132
theorem in_186 (xs : Int → Int) (L : Nat) : pf (rm xs L op_132) 50 1 14 9 59 = some (rm xs L op_133) := pf_rm (by decide +kernel)
def op_134 : List Op := (false, 50, 0, 0, 10, 0) :: op_133
theorem in_187 (xs : Int → Int) (L : Nat) : pf (rm xs L op_133) 50 1 14 10 0 = some (rm xs L op_134) := pf_rm (by decide +kernel)
def op_135 : List Op := (false, 50, 0, 0, 11, 0) :: op_134
theorem in_188 (xs : Int → Int) (L : Nat) : pf (rm xs L op_134) 50 1 14 11 0 = some (rm xs L op_135) := pf_rm (by decide +kernel)
def op_136 : List Op := (false, 50, 0, 0, 12, 0) :: op_135
theorem in_189 (xs : Int → Int) (L : Nat) : pf (rm xs L op_135) 50 1 14 12 0 = some (rm xs L op_136) := pf_rm (by decide +kernel)
def op_137 : List Op := (false, 50, 0, 0, 13, 0) :: op_136
theorem in_190 (xs : Int → Int) (L : Nat) : pf (rm xs L op_136) 50 1 14 13 0 = some (rm xs L op_137) := pf_rm (by decide +kernel)
def op_138 : List Op := (false, 50, 0, 0, 0, 1) :: op_137
theorem in_191 (xs : Int → Int) (L : Nat) : pf (rm xs L op_137) 50 1 14 0 1 = some (rm xs L op_138) := pf_rm (by decide +kernel)
def op_139 : List Op := (false, 0, 0, 0, 5, 50) :: op_138
theorem in_192 (xs : Int → Int) (L : Nat) : pf (rm xs L op_138) 0 8 8 5 50 = some (rm xs L op_139) := pf_rm (by decide +kernel)
def op_140 : List Op := (true, 60, 0, 4, 0, 0) :: op_139
theorem in_193 (xs : Int → Int) (L : Nat) : nw (rm xs L op_139) 0 4 = some (60, rm xs L op_140) := nw_rm (b := 60) (by decide +kernel) (by decide)
theorem in_194 (xs : Int → Int) (L : Nat) : gf (rm xs L op_140) 0 8 8 0 = some 1 := gf_rm (by decide +kernel) (by decide +kernel)
theorem in_195 (xs : Int → Int) (L : Nat) : gf (rm xs L op_140) 0 8 8 1 = some 3 := gf_rm (by decide +kernel) (by decide +kernel)
theorem in_196 (xs : Int → Int) (L : Nat) : ck (rm xs L op_140) 60 0 4 = some () := ck_rm (by decide +kernel)
theorem in_197 (xs : Int → Int) (L : Nat) : ck (rm xs L op_140) 60 0 4 = some () := ck_rm (by decide +kernel)
def op_141 : List Op := (true, 61, 11, 246, 0, 0) :: op_140
theorem in_198 (xs : Int → Int) (L : Nat) : na (rm xs L op_140) 11 246 = some (61, rm xs L op_141) := na_rm (b := 61) (by decide +kernel) (by decide) (by decide)
def op_142 : List Op := (false, 60, 0, 0, 2, 61) :: op_141
theorem in_199 (xs : Int → Int) (L : Nat) : pf (rm xs L op_141) 60 0 4 2 61 = some (rm xs L op_142) := pf_rm (by decide +kernel)
def op_143 : List Op := (false, 60, 0, 0, 3, 0) :: op_142
theorem in_200 (xs : Int → Int) (L : Nat) : pf (rm xs L op_142) 60 0 4 3 0 = some (rm xs L op_143) := pf_rm (by decide +kernel)
def op_144 : List Op := (false, 60, 0, 0, 0, 1) :: op_143
theorem in_201 (xs : Int → Int) (L : Nat) : pf (rm xs L op_143) 60 0 4 0 1 = some (rm xs L op_144) := pf_rm (by decide +kernel)
def op_145 : List Op := (false, 60, 0, 0, 1, 3) :: op_144
theorem in_202 (xs : Int → Int) (L : Nat) : pf (rm xs L op_144) 60 0 4 1 3 = some (rm xs L op_145) := pf_rm (by decide +kernel)
def op_146 : List Op := (false, 0, 0, 0, 6, 60) :: op_145
theorem in_203 (xs : Int → Int) (L : Nat) : pf (rm xs L op_145) 0 8 8 6 60 = some (rm xs L op_146) := pf_rm (by decide +kernel)
def op_147 : List Op := (false, 0, 0, 0, 7, 0) :: op_146
theorem in_204 (xs : Int → Int) (L : Nat) : pf (rm xs L op_146) 0 8 8 7 0 = some (rm xs L op_147) := pf_rm (by decide +kernel)
def op_148 : List Op := (true, 62, 9, 54, 0, 0) :: op_147
theorem in_205 (xs : Int → Int) (L : Nat) : nw (rm xs L op_147) 9 54 = some (62, rm xs L op_148) := nw_rm (b := 62) (by decide +kernel) (by decide)
theorem in_206 (xs : Int → Int) (L : Nat) : ck (rm xs L op_148) 62 9 54 = some () := ck_rm (by decide +kernel)
theorem in_207 (xs : Int → Int) (L : Nat) : ck (rm xs L op_148) 62 9 54 = some () := ck_rm (by decide +kernel)
def op_149 : List Op := (true, 63, 10, 6, 0, 0) :: op_148
theorem in_208 (xs : Int → Int) (L : Nat) : na (rm xs L op_148) 10 6 = some (63, rm xs L op_149) := na_rm (b := 63) (by decide +kernel) (by decide) (by decide)
def op_150 : List Op := (false, 62, 0, 0, 1, 63) :: op_149
theorem in_209 (xs : Int → Int) (L : Nat) : pf (rm xs L op_149) 62 9 54 1 63 = some (rm xs L op_150) := pf_rm (by decide +kernel)
def op_151 : List Op := (true, 64, 10, 120, 0, 0) :: op_150
theorem in_210 (xs : Int → Int) (L : Nat) : na (rm xs L op_150) 10 120 = some (64, rm xs L op_151) := na_rm (b := 64) (by decide +kernel) (by decide) (by decide)
def op_152 : List Op := (false, 62, 0, 0, 2, 64) :: op_151
theorem in_211 (xs : Int → Int) (L : Nat) : pf (rm xs L op_151) 62 9 54 2 64 = some (rm xs L op_152) := pf_rm (by decide +kernel)
def op_153 : List Op := (true, 65, 12, 16, 0, 0) :: op_152
theorem in_212 (xs : Int → Int) (L : Nat) : na (rm xs L op_152) 12 16 = some (65, rm xs L op_153) := na_rm (b := 65) (by decide +kernel) (by decide) (by decide)
def op_154 : List Op := (false, 62, 0, 0, 5, 65) :: op_153
theorem in_213 (xs : Int → Int) (L : Nat) : pf (rm xs L op_153) 62 9 54 5 65 = some (rm xs L op_154) := pf_rm (by decide +kernel)
def op_155 : List Op := (true, 66, 10, 16, 0, 0) :: op_154
theorem in_214 (xs : Int → Int) (L : Nat) : na (rm xs L op_154) 10 16 = some (66, rm xs L op_155) := na_rm (b := 66) (by decide +kernel) (by decide) (by decide)
def op_156 : List Op := (false, 62, 0, 0, 6, 66) :: op_155
theorem in_215 (xs : Int → Int) (L : Nat) : pf (rm xs L op_155) 62 9 54 6 66 = some (rm xs L op_156) := pf_rm (by decide +kernel)
def op_157 : List Op := (true, 67, 10, 16, 0, 0) :: op_156
theorem in_216 (xs : Int → Int) (L : Nat) : na (rm xs L op_156) 10 16 = some (67, rm xs L op_157) := na_rm (b := 67) (by decide +kernel) (by decide) (by decide)
def op_158 : List Op := (false, 62, 0, 0, 7, 67) :: op_157
theorem in_217 (xs : Int → Int) (L : Nat) : pf (rm xs L op_157) 62 9 54 7 67 = some (rm xs L op_158) := pf_rm (by decide +kernel)
def op_159 : List Op := (true, 68, 10, 16, 0, 0) :: op_158
theorem in_218 (xs : Int → Int) (L : Nat) : na (rm xs L op_158) 10 16 = some (68, rm xs L op_159) := na_rm (b := 68) (by decide +kernel) (by decide) (by decide)
def op_160 : List Op := (false, 62, 0, 0, 8, 68) :: op_159
theorem in_219 (xs : Int → Int) (L : Nat) : pf (rm xs L op_159) 62 9 54 8 68 = some (rm xs L op_160) := pf_rm (by decide +kernel)
def op_161 : List Op := (true, 69, 10, 640, 0, 0) :: op_160
theorem in_220 (xs : Int → Int) (L : Nat) : na (rm xs L op_160) 10 640 = some (69, rm xs L op_161) := na_rm (b := 69) (by decide +kernel) (by decide) (by decide)
def op_162 : List Op := (false, 62, 0, 0, 9, 69) :: op_161
theorem in_221 (xs : Int → Int) (L : Nat) : pf (rm xs L op_161) 62 9 54 9 69 = some (rm xs L op_162) := pf_rm (by decide +kernel)
def op_163 : List Op := (true, 70, 10, 640, 0, 0) :: op_162
theorem in_222 (xs : Int → Int) (L : Nat) : na (rm xs L op_162) 10 640 = some (70, rm xs L op_163) := na_rm (b := 70) (by decide +kernel) (by decide) (by decide)
def op_164 : List Op := (false, 62, 0, 0, 10, 70) :: op_163
theorem in_223 (xs : Int → Int) (L : Nat) : pf (rm xs L op_163) 62 9 54 10 70 = some (rm xs L op_164) := pf_rm (by decide +kernel)
def op_165 : List Op := (true, 71, 10, 640, 0, 0) :: op_164
theorem in_224 (xs : Int → Int) (L : Nat) : na (rm xs L op_164) 10 640 = some (71, rm xs L op_165) := na_rm (b := 71) (by decide +kernel) (by decide) (by decide)
def op_166 : List Op := (false, 62, 0, 0, 11, 71) :: op_165
theorem in_225 (xs : Int → Int) (L : Nat) : pf (rm xs L op_165) 62 9 54 11 71 = some (rm xs L op_166) := pf_rm (by decide +kernel)
def op_167 : List Op := (true, 72, 10, 640, 0, 0) :: op_166
theorem in_226 (xs : Int → Int) (L : Nat) : na (rm xs L op_166) 10 640 = some (72, rm xs L op_167) := na_rm (b := 72) (by decide +kernel) (by decide) (by decide)
def op_168 : List Op := (false, 62, 0, 0, 12, 72) :: op_167
theorem in_227 (xs : Int → Int) (L : Nat) : pf (rm xs L op_167) 62 9 54 12 72 = some (rm xs L op_168) := pf_rm (by decide +kernel)
def op_169 : List Op := (true, 73, 10, 19, 0, 0) :: op_168
theorem in_228 (xs : Int → Int) (L : Nat) : na (rm xs L op_168) 10 19 = some (73, rm xs L op_169) := na_rm (b := 73) (by decide +kernel) (by decide) (by decide)
def op_170 : List Op := (false, 62, 0, 0, 13, 73) :: op_169
theorem in_229 (xs : Int → Int) (L : Nat) : pf (rm xs L op_169) 62 9 54 13 73 = some (rm xs L op_170) := pf_rm (by decide +kernel)
def op_171 : List Op := (true, 74, 10, 4104, 0, 0) :: op_170
theorem in_230 (xs : Int → Int) (L : Nat) : na (rm xs L op_170) 10 4104 = some (74, rm xs L op_171) := na_rm (b := 74) (by decide +kernel) (by decide) (by decide)
def op_172 : List Op := (false, 62, 0, 0, 14, 74) :: op_171
theorem in_231 (xs : Int → Int) (L : Nat) : pf (rm xs L op_171) 62 9 54 14 74 = some (rm xs L op_172) := pf_rm (by decide +kernel)
def op_173 : List Op := (true, 75, 12, 114, 0, 0) :: op_172
theorem in_232 (xs : Int → Int) (L : Nat) : na (rm xs L op_172) 12 114 = some (75, rm xs L op_173) := na_rm (b := 75) (by decide +kernel) (by decide) (by decide)
def op_174 : List Op := (false, 62, 0, 0, 15, 75) :: op_173
theorem in_233 (xs : Int → Int) (L : Nat) : pf (rm xs L op_173) 62 9 54 15 75 = some (rm xs L op_174) := pf_rm (by decide +kernel)
def op_175 : List Op := (true, 76, 10, 114, 0, 0) :: op_174
theorem in_234 (xs : Int → Int) (L : Nat) : na (rm xs L op_174) 10 114 = some (76, rm xs L op_175) := na_rm (b := 76) (by decide +kernel) (by decide) (by decide)
def op_176 : List Op := (false, 62, 0, 0, 16, 76) :: op_175
theorem in_235 (xs : Int → Int) (L : Nat) : pf (rm xs L op_175) 62 9 54 16 76 = some (rm xs L op_176) := pf_rm (by decide +kernel)
def op_177 : List Op := (true, 77, 10, 114, 0, 0) :: op_176
theorem in_236 (xs : Int → Int) (L : Nat) : na (rm xs L op_176) 10 114 = some (77, rm xs L op_177) := na_rm (b := 77) (by decide +kernel) (by decide) (by decide)
def op_178 : List Op := (false, 62, 0, 0, 17, 77) :: op_177
theorem in_237 (xs : Int → Int) (L : Nat) : pf (rm xs L op_177) 62 9 54 17 77 = some (rm xs L op_178) := pf_rm (by decide +kernel)
def op_179 : List Op := (true, 78, 10, 114, 0, 0) :: op_178
theorem in_238 (xs : Int → Int) (L : Nat) : na (rm xs L op_178) 10 114 = some (78, rm xs L op_179) := na_rm (b := 78) (by decide +kernel) (by decide) (by decide)
def op_180 : List Op := (false, 62, 0, 0, 18, 78) :: op_179
theorem in_239 (xs : Int → Int) (L : Nat) : pf (rm xs L op_179) 62 9 54 18 78 = some (rm xs L op_180) := pf_rm (by decide +kernel)
def op_181 : List Op := (true, 79, 10, 114, 0, 0) :: op_180
theorem in_240 (xs : Int → Int) (L : Nat) : na (rm xs L op_180) 10 114 = some (79, rm xs L op_181) := na_rm (b := 79) (by decide +kernel) (by decide) (by decide)
def op_182 : List Op := (false, 62, 0, 0, 19, 79) :: op_181
theorem in_241 (xs : Int → Int) (L : Nat) : pf (rm xs L op_181) 62 9 54 19 79 = some (rm xs L op_182) := pf_rm (by decide +kernel)
def op_183 : List Op := (true, 80, 10, 512, 0, 0) :: op_182
theorem in_242 (xs : Int → Int) (L : Nat) : na (rm xs L op_182) 10 512 = some (80, rm xs L op_183) := na_rm (b := 80) (by decide +kernel) (by decide) (by decide)
def op_184 : List Op := (false, 62, 0, 0, 27, 80) :: op_183
theorem in_243 (xs : Int → Int) (L : Nat) : pf (rm xs L op_183) 62 9 54 27 80 = some (rm xs L op_184) := pf_rm (by decide +kernel)
def op_185 : List Op := (true, 81, 10, 512, 0, 0) :: op_184
theorem in_244 (xs : Int → Int) (L : Nat) : na (rm xs L op_184) 10 512 = some (81, rm xs L op_185) := na_rm (b := 81) (by decide +kernel) (by decide) (by decide)
def op_186 : List Op := (false, 62, 0, 0, 28, 81) :: op_185
theorem in_245 (xs : Int → Int) (L : Nat) : pf (rm xs L op_185) 62 9 54 28 81 = some (rm xs L op_186) := pf_rm (by decide +kernel)
def op_187 : List Op := (true, 82, 10, 512, 0, 0) :: op_186
theorem in_246 (xs : Int → Int) (L : Nat) : na (rm xs L op_186) 10 512 = some (82, rm xs L op_187) := na_rm (b := 82) (by decide +kernel) (by decide) (by decide)
def op_188 : List Op := (false, 62, 0, 0, 29, 82) :: op_187
theorem in_247 (xs : Int → Int) (L : Nat) : pf (rm xs L op_187) 62 9 54 29 82 = some (rm xs L op_188) := pf_rm (by decide +kernel)
def op_189 : List Op := (true, 83, 10, 512, 0, 0) :: op_188
theorem in_248 (xs : Int → Int) (L : Nat) : na (rm xs L op_188) 10 512 = some (83, rm xs L op_189) := na_rm (b := 83) (by decide +kernel) (by decide) (by decide)
def op_190 : List Op := (false, 62, 0, 0, 30, 83) :: op_189
theorem in_249 (xs : Int → Int) (L : Nat) : pf (rm xs L op_189) 62 9 54 30 83 = some (rm xs L op_190) := pf_rm (by decide +kernel)
def op_191 : List Op := (true, 84, 10, 512, 0, 0) :: op_190
theorem in_250 (xs : Int → Int) (L : Nat) : na (rm xs L op_190) 10 512 = some (84, rm xs L op_191) := na_rm (b := 84) (by decide +kernel) (by decide) (by decide)
def op_192 : List Op := (false, 62, 0, 0, 31, 84) :: op_191
theorem in_251 (xs : Int → Int) (L : Nat) : pf (rm xs L op_191) 62 9 54 31 84 = some (rm xs L op_192) := pf_rm (by decide +kernel)
def op_193 : List Op := (true, 85, 10, 1572864, 0, 0) :: op_192
theorem in_252 (xs : Int → Int) (L : Nat) : na (rm xs L op_192) 10 1572864 = some (85, rm xs L op_193) := na_rm (b := 85) (by decide +kernel) (by decide) (by decide)
def op_194 : List Op := (false, 62, 0, 0, 32, 85) :: op_193
theorem in_253 (xs : Int → Int) (L : Nat) : pf (rm xs L op_193) 62 9 54 32 85 = some (rm xs L op_194) := pf_rm (by decide +kernel)
def op_195 : List Op := (true, 86, 10, 6, 0, 0) :: op_194
theorem in_254 (xs : Int → Int) (L : Nat) : na (rm xs L op_194) 10 6 = some (86, rm xs L op_195) := na_rm (b := 86) (by decide +kernel) (by decide) (by decide)
def op_196 : List Op := (false, 62, 0, 0, 33, 86) :: op_195
theorem in_255 (xs : Int → Int) (L : Nat) : pf (rm xs L op_195) 62 9 54 33 86 = some (rm xs L op_196) := pf_rm (by decide +kernel)
def op_197 : List Op := (true, 87, 10, 6, 0, 0) :: op_196
theorem in_256 (xs : Int → Int) (L : Nat) : na (rm xs L op_196) 10 6 = some (87, rm xs L op_197) := na_rm (b := 87) (by decide +kernel) (by decide) (by decide)
def op_198 : List Op := (false, 62, 0, 0, 39, 87) :: op_197
theorem in_257 (xs : Int → Int) (L : Nat) : pf (rm xs L op_197) 62 9 54 39 87 = some (rm xs L op_198) := pf_rm (by decide +kernel)
def op_199 : List Op := (true, 88, 12, 6, 0, 0) :: op_198
theorem in_258 (xs : Int → Int) (L : Nat) : na (rm xs L op_198) 12 6 = some (88, rm xs L op_199) := na_rm (b := 88) (by decide +kernel) (by decide) (by decide)
def op_200 : List Op := (false, 62, 0, 0, 40, 88) :: op_199
theorem in_259 (xs : Int → Int) (L : Nat) : pf (rm xs L op_199) 62 9 54 40 88 = some (rm xs L op_200) := pf_rm (by decide +kernel)
def op_201 : List Op := (true, 89, 10, 216, 0, 0) :: op_200
theorem in_260 (xs : Int → Int) (L : Nat) : na (rm xs L op_200) 10 216 = some (89, rm xs L op_201) := na_rm (b := 89) (by decide +kernel) (by decide) (by decide)
def op_202 : List Op := (false, 62, 0, 0, 41, 89) :: op_201
theorem in_261 (xs : Int → Int) (L : Nat) : pf (rm xs L op_201) 62 9 54 41 89 = some (rm xs L op_202) := pf_rm (by decide +kernel)
def op_203 : List Op := (true, 90, 10, 120, 0, 0) :: op_202
theorem in_262 (xs : Int → Int) (L : Nat) : na (rm xs L op_202) 10 120 = some (90, rm xs L op_203) := na_rm (b := 90) (by decide +kernel) (by decide) (by decide)
def op_204 : List Op := (false, 62, 0, 0, 42, 90) :: op_203
theorem in_263 (xs : Int → Int) (L : Nat) : pf (rm xs L op_203) 62 9 54 42 90 = some (rm xs L op_204) := pf_rm (by decide +kernel)
def op_205 : List Op := (true, 91, 10, 120, 0, 0) :: op_204
theorem in_264 (xs : Int → Int) (L : Nat) : na (rm xs L op_204) 10 120 = some (91, rm xs L op_205) := na_rm (b := 91) (by decide +kernel) (by decide) (by decide)
def op_206 : List Op := (false, 62, 0, 0, 43, 91) :: op_205
theorem in_265 (xs : Int → Int) (L : Nat) : pf (rm xs L op_205) 62 9 54 43 91 = some (rm xs L op_206) := pf_rm (by decide +kernel)
def op_207 : List Op := (true, 92, 10, 120, 0, 0) :: op_206
theorem in_266 (xs : Int → Int) (L : Nat) : na (rm xs L op_206) 10 120 = some (92, rm xs L op_207) := na_rm (b := 92) (by decide +kernel) (by decide) (by decide)
def op_208 : List Op := (false, 62, 0, 0, 44, 92) :: op_207
theorem in_267 (xs : Int → Int) (L : Nat) : pf (rm xs L op_207) 62 9 54 44 92 = some (rm xs L op_208) := pf_rm (by decide +kernel)
def op_209 : List Op := (true, 93, 11, 246, 0, 0) :: op_208
theorem in_268 (xs : Int → Int) (L : Nat) : na (rm xs L op_208) 11 246 = some (93, rm xs L op_209) := na_rm (b := 93) (by decide +kernel) (by decide) (by decide)
def op_210 : List Op := (false, 62, 0, 0, 45, 93) :: op_209
theorem in_269 (xs : Int → Int) (L : Nat) : pf (rm xs L op_209) 62 9 54 45 93 = some (rm xs L op_210) := pf_rm (by decide +kernel)
def op_211 : List Op := (true, 94, 11, 726, 0, 0) :: op_210
theorem in_270 (xs : Int → Int) (L : Nat) : na (rm xs L op_210) 11 726 = some (94, rm xs L op_211) := na_rm (b := 94) (by decide +kernel) (by decide) (by decide)
def op_212 : List Op := (false, 62, 0, 0, 46, 94) :: op_211
theorem in_271 (xs : Int → Int) (L : Nat) : pf (rm xs L op_211) 62 9 54 46 94 = some (rm xs L op_212) := pf_rm (by decide +kernel)
def op_213 : List Op := (true, 95, 10, 42, 0, 0) :: op_212
theorem in_272 (xs : Int → Int) (L : Nat) : na (rm xs L op_212) 10 42 = some (95, rm xs L op_213) := na_rm (b := 95) (by decide +kernel) (by decide) (by decide)
def op_214 : List Op := (false, 62, 0, 0, 47, 95) :: op_213
theorem in_273 (xs : Int → Int) (L : Nat) : pf (rm xs L op_213) 62 9 54 47 95 = some (rm xs L op_214) := pf_rm (by decide +kernel)
def op_215 : List Op := (true, 96, 10, 42, 0, 0) :: op_214
theorem in_274 (xs : Int → Int) (L : Nat) : na (rm xs L op_214) 10 42 = some (96, rm xs L op_215) := na_rm (b := 96) (by decide +kernel) (by decide) (by decide)
def op_216 : List Op := (false, 62, 0, 0, 48, 96) :: op_215
theorem in_275 (xs : Int → Int) (L : Nat) : pf (rm xs L op_215) 62 9 54 48 96 = some (rm xs L op_216) := pf_rm (by decide +kernel)
def op_217 : List Op := (true, 97, 10, 42, 0, 0) :: op_216
theorem in_276 (xs : Int → Int) (L : Nat) : na (rm xs L op_216) 10 42 = some (97, rm xs L op_217) := na_rm (b := 97) (by decide +kernel) (by decide) (by decide)
def op_218 : List Op := (false, 62, 0, 0, 49, 97) :: op_217
theorem in_277 (xs : Int → Int) (L : Nat) : pf (rm xs L op_217) 62 9 54 49 97 = some (rm xs L op_218) := pf_rm (by decide +kernel)
def op_219 : List Op := (true, 98, 10, 42, 0, 0) :: op_218
theorem in_278 (xs : Int → Int) (L : Nat) : na (rm xs L op_218) 10 42 = some (98, rm xs L op_219) := na_rm (b := 98) (by decide +kernel) (by decide) (by decide)
def op_220 : List Op := (false, 62, 0, 0, 50, 98) :: op_219
theorem in_279 (xs : Int → Int) (L : Nat) : pf (rm xs L op_219) 62 9 54 50 98 = some (rm xs L op_220) := pf_rm (by decide +kernel)
def op_221 : List Op := (true, 99, 10, 42, 0, 0) :: op_220
theorem in_280 (xs : Int → Int) (L : Nat) : na (rm xs L op_220) 10 42 = some (99, rm xs L op_221) := na_rm (b := 99) (by decide +kernel) (by decide) (by decide)
def op_222 : List Op := (false, 62, 0, 0, 51, 99) :: op_221
theorem in_281 (xs : Int → Int) (L : Nat) : pf (rm xs L op_221) 62 9 54 51 99 = some (rm xs L op_222) := pf_rm (by decide +kernel)
theorem init_run (xs : Int → Int) (L : Nat) : D_law (rm xs L op_0) = L_law_18 (fun m18 => some (1, m18)) 0 62 LF 0 (rm xs L op_222) := by
  rw [D_law]
  rw [in_1 xs L, obs, in_2 xs L, obs]
  rw [D_T_init]
  rw [in_3 xs L, obs, in_4 xs L, obs, in_5 xs L, obs]
  rw [D_Signs_init]
  rw [in_6 xs L, obs, in_7 xs L, obs, in_8 xs L, obs, in_9 xs L, obs, in_10 xs L, obs, obs, in_11 xs L, obs, in_12 xs L, obs, in_13 xs L, obs, in_14 xs L, obs]
  rw [D_Row_init]
  rw [in_15 xs L, obs, in_16 xs L, obs, in_17 xs L, obs, in_18 xs L, obs, in_19 xs L, obs, in_20 xs L, obs, in_21 xs L, obs, in_22 xs L, obs, in_23 xs L, obs, obs, in_24 xs L, obs, in_25 xs L, obs, in_26 xs L, obs, in_27 xs L, obs, in_28 xs L, obs, in_29 xs L, obs]
  rw [D_Net_init]
  rw [in_30 xs L, obs, in_31 xs L, obs, in_32 xs L, obs, in_33 xs L, obs, in_34 xs L, obs, in_35 xs L, obs, in_36 xs L, obs, in_37 xs L, obs, obs, in_38 xs L, obs, in_39 xs L, obs, in_40 xs L, obs, in_41 xs L, obs, in_42 xs L, obs]
  rw [D_Reducer_init]
  rw [in_43 xs L, obs, in_44 xs L, obs, in_45 xs L, obs, in_46 xs L, obs, in_47 xs L, obs, in_48 xs L, obs, in_49 xs L, obs, in_50 xs L, obs, in_51 xs L, obs, in_52 xs L, obs, in_53 xs L, obs, in_54 xs L, obs, in_55 xs L, obs, in_56 xs L, obs, in_57 xs L, obs, in_58 xs L, obs, in_59 xs L, obs, in_60 xs L, obs, in_61 xs L, obs, in_62 xs L, obs, in_63 xs L, obs, in_64 xs L, obs, in_65 xs L, obs, in_66 xs L, obs, in_67 xs L, obs]
  rw [D_Step_init]
  rw [in_68 xs L, obs, in_69 xs L, obs, in_70 xs L, obs, in_71 xs L, obs, in_72 xs L, obs, obs, in_73 xs L, obs, in_74 xs L, obs, in_75 xs L, obs]
  rw [D_Step_init]
  rw [in_76 xs L, obs, in_77 xs L, obs, in_78 xs L, obs, in_79 xs L, obs, in_80 xs L, obs, obs, in_81 xs L, obs, in_82 xs L, obs, in_83 xs L, obs, in_84 xs L, obs, in_85 xs L, obs, in_86 xs L, obs]
  rw [D_Step_init]
  rw [in_87 xs L, obs, in_88 xs L, obs, in_89 xs L, obs, in_90 xs L, obs, in_91 xs L, obs, obs, in_92 xs L, obs, in_93 xs L, obs, in_94 xs L, obs, in_95 xs L, obs, in_96 xs L, obs]
  rw [D_Step_init]
  rw [in_97 xs L, obs, in_98 xs L, obs, in_99 xs L, obs, in_100 xs L, obs, in_101 xs L, obs, obs, in_102 xs L, obs, in_103 xs L, obs, in_104 xs L, obs, in_105 xs L, obs, in_106 xs L, obs]
  rw [D_Step_init]
  rw [in_107 xs L, obs, in_108 xs L, obs, in_109 xs L, obs, in_110 xs L, obs, in_111 xs L, obs, obs, in_112 xs L, obs, in_113 xs L, obs, in_114 xs L, obs, in_115 xs L, obs, in_116 xs L, obs]
  rw [D_Step_init]
  rw [in_117 xs L, obs, in_118 xs L, obs, in_119 xs L, obs, in_120 xs L, obs, in_121 xs L, obs, obs, in_122 xs L, obs, in_123 xs L, obs, in_124 xs L, obs, in_125 xs L, obs, in_126 xs L, obs]
  rw [D_Step_init]
  rw [in_127 xs L, obs, in_128 xs L, obs, in_129 xs L, obs, in_130 xs L, obs, in_131 xs L, obs, obs, in_132 xs L, obs, in_133 xs L, obs, in_134 xs L, obs, in_135 xs L, obs, in_136 xs L, obs]
  rw [D_Step_init]
  rw [in_137 xs L, obs, in_138 xs L, obs, in_139 xs L, obs, in_140 xs L, obs, in_141 xs L, obs, obs, in_142 xs L, obs, in_143 xs L, obs, in_144 xs L, obs, in_145 xs L, obs, in_146 xs L, obs]
  rw [D_Step_init]
  rw [in_147 xs L, obs, in_148 xs L, obs, in_149 xs L, obs, in_150 xs L, obs, in_151 xs L, obs, obs, in_152 xs L, obs, in_153 xs L, obs, in_154 xs L, obs, in_155 xs L, obs, in_156 xs L, obs]
  rw [D_Step_init]
  rw [in_157 xs L, obs, in_158 xs L, obs, in_159 xs L, obs, in_160 xs L, obs, in_161 xs L, obs, obs, in_162 xs L, obs, in_163 xs L, obs, obs, in_164 xs L, obs, in_165 xs L, obs, in_166 xs L, obs, in_167 xs L, obs]
  rw [D_Machine_init]
  rw [in_168 xs L, obs, in_169 xs L, obs, in_170 xs L, obs, in_171 xs L, obs, in_172 xs L, obs, in_173 xs L, obs, in_174 xs L, obs, in_175 xs L, obs, in_176 xs L, obs, in_177 xs L, obs, in_178 xs L, obs, in_179 xs L, obs, in_180 xs L, obs, in_181 xs L, obs, in_182 xs L, obs, in_183 xs L, obs, in_184 xs L, obs, in_185 xs L, obs, in_186 xs L, obs, in_187 xs L, obs, in_188 xs L, obs, in_189 xs L, obs, in_190 xs L, obs, in_191 xs L, obs, obs, in_192 xs L, obs, in_193 xs L, obs, in_194 xs L, obs, in_195 xs L, obs, in_196 xs L, obs]
  rw [D_Census_init]
  rw [in_197 xs L, obs, in_198 xs L, obs, in_199 xs L, obs, in_200 xs L, obs, in_201 xs L, obs, in_202 xs L, obs, obs, in_203 xs L, obs, in_204 xs L, obs, obs, in_205 xs L, obs, in_206 xs L, obs]
  rw [D_M_init]
  rw [in_207 xs L, obs, in_208 xs L, obs, in_209 xs L, obs, in_210 xs L, obs, in_211 xs L, obs, in_212 xs L, obs, in_213 xs L, obs, in_214 xs L, obs, in_215 xs L, obs, in_216 xs L, obs, in_217 xs L, obs, in_218 xs L, obs, in_219 xs L, obs, in_220 xs L, obs, in_221 xs L, obs, in_222 xs L, obs, in_223 xs L, obs, in_224 xs L, obs, in_225 xs L, obs, in_226 xs L, obs, in_227 xs L, obs, in_228 xs L, obs, in_229 xs L, obs, in_230 xs L, obs, in_231 xs L, obs, in_232 xs L, obs, in_233 xs L, obs, in_234 xs L, obs, in_235 xs L, obs, in_236 xs L, obs, in_237 xs L, obs, in_238 xs L, obs, in_239 xs L, obs, in_240 xs L, obs, in_241 xs L, obs, in_242 xs L, obs, in_243 xs L, obs, in_244 xs L, obs, in_245 xs L, obs, in_246 xs L, obs, in_247 xs L, obs, in_248 xs L, obs, in_249 xs L, obs, in_250 xs L, obs, in_251 xs L, obs, in_252 xs L, obs, in_253 xs L, obs, in_254 xs L, obs, in_255 xs L, obs, in_256 xs L, obs, in_257 xs L, obs, in_258 xs L, obs, in_259 xs L, obs, in_260 xs L, obs, in_261 xs L, obs, in_262 xs L, obs, in_263 xs L, obs, in_264 xs L, obs, in_265 xs L, obs, in_266 xs L, obs, in_267 xs L, obs, in_268 xs L, obs, in_269 xs L, obs, in_270 xs L, obs, in_271 xs L, obs, in_272 xs L, obs, in_273 xs L, obs, in_274 xs L, obs, in_275 xs L, obs, in_276 xs L, obs, in_277 xs L, obs, in_278 xs L, obs, in_279 xs L, obs, in_280 xs L, obs, in_281 xs L, obs, obs]
