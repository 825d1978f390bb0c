/-! the methods, their words, their links; printed by gen/main.py -/
theorem nK0 : NK 0 (RX0, TX0, 4) tX0 := ⟨cK0, by
  intro k hk
  match k, hk with
  | 0, _ => exact ⟨rfl, Or.inr (Or.inr (Or.inr (Or.inl ⟨_, rfl⟩)))⟩
  | 1, _ => exact ⟨rfl, Or.inr (Or.inr (Or.inr (Or.inl ⟨_, rfl⟩)))⟩
  | 2, _ => exact ⟨rfl, Or.inr (Or.inr (Or.inr (Or.inr ⟨_, rfl⟩)))⟩
  | 3, _ => exact ⟨rfl, Or.inr (Or.inl rfl)⟩
  | k + 4, hk => exact absurd hk (show ¬ k + 4 < 4 by omega)⟩
theorem ck_u0 {r : vw_C} {ty : Nat → FieldType} (h : CK 0 r ty) : r = (RX0, TX0, 4) := (Option.some.inj h.1).symm
theorem nf_0_3 : ∀ r ty, CK 0 r ty → (r.2.1 3).2.2.2 = false := fun r ty h => by rw [ck_u0 h]; rfl
theorem nK1 : NK 1 (RX1, TX1, 14) tX1 := ⟨cK1, by
  intro k hk
  match k, hk with
  | 0, _ => exact ⟨rfl, Or.inr (Or.inr (Or.inr (Or.inl ⟨_, rfl⟩)))⟩
  | 1, _ => exact ⟨rfl, Or.inr (Or.inr (Or.inr (Or.inr ⟨_, rfl⟩)))⟩
  | 2, _ => exact ⟨rfl, Or.inr (Or.inr (Or.inr (Or.inr ⟨_, rfl⟩)))⟩
  | 3, _ => exact ⟨rfl, Or.inr (Or.inr (Or.inr (Or.inr ⟨_, rfl⟩)))⟩
  | 4, _ => exact ⟨rfl, Or.inr (Or.inr (Or.inr (Or.inr ⟨_, rfl⟩)))⟩
  | 5, _ => exact ⟨rfl, Or.inr (Or.inr (Or.inr (Or.inr ⟨_, rfl⟩)))⟩
  | 6, _ => exact ⟨rfl, Or.inr (Or.inr (Or.inr (Or.inr ⟨_, rfl⟩)))⟩
  | 7, _ => exact ⟨rfl, Or.inr (Or.inr (Or.inr (Or.inr ⟨_, rfl⟩)))⟩
  | 8, _ => exact ⟨rfl, Or.inr (Or.inr (Or.inr (Or.inr ⟨_, rfl⟩)))⟩
  | 9, _ => exact ⟨rfl, Or.inr (Or.inr (Or.inr (Or.inr ⟨_, rfl⟩)))⟩
  | 10, _ => exact ⟨rfl, Or.inl rfl⟩
  | 11, _ => exact ⟨rfl, Or.inl rfl⟩
  | 12, _ => exact ⟨rfl, Or.inr (Or.inr (Or.inl rfl))⟩
  | 13, _ => exact ⟨rfl, Or.inr (Or.inr (Or.inl rfl))⟩
  | k + 14, hk => exact absurd hk (show ¬ k + 14 < 14 by omega)⟩
theorem ck_u1 {r : vw_C} {ty : Nat → FieldType} (h : CK 1 r ty) : r = (RX1, TX1, 14) := (Option.some.inj h.1).symm
theorem nf_1_10 : ∀ r ty, CK 1 r ty → (r.2.1 10).2.2.2 = false := fun r ty h => by rw [ck_u1 h]; rfl
theorem nf_1_11 : ∀ r ty, CK 1 r ty → (r.2.1 11).2.2.2 = false := fun r ty h => by rw [ck_u1 h]; rfl
theorem nf_1_12 : ∀ r ty, CK 1 r ty → (r.2.1 12).2.2.2 = false := fun r ty h => by rw [ck_u1 h]; rfl
theorem nf_1_13 : ∀ r ty, CK 1 r ty → (r.2.1 13).2.2.2 = false := fun r ty h => by rw [ck_u1 h]; rfl
theorem nK2 : NK 2 (RX2, TX2, 6) tX2 := ⟨cK2, by
  intro k hk
  match k, hk with
  | 0, _ => exact ⟨rfl, Or.inr (Or.inr (Or.inr (Or.inl ⟨_, rfl⟩)))⟩
  | 1, _ => exact ⟨rfl, Or.inr (Or.inr (Or.inr (Or.inr ⟨_, rfl⟩)))⟩
  | 2, _ => exact ⟨rfl, Or.inl rfl⟩
  | 3, _ => exact ⟨rfl, Or.inl rfl⟩
  | 4, _ => exact ⟨rfl, Or.inl rfl⟩
  | 5, _ => exact ⟨rfl, Or.inl rfl⟩
  | k + 6, hk => exact absurd hk (show ¬ k + 6 < 6 by omega)⟩
theorem ck_u2 {r : vw_C} {ty : Nat → FieldType} (h : CK 2 r ty) : r = (RX2, TX2, 6) := (Option.some.inj h.1).symm
theorem nf_2_2 : ∀ r ty, CK 2 r ty → (r.2.1 2).2.2.2 = false := fun r ty h => by rw [ck_u2 h]; rfl
theorem nf_2_3 : ∀ r ty, CK 2 r ty → (r.2.1 3).2.2.2 = false := fun r ty h => by rw [ck_u2 h]; rfl
theorem nf_2_4 : ∀ r ty, CK 2 r ty → (r.2.1 4).2.2.2 = false := fun r ty h => by rw [ck_u2 h]; rfl
theorem nf_2_5 : ∀ r ty, CK 2 r ty → (r.2.1 5).2.2.2 = false := fun r ty h => by rw [ck_u2 h]; rfl
theorem nK3 : NK 3 (RX3, TX3, 17) tX3 := ⟨cK3, by
  intro k hk
  match k, hk with
  | 0, _ => exact ⟨rfl, Or.inr (Or.inr (Or.inr (Or.inl ⟨_, rfl⟩)))⟩
  | 1, _ => exact ⟨rfl, Or.inr (Or.inr (Or.inr (Or.inl ⟨_, rfl⟩)))⟩
  | 2, _ => exact ⟨rfl, Or.inr (Or.inr (Or.inr (Or.inr ⟨_, rfl⟩)))⟩
  | 3, _ => exact ⟨rfl, Or.inr (Or.inr (Or.inr (Or.inr ⟨_, rfl⟩)))⟩
  | 4, _ => exact ⟨rfl, Or.inr (Or.inr (Or.inr (Or.inr ⟨_, rfl⟩)))⟩
  | 5, _ => exact ⟨rfl, Or.inr (Or.inr (Or.inr (Or.inr ⟨_, rfl⟩)))⟩
  | 6, _ => exact ⟨rfl, Or.inl rfl⟩
  | 7, _ => exact ⟨rfl, Or.inr (Or.inr (Or.inr (Or.inr ⟨_, rfl⟩)))⟩
  | 8, _ => exact ⟨rfl, Or.inr (Or.inr (Or.inr (Or.inr ⟨_, rfl⟩)))⟩
  | 9, _ => exact ⟨rfl, Or.inr (Or.inr (Or.inr (Or.inr ⟨_, rfl⟩)))⟩
  | 10, _ => exact ⟨rfl, Or.inl rfl⟩
  | 11, _ => exact ⟨rfl, Or.inr (Or.inr (Or.inl rfl))⟩
  | 12, _ => exact ⟨rfl, Or.inr (Or.inr (Or.inr (Or.inr ⟨_, rfl⟩)))⟩
  | 13, _ => exact ⟨rfl, Or.inr (Or.inr (Or.inr (Or.inr ⟨_, rfl⟩)))⟩
  | 14, _ => exact ⟨rfl, Or.inl rfl⟩
  | 15, _ => exact ⟨rfl, Or.inr (Or.inr (Or.inr (Or.inl ⟨_, rfl⟩)))⟩
  | 16, _ => exact ⟨rfl, Or.inr (Or.inr (Or.inr (Or.inl ⟨_, rfl⟩)))⟩
  | k + 17, hk => exact absurd hk (show ¬ k + 17 < 17 by omega)⟩
theorem ck_u3 {r : vw_C} {ty : Nat → FieldType} (h : CK 3 r ty) : r = (RX3, TX3, 17) := (Option.some.inj h.1).symm
theorem nf_3_6 : ∀ r ty, CK 3 r ty → (r.2.1 6).2.2.2 = false := fun r ty h => by rw [ck_u3 h]; rfl
theorem nf_3_10 : ∀ r ty, CK 3 r ty → (r.2.1 10).2.2.2 = false := fun r ty h => by rw [ck_u3 h]; rfl
theorem nf_3_11 : ∀ r ty, CK 3 r ty → (r.2.1 11).2.2.2 = false := fun r ty h => by rw [ck_u3 h]; rfl
theorem nf_3_14 : ∀ r ty, CK 3 r ty → (r.2.1 14).2.2.2 = false := fun r ty h => by rw [ck_u3 h]; rfl
theorem nK4 : NK 4 (RX4, TX4, 5) tX4 := ⟨cK4, by
  intro k hk
  match k, hk with
  | 0, _ => exact ⟨rfl, Or.inr (Or.inr (Or.inr (Or.inl ⟨_, rfl⟩)))⟩
  | 1, _ => exact ⟨rfl, Or.inr (Or.inr (Or.inr (Or.inr ⟨_, rfl⟩)))⟩
  | 2, _ => exact ⟨rfl, Or.inr (Or.inr (Or.inr (Or.inr ⟨_, rfl⟩)))⟩
  | 3, _ => exact ⟨rfl, Or.inr (Or.inr (Or.inr (Or.inr ⟨_, rfl⟩)))⟩
  | 4, _ => exact ⟨rfl, Or.inl rfl⟩
  | k + 5, hk => exact absurd hk (show ¬ k + 5 < 5 by omega)⟩
theorem ck_u4 {r : vw_C} {ty : Nat → FieldType} (h : CK 4 r ty) : r = (RX4, TX4, 5) := (Option.some.inj h.1).symm
theorem nf_4_4 : ∀ r ty, CK 4 r ty → (r.2.1 4).2.2.2 = false := fun r ty h => by rw [ck_u4 h]; rfl
theorem nK5 : NK 5 (RX5, TX5, 3) tX5 := ⟨cK5, by
  intro k hk
  match k, hk with
  | 0, _ => exact ⟨rfl, Or.inr (Or.inr (Or.inr (Or.inr ⟨_, rfl⟩)))⟩
  | 1, _ => exact ⟨rfl, Or.inl rfl⟩
  | 2, _ => exact ⟨rfl, Or.inr (Or.inr (Or.inl rfl))⟩
  | k + 3, hk => exact absurd hk (show ¬ k + 3 < 3 by omega)⟩
theorem ck_u5 {r : vw_C} {ty : Nat → FieldType} (h : CK 5 r ty) : r = (RX5, TX5, 3) := (Option.some.inj h.1).symm
theorem nf_5_1 : ∀ r ty, CK 5 r ty → (r.2.1 1).2.2.2 = false := fun r ty h => by rw [ck_u5 h]; rfl
theorem nf_5_2 : ∀ r ty, CK 5 r ty → (r.2.1 2).2.2.2 = false := fun r ty h => by rw [ck_u5 h]; rfl
theorem nK6 : NK 6 (RX6, TX6, 2) tX6 := ⟨cK6, by
  intro k hk
  match k, hk with
  | 0, _ => exact ⟨rfl, Or.inr (Or.inr (Or.inr (Or.inr ⟨_, rfl⟩)))⟩
  | 1, _ => exact ⟨rfl, Or.inr (Or.inr (Or.inr (Or.inr ⟨_, rfl⟩)))⟩
  | k + 2, hk => exact absurd hk (show ¬ k + 2 < 2 by omega)⟩
theorem ck_u6 {r : vw_C} {ty : Nat → FieldType} (h : CK 6 r ty) : r = (RX6, TX6, 2) := (Option.some.inj h.1).symm
theorem nK7 : NK 7 (RX7, TX7, 8) tX7 := ⟨cK7, by
  intro k hk
  match k, hk with
  | 0, _ => exact ⟨rfl, Or.inr (Or.inr (Or.inr (Or.inl ⟨_, rfl⟩)))⟩
  | 1, _ => exact ⟨rfl, Or.inr (Or.inr (Or.inr (Or.inl ⟨_, rfl⟩)))⟩
  | 2, _ => exact ⟨rfl, Or.inr (Or.inr (Or.inr (Or.inr ⟨_, rfl⟩)))⟩
  | 3, _ => exact ⟨rfl, Or.inl rfl⟩
  | 4, _ => exact ⟨rfl, Or.inl rfl⟩
  | 5, _ => exact ⟨rfl, Or.inl rfl⟩
  | 6, _ => exact ⟨rfl, Or.inr (Or.inr (Or.inl rfl))⟩
  | 7, _ => exact ⟨rfl, Or.inr (Or.inr (Or.inl rfl))⟩
  | k + 8, hk => exact absurd hk (show ¬ k + 8 < 8 by omega)⟩
theorem ck_u7 {r : vw_C} {ty : Nat → FieldType} (h : CK 7 r ty) : r = (RX7, TX7, 8) := (Option.some.inj h.1).symm
theorem nf_7_3 : ∀ r ty, CK 7 r ty → (r.2.1 3).2.2.2 = false := fun r ty h => by rw [ck_u7 h]; rfl
theorem nf_7_4 : ∀ r ty, CK 7 r ty → (r.2.1 4).2.2.2 = false := fun r ty h => by rw [ck_u7 h]; rfl
theorem nf_7_5 : ∀ r ty, CK 7 r ty → (r.2.1 5).2.2.2 = false := fun r ty h => by rw [ck_u7 h]; rfl
theorem nf_7_6 : ∀ r ty, CK 7 r ty → (r.2.1 6).2.2.2 = false := fun r ty h => by rw [ck_u7 h]; rfl
theorem nf_7_7 : ∀ r ty, CK 7 r ty → (r.2.1 7).2.2.2 = false := fun r ty h => by rw [ck_u7 h]; rfl
theorem nK8 : NK 8 (RX8, TX8, 8) tX8 := ⟨cK8, by
  intro k hk
  match k, hk with
  | 0, _ => exact ⟨rfl, Or.inr (Or.inr (Or.inr (Or.inl ⟨_, rfl⟩)))⟩
  | 1, _ => exact ⟨rfl, Or.inr (Or.inr (Or.inr (Or.inl ⟨_, rfl⟩)))⟩
  | 2, _ => exact ⟨rfl, Or.inr (Or.inr (Or.inr (Or.inr ⟨_, rfl⟩)))⟩
  | 3, _ => exact ⟨rfl, Or.inr (Or.inr (Or.inr (Or.inl ⟨_, rfl⟩)))⟩
  | 4, _ => exact ⟨rfl, Or.inr (Or.inr (Or.inr (Or.inl ⟨_, rfl⟩)))⟩
  | 5, _ => exact ⟨rfl, Or.inr (Or.inr (Or.inr (Or.inl ⟨_, rfl⟩)))⟩
  | 6, _ => exact ⟨rfl, Or.inr (Or.inr (Or.inr (Or.inl ⟨_, rfl⟩)))⟩
  | 7, _ => exact ⟨rfl, Or.inl rfl⟩
  | k + 8, hk => exact absurd hk (show ¬ k + 8 < 8 by omega)⟩
theorem ck_u8 {r : vw_C} {ty : Nat → FieldType} (h : CK 8 r ty) : r = (RX8, TX8, 8) := (Option.some.inj h.1).symm
theorem nf_8_7 : ∀ r ty, CK 8 r ty → (r.2.1 7).2.2.2 = false := fun r ty h => by rw [ck_u8 h]; rfl
theorem nK9 : NK 9 (RX9, TX9, 54) tX9 := ⟨cK9, by
  intro k hk
  match k, hk with
  | 0, _ => exact ⟨rfl, Or.inl rfl⟩
  | 1, _ => exact ⟨rfl, Or.inr (Or.inr (Or.inr (Or.inr ⟨_, rfl⟩)))⟩
  | 2, _ => exact ⟨rfl, Or.inr (Or.inr (Or.inr (Or.inr ⟨_, rfl⟩)))⟩
  | 3, _ => exact ⟨rfl, Or.inl rfl⟩
  | 4, _ => exact ⟨rfl, Or.inl rfl⟩
  | 5, _ => exact ⟨rfl, Or.inr (Or.inr (Or.inr (Or.inr ⟨_, rfl⟩)))⟩
  | 6, _ => exact ⟨rfl, Or.inr (Or.inr (Or.inr (Or.inr ⟨_, rfl⟩)))⟩
  | 7, _ => exact ⟨rfl, Or.inr (Or.inr (Or.inr (Or.inr ⟨_, rfl⟩)))⟩
  | 8, _ => exact ⟨rfl, Or.inr (Or.inr (Or.inr (Or.inr ⟨_, rfl⟩)))⟩
  | 9, _ => exact ⟨rfl, Or.inr (Or.inr (Or.inr (Or.inr ⟨_, rfl⟩)))⟩
  | 10, _ => exact ⟨rfl, Or.inr (Or.inr (Or.inr (Or.inr ⟨_, rfl⟩)))⟩
  | 11, _ => exact ⟨rfl, Or.inr (Or.inr (Or.inr (Or.inr ⟨_, rfl⟩)))⟩
  | 12, _ => exact ⟨rfl, Or.inr (Or.inr (Or.inr (Or.inr ⟨_, rfl⟩)))⟩
  | 13, _ => exact ⟨rfl, Or.inr (Or.inr (Or.inr (Or.inr ⟨_, rfl⟩)))⟩
  | 14, _ => exact ⟨rfl, Or.inr (Or.inr (Or.inr (Or.inr ⟨_, rfl⟩)))⟩
  | 15, _ => exact ⟨rfl, Or.inr (Or.inr (Or.inr (Or.inr ⟨_, rfl⟩)))⟩
  | 16, _ => exact ⟨rfl, Or.inr (Or.inr (Or.inr (Or.inr ⟨_, rfl⟩)))⟩
  | 17, _ => exact ⟨rfl, Or.inr (Or.inr (Or.inr (Or.inr ⟨_, rfl⟩)))⟩
  | 18, _ => exact ⟨rfl, Or.inr (Or.inr (Or.inr (Or.inr ⟨_, rfl⟩)))⟩
  | 19, _ => exact ⟨rfl, Or.inr (Or.inr (Or.inr (Or.inr ⟨_, rfl⟩)))⟩
  | 20, _ => exact ⟨rfl, Or.inl rfl⟩
  | 21, _ => exact ⟨rfl, Or.inl rfl⟩
  | 22, _ => exact ⟨rfl, Or.inl rfl⟩
  | 23, _ => exact ⟨rfl, Or.inl rfl⟩
  | 24, _ => exact ⟨rfl, Or.inl rfl⟩
  | 25, _ => exact ⟨rfl, Or.inl rfl⟩
  | 26, _ => exact ⟨rfl, Or.inl rfl⟩
  | 27, _ => exact ⟨rfl, Or.inr (Or.inr (Or.inr (Or.inr ⟨_, rfl⟩)))⟩
  | 28, _ => exact ⟨rfl, Or.inr (Or.inr (Or.inr (Or.inr ⟨_, rfl⟩)))⟩
  | 29, _ => exact ⟨rfl, Or.inr (Or.inr (Or.inr (Or.inr ⟨_, rfl⟩)))⟩
  | 30, _ => exact ⟨rfl, Or.inr (Or.inr (Or.inr (Or.inr ⟨_, rfl⟩)))⟩
  | 31, _ => exact ⟨rfl, Or.inr (Or.inr (Or.inr (Or.inr ⟨_, rfl⟩)))⟩
  | 32, _ => exact ⟨rfl, Or.inr (Or.inr (Or.inr (Or.inr ⟨_, rfl⟩)))⟩
  | 33, _ => exact ⟨rfl, Or.inr (Or.inr (Or.inr (Or.inr ⟨_, rfl⟩)))⟩
  | 34, _ => exact ⟨rfl, Or.inl rfl⟩
  | 35, _ => exact ⟨rfl, Or.inl rfl⟩
  | 36, _ => exact ⟨rfl, Or.inl rfl⟩
  | 37, _ => exact ⟨rfl, Or.inl rfl⟩
  | 38, _ => exact ⟨rfl, Or.inl rfl⟩
  | 39, _ => exact ⟨rfl, Or.inr (Or.inr (Or.inr (Or.inr ⟨_, rfl⟩)))⟩
  | 40, _ => exact ⟨rfl, Or.inr (Or.inr (Or.inr (Or.inr ⟨_, rfl⟩)))⟩
  | 41, _ => exact ⟨rfl, Or.inr (Or.inr (Or.inr (Or.inr ⟨_, rfl⟩)))⟩
  | 42, _ => exact ⟨rfl, Or.inr (Or.inr (Or.inr (Or.inr ⟨_, rfl⟩)))⟩
  | 43, _ => exact ⟨rfl, Or.inr (Or.inr (Or.inr (Or.inr ⟨_, rfl⟩)))⟩
  | 44, _ => exact ⟨rfl, Or.inr (Or.inr (Or.inr (Or.inr ⟨_, rfl⟩)))⟩
  | 45, _ => exact ⟨rfl, Or.inr (Or.inr (Or.inr (Or.inr ⟨_, rfl⟩)))⟩
  | 46, _ => exact ⟨rfl, Or.inr (Or.inr (Or.inr (Or.inr ⟨_, rfl⟩)))⟩
  | 47, _ => exact ⟨rfl, Or.inr (Or.inr (Or.inr (Or.inr ⟨_, rfl⟩)))⟩
  | 48, _ => exact ⟨rfl, Or.inr (Or.inr (Or.inr (Or.inr ⟨_, rfl⟩)))⟩
  | 49, _ => exact ⟨rfl, Or.inr (Or.inr (Or.inr (Or.inr ⟨_, rfl⟩)))⟩
  | 50, _ => exact ⟨rfl, Or.inr (Or.inr (Or.inr (Or.inr ⟨_, rfl⟩)))⟩
  | 51, _ => exact ⟨rfl, Or.inr (Or.inr (Or.inr (Or.inr ⟨_, rfl⟩)))⟩
  | 52, _ => exact ⟨rfl, Or.inr (Or.inl rfl)⟩
  | 53, _ => exact ⟨rfl, Or.inl rfl⟩
  | k + 54, hk => exact absurd hk (show ¬ k + 54 < 54 by omega)⟩
theorem ck_u9 {r : vw_C} {ty : Nat → FieldType} (h : CK 9 r ty) : r = (RX9, TX9, 54) := (Option.some.inj h.1).symm
theorem nf_9_0 : ∀ r ty, CK 9 r ty → (r.2.1 0).2.2.2 = false := fun r ty h => by rw [ck_u9 h]; rfl
theorem nf_9_3 : ∀ r ty, CK 9 r ty → (r.2.1 3).2.2.2 = false := fun r ty h => by rw [ck_u9 h]; rfl
theorem nf_9_4 : ∀ r ty, CK 9 r ty → (r.2.1 4).2.2.2 = false := fun r ty h => by rw [ck_u9 h]; rfl
theorem nf_9_20 : ∀ r ty, CK 9 r ty → (r.2.1 20).2.2.2 = false := fun r ty h => by rw [ck_u9 h]; rfl
theorem nf_9_21 : ∀ r ty, CK 9 r ty → (r.2.1 21).2.2.2 = false := fun r ty h => by rw [ck_u9 h]; rfl
theorem nf_9_22 : ∀ r ty, CK 9 r ty → (r.2.1 22).2.2.2 = false := fun r ty h => by rw [ck_u9 h]; rfl
theorem nf_9_23 : ∀ r ty, CK 9 r ty → (r.2.1 23).2.2.2 = false := fun r ty h => by rw [ck_u9 h]; rfl
theorem nf_9_24 : ∀ r ty, CK 9 r ty → (r.2.1 24).2.2.2 = false := fun r ty h => by rw [ck_u9 h]; rfl
theorem nf_9_25 : ∀ r ty, CK 9 r ty → (r.2.1 25).2.2.2 = false := fun r ty h => by rw [ck_u9 h]; rfl
theorem nf_9_26 : ∀ r ty, CK 9 r ty → (r.2.1 26).2.2.2 = false := fun r ty h => by rw [ck_u9 h]; rfl
theorem nf_9_34 : ∀ r ty, CK 9 r ty → (r.2.1 34).2.2.2 = false := fun r ty h => by rw [ck_u9 h]; rfl
theorem nf_9_35 : ∀ r ty, CK 9 r ty → (r.2.1 35).2.2.2 = false := fun r ty h => by rw [ck_u9 h]; rfl
theorem nf_9_36 : ∀ r ty, CK 9 r ty → (r.2.1 36).2.2.2 = false := fun r ty h => by rw [ck_u9 h]; rfl
theorem nf_9_37 : ∀ r ty, CK 9 r ty → (r.2.1 37).2.2.2 = false := fun r ty h => by rw [ck_u9 h]; rfl
theorem nf_9_38 : ∀ r ty, CK 9 r ty → (r.2.1 38).2.2.2 = false := fun r ty h => by rw [ck_u9 h]; rfl
theorem nf_9_52 : ∀ r ty, CK 9 r ty → (r.2.1 52).2.2.2 = false := fun r ty h => by rw [ck_u9 h]; rfl
theorem nf_9_53 : ∀ r ty, CK 9 r ty → (r.2.1 53).2.2.2 = false := fun r ty h => by rw [ck_u9 h]; rfl
theorem tb_of {N : Nat} (pc : Nat) (offs : Array Int) (tg : Nat → Nat) (h : ∀ j, j < N → offs[j]? = some ((tg j : Int) - (pc : Int))) (j : Nat) (hj : j < N) : ∃ off, offs[j]? = some off ∧ (pc : Int) + off = (tg j : Int) := ⟨_, h j hj, by omega⟩
theorem mw_max : Jvm.Cond.static Lib.Math.max.name ∈ lw_good ∧ Jvm.Cond.initialized "java/lang/Math" ∈ lw_good ∧ Jvm.Cond.code Lib.Math.max.name Lib.Math.max.code 2 (some .int) ∈ lw_good := ⟨mg 602 (by decide +kernel) (by decide +kernel), mg 92 (by decide +kernel) (by decide +kernel), mg 603 (by decide +kernel) (by decide +kernel)⟩
theorem mw_min : Jvm.Cond.static Lib.MathLoose.min_long.x ∈ lw_good ∧ Jvm.Cond.initialized "java/lang/Math" ∈ lw_good ∧ Jvm.Cond.code Lib.MathLoose.min_long.x Lib.MathLoose.min_long.code 4 (some .long) ∈ lw_good := ⟨mg 812 (by decide +kernel) (by decide +kernel), mg 92 (by decide +kernel) (by decide +kernel), mg 813 (by decide +kernel) (by decide +kernel)⟩
def Y_Signs_init : YY := (⟨"TreeTongues$Signs", "<init>", "()V"⟩, prog_7_method_1_code, 1, none)
theorem yk_Signs_init : YK Y_Signs_init := ⟨mg 105 (by decide +kernel) (by decide +kernel), mg 82 (by decide +kernel) (by decide +kernel), ⟨by decide +kernel, by decide +kernel⟩, by decide +kernel, by decide⟩
theorem np_Signs_init : (parseMethodDescriptor Y_Signs_init.1.desc).map (fun d => d.parameters.length) = some 0 := by decide +kernel
theorem ik_Signs_init : Jvm.Cond.instanceMethod Y_Signs_init.1 ∈ lw_good := mg 104 (by decide +kernel) (by decide +kernel)
def Y_Row_init : YY := (⟨"TreeTongues$Row", "<init>", "(LTreeTongues$Signs;)V"⟩, prog_6_method_1_code, 2, none)
theorem yk_Row_init : YK Y_Row_init := ⟨mg 128 (by decide +kernel) (by decide +kernel), mg 83 (by decide +kernel) (by decide +kernel), ⟨by decide +kernel, by decide +kernel⟩, by decide +kernel, by decide⟩
theorem np_Row_init : (parseMethodDescriptor Y_Row_init.1.desc).map (fun d => d.parameters.length) = some 1 := by decide +kernel
theorem ik_Row_init : Jvm.Cond.instanceMethod Y_Row_init.1 ∈ lw_good := mg 127 (by decide +kernel) (by decide +kernel)
def Y_Net_init : YY := (⟨"TreeTongues$Net", "<init>", "(LTreeTongues$Signs;)V"⟩, prog_4_method_1_code, 2, none)
theorem yk_Net_init : YK Y_Net_init := ⟨mg 158 (by decide +kernel) (by decide +kernel), mg 84 (by decide +kernel) (by decide +kernel), ⟨by decide +kernel, by decide +kernel⟩, by decide +kernel, by decide⟩
theorem np_Net_init : (parseMethodDescriptor Y_Net_init.1.desc).map (fun d => d.parameters.length) = some 1 := by decide +kernel
theorem ik_Net_init : Jvm.Cond.instanceMethod Y_Net_init.1 ∈ lw_good := mg 157 (by decide +kernel) (by decide +kernel)
def Y_Step_init : YY := (⟨"TreeTongues$Step", "<init>", "()V"⟩, prog_8_method_1_code, 1, none)
theorem yk_Step_init : YK Y_Step_init := ⟨mg 191 (by decide +kernel) (by decide +kernel), mg 86 (by decide +kernel) (by decide +kernel), ⟨by decide +kernel, by decide +kernel⟩, by decide +kernel, by decide⟩
theorem np_Step_init : (parseMethodDescriptor Y_Step_init.1.desc).map (fun d => d.parameters.length) = some 0 := by decide +kernel
theorem ik_Step_init : Jvm.Cond.instanceMethod Y_Step_init.1 ∈ lw_good := mg 190 (by decide +kernel) (by decide +kernel)
def Y_Reducer_init : YY := (⟨"TreeTongues$Reducer", "<init>", "(LTreeTongues$Signs;LTreeTongues$Net;)V"⟩, prog_5_method_1_code, 4, none)
theorem yk_Reducer_init : YK Y_Reducer_init := ⟨mg 184 (by decide +kernel) (by decide +kernel), mg 85 (by decide +kernel) (by decide +kernel), ⟨by decide +kernel, by decide +kernel⟩, by decide +kernel, by decide⟩
theorem np_Reducer_init : (parseMethodDescriptor Y_Reducer_init.1.desc).map (fun d => d.parameters.length) = some 2 := by decide +kernel
theorem ik_Reducer_init : Jvm.Cond.instanceMethod Y_Reducer_init.1 ∈ lw_good := mg 183 (by decide +kernel) (by decide +kernel)
def Y_Machine_init : YY := (⟨"TreeTongues$Machine", "<init>", "(LTreeTongues$Signs;)V"⟩, prog_3_method_1_code, 2, none)
theorem yk_Machine_init : YK Y_Machine_init := ⟨mg 256 (by decide +kernel) (by decide +kernel), mg 87 (by decide +kernel) (by decide +kernel), ⟨by decide +kernel, by decide +kernel⟩, by decide +kernel, by decide⟩
theorem np_Machine_init : (parseMethodDescriptor Y_Machine_init.1.desc).map (fun d => d.parameters.length) = some 1 := by decide +kernel
theorem ik_Machine_init : Jvm.Cond.instanceMethod Y_Machine_init.1 ∈ lw_good := mg 255 (by decide +kernel) (by decide +kernel)
def Y_Census_init : YY := (⟨"TreeTongues$Census", "<init>", "(LTreeTongues$Signs;LTreeTongues$Row;)V"⟩, prog_2_method_1_code, 3, none)
theorem yk_Census_init : YK Y_Census_init := ⟨mg 318 (by decide +kernel) (by decide +kernel), mg 88 (by decide +kernel) (by decide +kernel), ⟨by decide +kernel, by decide +kernel⟩, by decide +kernel, by decide⟩
theorem np_Census_init : (parseMethodDescriptor Y_Census_init.1.desc).map (fun d => d.parameters.length) = some 2 := by decide +kernel
theorem ik_Census_init : Jvm.Cond.instanceMethod Y_Census_init.1 ∈ lw_good := mg 317 (by decide +kernel) (by decide +kernel)
def Y_T_init : YY := (⟨"TreeTongues", "<init>", "()V"⟩, prog_1_method_1_code, 1, none)
theorem yk_T_init : YK Y_T_init := ⟨mg 97 (by decide +kernel) (by decide +kernel), mg 81 (by decide +kernel) (by decide +kernel), ⟨by decide +kernel, by decide +kernel⟩, by decide +kernel, by decide⟩
theorem np_T_init : (parseMethodDescriptor Y_T_init.1.desc).map (fun d => d.parameters.length) = some 0 := by decide +kernel
theorem ik_T_init : Jvm.Cond.instanceMethod Y_T_init.1 ∈ lw_good := mg 96 (by decide +kernel) (by decide +kernel)
def Y_Signs_add : YY := (⟨"TreeTongues$Signs", "add", "(I)I"⟩, prog_7_method_2_code, 2, some .int)
theorem yk_Signs_add : YK Y_Signs_add := ⟨mg 365 (by decide +kernel) (by decide +kernel), mg 82 (by decide +kernel) (by decide +kernel), ⟨by decide +kernel, by decide +kernel⟩, by decide +kernel, by decide⟩
theorem np_Signs_add : (parseMethodDescriptor Y_Signs_add.1.desc).map (fun d => d.parameters.length) = some 1 := by decide +kernel
theorem vk_Signs_add : Jvm.Cond.instanceMethod Y_Signs_add.1 ∈ lw_good ∧ Jvm.Cond.selects Y_Signs_add.1.cls Y_Signs_add.1 Y_Signs_add.1 ∈ lw_good := ⟨mg 363 (by decide +kernel) (by decide +kernel), mg 364 (by decide +kernel) (by decide +kernel)⟩
def Y_T_sign : YY := (⟨"TreeTongues", "sign", "(I)I"⟩, prog_1_method_2_code, 2, some .int)
theorem yk_T_sign : YK Y_T_sign := ⟨mg 361 (by decide +kernel) (by decide +kernel), mg 81 (by decide +kernel) (by decide +kernel), ⟨by decide +kernel, by decide +kernel⟩, by decide +kernel, by decide⟩
theorem np_T_sign : (parseMethodDescriptor Y_T_sign.1.desc).map (fun d => d.parameters.length) = some 1 := by decide +kernel
theorem vk_T_sign : Jvm.Cond.instanceMethod Y_T_sign.1 ∈ lw_good ∧ Jvm.Cond.selects Y_T_sign.1.cls Y_T_sign.1 Y_T_sign.1 ∈ lw_good := ⟨mg 359 (by decide +kernel) (by decide +kernel), mg 360 (by decide +kernel) (by decide +kernel)⟩
def Y_Signs_knows : YY := (⟨"TreeTongues$Signs", "knows", "(I)Z"⟩, prog_7_method_3_code, 2, some .boolean)
theorem yk_Signs_knows : YK Y_Signs_knows := ⟨mg 373 (by decide +kernel) (by decide +kernel), mg 82 (by decide +kernel) (by decide +kernel), ⟨by decide +kernel, by decide +kernel⟩, by decide +kernel, by decide⟩
theorem np_Signs_knows : (parseMethodDescriptor Y_Signs_knows.1.desc).map (fun d => d.parameters.length) = some 1 := by decide +kernel
theorem vk_Signs_knows : Jvm.Cond.instanceMethod Y_Signs_knows.1 ∈ lw_good ∧ Jvm.Cond.selects Y_Signs_knows.1.cls Y_Signs_knows.1 Y_Signs_knows.1 ∈ lw_good := ⟨mg 371 (by decide +kernel) (by decide +kernel), mg 372 (by decide +kernel) (by decide +kernel)⟩
def Y_Signs_rankOf : YY := (⟨"TreeTongues$Signs", "rankOf", "(I)I"⟩, prog_7_method_4_code, 2, some .int)
theorem yk_Signs_rankOf : YK Y_Signs_rankOf := ⟨mg 377 (by decide +kernel) (by decide +kernel), mg 82 (by decide +kernel) (by decide +kernel), ⟨by decide +kernel, by decide +kernel⟩, by decide +kernel, by decide⟩
theorem np_Signs_rankOf : (parseMethodDescriptor Y_Signs_rankOf.1.desc).map (fun d => d.parameters.length) = some 1 := by decide +kernel
theorem vk_Signs_rankOf : Jvm.Cond.instanceMethod Y_Signs_rankOf.1 ∈ lw_good ∧ Jvm.Cond.selects Y_Signs_rankOf.1.cls Y_Signs_rankOf.1 Y_Signs_rankOf.1 ∈ lw_good := ⟨mg 375 (by decide +kernel) (by decide +kernel), mg 376 (by decide +kernel) (by decide +kernel)⟩
def Y_T_rank : YY := (⟨"TreeTongues", "rank", "(I)I"⟩, prog_1_method_3_code, 2, some .int)
theorem yk_T_rank : YK Y_T_rank := ⟨mg 369 (by decide +kernel) (by decide +kernel), mg 81 (by decide +kernel) (by decide +kernel), ⟨by decide +kernel, by decide +kernel⟩, by decide +kernel, by decide⟩
theorem np_T_rank : (parseMethodDescriptor Y_T_rank.1.desc).map (fun d => d.parameters.length) = some 1 := by decide +kernel
theorem vk_T_rank : Jvm.Cond.instanceMethod Y_T_rank.1 ∈ lw_good ∧ Jvm.Cond.selects Y_T_rank.1.cls Y_T_rank.1 Y_T_rank.1 ∈ lw_good := ⟨mg 367 (by decide +kernel) (by decide +kernel), mg 368 (by decide +kernel) (by decide +kernel)⟩
def Y_Row_add : YY := (⟨"TreeTongues$Row", "add", "(I)V"⟩, prog_6_method_2_code, 2, none)
theorem yk_Row_add : YK Y_Row_add := ⟨mg 385 (by decide +kernel) (by decide +kernel), mg 83 (by decide +kernel) (by decide +kernel), ⟨by decide +kernel, by decide +kernel⟩, by decide +kernel, by decide⟩
theorem np_Row_add : (parseMethodDescriptor Y_Row_add.1.desc).map (fun d => d.parameters.length) = some 1 := by decide +kernel
theorem vk_Row_add : Jvm.Cond.instanceMethod Y_Row_add.1 ∈ lw_good ∧ Jvm.Cond.selects Y_Row_add.1.cls Y_Row_add.1 Y_Row_add.1 ∈ lw_good := ⟨mg 383 (by decide +kernel) (by decide +kernel), mg 384 (by decide +kernel) (by decide +kernel)⟩
def Y_T_put : YY := (⟨"TreeTongues", "put", "(I)I"⟩, prog_1_method_4_code, 2, some .int)
theorem yk_T_put : YK Y_T_put := ⟨mg 381 (by decide +kernel) (by decide +kernel), mg 81 (by decide +kernel) (by decide +kernel), ⟨by decide +kernel, by decide +kernel⟩, by decide +kernel, by decide⟩
theorem np_T_put : (parseMethodDescriptor Y_T_put.1.desc).map (fun d => d.parameters.length) = some 1 := by decide +kernel
theorem vk_T_put : Jvm.Cond.instanceMethod Y_T_put.1 ∈ lw_good ∧ Jvm.Cond.selects Y_T_put.1.cls Y_T_put.1 Y_T_put.1 ∈ lw_good := ⟨mg 379 (by decide +kernel) (by decide +kernel), mg 380 (by decide +kernel) (by decide +kernel)⟩
def Y_T_drop : YY := (⟨"TreeTongues", "drop", "()I"⟩, prog_1_method_5_code, 2, some .int)
theorem yk_T_drop : YK Y_T_drop := ⟨mg 389 (by decide +kernel) (by decide +kernel), mg 81 (by decide +kernel) (by decide +kernel), ⟨by decide +kernel, by decide +kernel⟩, by decide +kernel, by decide⟩
theorem np_T_drop : (parseMethodDescriptor Y_T_drop.1.desc).map (fun d => d.parameters.length) = some 0 := by decide +kernel
theorem vk_T_drop : Jvm.Cond.instanceMethod Y_T_drop.1 ∈ lw_good ∧ Jvm.Cond.selects Y_T_drop.1.cls Y_T_drop.1 Y_T_drop.1 ∈ lw_good := ⟨mg 387 (by decide +kernel) (by decide +kernel), mg 388 (by decide +kernel) (by decide +kernel)⟩
def Y_T_at : YY := (⟨"TreeTongues", "at", "(I)I"⟩, prog_1_method_6_code, 2, some .int)
theorem yk_T_at : YK Y_T_at := ⟨mg 393 (by decide +kernel) (by decide +kernel), mg 81 (by decide +kernel) (by decide +kernel), ⟨by decide +kernel, by decide +kernel⟩, by decide +kernel, by decide⟩
theorem np_T_at : (parseMethodDescriptor Y_T_at.1.desc).map (fun d => d.parameters.length) = some 1 := by decide +kernel
theorem vk_T_at : Jvm.Cond.instanceMethod Y_T_at.1 ∈ lw_good ∧ Jvm.Cond.selects Y_T_at.1.cls Y_T_at.1 Y_T_at.1 ∈ lw_good := ⟨mg 391 (by decide +kernel) (by decide +kernel), mg 392 (by decide +kernel) (by decide +kernel)⟩
def Y_Tongue_init : YY := (⟨"TreeTongues$Tongue", "<init>", "(LTreeTongues$Signs;)V"⟩, prog_9_method_1_code, 2, none)
theorem yk_Tongue_init : YK Y_Tongue_init := ⟨mg 405 (by decide +kernel) (by decide +kernel), mg 90 (by decide +kernel) (by decide +kernel), ⟨by decide +kernel, by decide +kernel⟩, by decide +kernel, by decide⟩
theorem np_Tongue_init : (parseMethodDescriptor Y_Tongue_init.1.desc).map (fun d => d.parameters.length) = some 1 := by decide +kernel
theorem ik_Tongue_init : Jvm.Cond.instanceMethod Y_Tongue_init.1 ∈ lw_good := mg 404 (by decide +kernel) (by decide +kernel)
def Y_T_slot : YY := (⟨"TreeTongues", "slot", "(I)LTreeTongues$Tongue;"⟩, prog_1_method_32_code, 2, some (.object "TreeTongues$Tongue"))
theorem yk_T_slot : YK Y_T_slot := ⟨mg 401 (by decide +kernel) (by decide +kernel), mg 81 (by decide +kernel) (by decide +kernel), ⟨by decide +kernel, by decide +kernel⟩, by decide +kernel, by decide⟩
theorem np_T_slot : (parseMethodDescriptor Y_T_slot.1.desc).map (fun d => d.parameters.length) = some 1 := by decide +kernel
theorem vk_T_slot : Jvm.Cond.instanceMethod Y_T_slot.1 ∈ lw_good ∧ Jvm.Cond.selects Y_T_slot.1.cls Y_T_slot.1 Y_T_slot.1 ∈ lw_good := ⟨mg 400 (by decide +kernel) (by decide +kernel), mg 0 (by decide +kernel) (by decide +kernel)⟩
def Y_Arr_fill_IIV : YY := (⟨"java/util/Arrays", "fill", "([II)V"⟩, prog_13_method_103_code, 4, none)
theorem yk_Arr_fill_IIV : YK Y_Arr_fill_IIV := ⟨mg 446 (by decide +kernel) (by decide +kernel), mg 91 (by decide +kernel) (by decide +kernel), ⟨by decide +kernel, by decide +kernel⟩, by decide +kernel, by decide⟩
theorem np_Arr_fill_IIV : (parseMethodDescriptor Y_Arr_fill_IIV.1.desc).map (fun d => d.parameters.length) = some 2 := by decide +kernel
theorem sk_Arr_fill_IIV : Jvm.Cond.static Y_Arr_fill_IIV.1 ∈ lw_good := mg 445 (by decide +kernel) (by decide +kernel)
def Y_Tongue_tell : YY := (⟨"TreeTongues$Tongue", "tell", "(I)V"⟩, prog_9_method_2_code, 2, none)
theorem yk_Tongue_tell : YK Y_Tongue_tell := ⟨mg 443 (by decide +kernel) (by decide +kernel), mg 90 (by decide +kernel) (by decide +kernel), ⟨by decide +kernel, by decide +kernel⟩, by decide +kernel, by decide⟩
theorem np_Tongue_tell : (parseMethodDescriptor Y_Tongue_tell.1.desc).map (fun d => d.parameters.length) = some 1 := by decide +kernel
theorem vk_Tongue_tell : Jvm.Cond.instanceMethod Y_Tongue_tell.1 ∈ lw_good ∧ Jvm.Cond.selects Y_Tongue_tell.1.cls Y_Tongue_tell.1 Y_Tongue_tell.1 ∈ lw_good := ⟨mg 441 (by decide +kernel) (by decide +kernel), mg 442 (by decide +kernel) (by decide +kernel)⟩
def Y_T_tongue : YY := (⟨"TreeTongues", "tongue", "(I)I"⟩, prog_1_method_7_code, 2, some .int)
theorem yk_T_tongue : YK Y_T_tongue := ⟨mg 397 (by decide +kernel) (by decide +kernel), mg 81 (by decide +kernel) (by decide +kernel), ⟨by decide +kernel, by decide +kernel⟩, by decide +kernel, by decide⟩
theorem np_T_tongue : (parseMethodDescriptor Y_T_tongue.1.desc).map (fun d => d.parameters.length) = some 1 := by decide +kernel
theorem vk_T_tongue : Jvm.Cond.instanceMethod Y_T_tongue.1 ∈ lw_good ∧ Jvm.Cond.selects Y_T_tongue.1.cls Y_T_tongue.1 Y_T_tongue.1 ∈ lw_good := ⟨mg 395 (by decide +kernel) (by decide +kernel), mg 396 (by decide +kernel) (by decide +kernel)⟩
def Y_T_find : YY := (⟨"TreeTongues", "find", "(I)LTreeTongues$Tongue;"⟩, prog_1_method_31_code, 2, some (.object "TreeTongues$Tongue"))
theorem yk_T_find : YK Y_T_find := ⟨mg 454 (by decide +kernel) (by decide +kernel), mg 81 (by decide +kernel) (by decide +kernel), ⟨by decide +kernel, by decide +kernel⟩, by decide +kernel, by decide⟩
theorem np_T_find : (parseMethodDescriptor Y_T_find.1.desc).map (fun d => d.parameters.length) = some 1 := by decide +kernel
theorem vk_T_find : Jvm.Cond.instanceMethod Y_T_find.1 ∈ lw_good ∧ Jvm.Cond.selects Y_T_find.1.cls Y_T_find.1 Y_T_find.1 ∈ lw_good := ⟨mg 453 (by decide +kernel) (by decide +kernel), mg 1 (by decide +kernel) (by decide +kernel)⟩
def Y_Tongue_hasState : YY := (⟨"TreeTongues$Tongue", "hasState", "(I)Z"⟩, prog_9_method_3_code, 2, some .boolean)
theorem yk_Tongue_hasState : YK Y_Tongue_hasState := ⟨mg 458 (by decide +kernel) (by decide +kernel), mg 90 (by decide +kernel) (by decide +kernel), ⟨by decide +kernel, by decide +kernel⟩, by decide +kernel, by decide⟩
theorem np_Tongue_hasState : (parseMethodDescriptor Y_Tongue_hasState.1.desc).map (fun d => d.parameters.length) = some 1 := by decide +kernel
theorem vk_Tongue_hasState : Jvm.Cond.instanceMethod Y_Tongue_hasState.1 ∈ lw_good ∧ Jvm.Cond.selects Y_Tongue_hasState.1.cls Y_Tongue_hasState.1 Y_Tongue_hasState.1 ∈ lw_good := ⟨mg 456 (by decide +kernel) (by decide +kernel), mg 457 (by decide +kernel) (by decide +kernel)⟩
def Y_Signs_cell : YY := (⟨"TreeTongues$Signs", "cell", "(IIII)I"⟩, prog_7_method_6_code, 6, some .int)
theorem yk_Signs_cell : YK Y_Signs_cell := ⟨mg 466 (by decide +kernel) (by decide +kernel), mg 82 (by decide +kernel) (by decide +kernel), ⟨by decide +kernel, by decide +kernel⟩, by decide +kernel, by decide⟩
theorem np_Signs_cell : (parseMethodDescriptor Y_Signs_cell.1.desc).map (fun d => d.parameters.length) = some 4 := by decide +kernel
theorem vk_Signs_cell : Jvm.Cond.instanceMethod Y_Signs_cell.1 ∈ lw_good ∧ Jvm.Cond.selects Y_Signs_cell.1.cls Y_Signs_cell.1 Y_Signs_cell.1 ∈ lw_good := ⟨mg 464 (by decide +kernel) (by decide +kernel), mg 465 (by decide +kernel) (by decide +kernel)⟩
def Y_Tongue_addRule : YY := (⟨"TreeTongues$Tongue", "addRule", "(IIII)V"⟩, prog_9_method_5_code, 5, none)
theorem yk_Tongue_addRule : YK Y_Tongue_addRule := ⟨mg 462 (by decide +kernel) (by decide +kernel), mg 90 (by decide +kernel) (by decide +kernel), ⟨by decide +kernel, by decide +kernel⟩, by decide +kernel, by decide⟩
theorem np_Tongue_addRule : (parseMethodDescriptor Y_Tongue_addRule.1.desc).map (fun d => d.parameters.length) = some 4 := by decide +kernel
theorem vk_Tongue_addRule : Jvm.Cond.instanceMethod Y_Tongue_addRule.1 ∈ lw_good ∧ Jvm.Cond.selects Y_Tongue_addRule.1.cls Y_Tongue_addRule.1 Y_Tongue_addRule.1 ∈ lw_good := ⟨mg 460 (by decide +kernel) (by decide +kernel), mg 461 (by decide +kernel) (by decide +kernel)⟩
def Y_T_rule : YY := (⟨"TreeTongues", "rule", "(IIIII)I"⟩, prog_1_method_8_code, 10, some .int)
theorem yk_T_rule : YK Y_T_rule := ⟨mg 450 (by decide +kernel) (by decide +kernel), mg 81 (by decide +kernel) (by decide +kernel), ⟨by decide +kernel, by decide +kernel⟩, by decide +kernel, by decide⟩
theorem np_T_rule : (parseMethodDescriptor Y_T_rule.1.desc).map (fun d => d.parameters.length) = some 5 := by decide +kernel
theorem vk_T_rule : Jvm.Cond.instanceMethod Y_T_rule.1 ∈ lw_good ∧ Jvm.Cond.selects Y_T_rule.1.cls Y_T_rule.1 Y_T_rule.1 ∈ lw_good := ⟨mg 448 (by decide +kernel) (by decide +kernel), mg 449 (by decide +kernel) (by decide +kernel)⟩
def Y_Tongue_setFinal : YY := (⟨"TreeTongues$Tongue", "setFinal", "(IZ)I"⟩, prog_9_method_6_code, 4, some .int)
theorem yk_Tongue_setFinal : YK Y_Tongue_setFinal := ⟨mg 475 (by decide +kernel) (by decide +kernel), mg 90 (by decide +kernel) (by decide +kernel), ⟨by decide +kernel, by decide +kernel⟩, by decide +kernel, by decide⟩
theorem np_Tongue_setFinal : (parseMethodDescriptor Y_Tongue_setFinal.1.desc).map (fun d => d.parameters.length) = some 2 := by decide +kernel
theorem vk_Tongue_setFinal : Jvm.Cond.instanceMethod Y_Tongue_setFinal.1 ∈ lw_good ∧ Jvm.Cond.selects Y_Tongue_setFinal.1.cls Y_Tongue_setFinal.1 Y_Tongue_setFinal.1 ∈ lw_good := ⟨mg 473 (by decide +kernel) (by decide +kernel), mg 474 (by decide +kernel) (by decide +kernel)⟩
def Y_T_last : YY := (⟨"TreeTongues", "last", "(IIZ)I"⟩, prog_1_method_9_code, 5, some .int)
theorem yk_T_last : YK Y_T_last := ⟨mg 471 (by decide +kernel) (by decide +kernel), mg 81 (by decide +kernel) (by decide +kernel), ⟨by decide +kernel, by decide +kernel⟩, by decide +kernel, by decide⟩
theorem np_T_last : (parseMethodDescriptor Y_T_last.1.desc).map (fun d => d.parameters.length) = some 3 := by decide +kernel
theorem vk_T_last : Jvm.Cond.instanceMethod Y_T_last.1 ∈ lw_good ∧ Jvm.Cond.selects Y_T_last.1.cls Y_T_last.1 Y_T_last.1 ∈ lw_good := ⟨mg 469 (by decide +kernel) (by decide +kernel), mg 470 (by decide +kernel) (by decide +kernel)⟩
def Y_Net_begin : YY := (⟨"TreeTongues$Net", "begin", "(III)V"⟩, prog_4_method_7_code, 4, none)
theorem yk_Net_begin : YK Y_Net_begin := ⟨mg 493 (by decide +kernel) (by decide +kernel), mg 84 (by decide +kernel) (by decide +kernel), ⟨by decide +kernel, by decide +kernel⟩, by decide +kernel, by decide⟩
theorem np_Net_begin : (parseMethodDescriptor Y_Net_begin.1.desc).map (fun d => d.parameters.length) = some 3 := by decide +kernel
theorem vk_Net_begin : Jvm.Cond.instanceMethod Y_Net_begin.1 ∈ lw_good ∧ Jvm.Cond.selects Y_Net_begin.1.cls Y_Net_begin.1 Y_Net_begin.1 ∈ lw_good := ⟨mg 492 (by decide +kernel) (by decide +kernel), mg 3 (by decide +kernel) (by decide +kernel)⟩
def Y_Signs_choices : YY := (⟨"TreeTongues$Signs", "choices", "(III)I"⟩, prog_7_method_5_code, 4, some .int)
theorem yk_Signs_choices : YK Y_Signs_choices := ⟨mg 498 (by decide +kernel) (by decide +kernel), mg 82 (by decide +kernel) (by decide +kernel), ⟨by decide +kernel, by decide +kernel⟩, by decide +kernel, by decide⟩
theorem np_Signs_choices : (parseMethodDescriptor Y_Signs_choices.1.desc).map (fun d => d.parameters.length) = some 3 := by decide +kernel
theorem vk_Signs_choices : Jvm.Cond.instanceMethod Y_Signs_choices.1 ∈ lw_good ∧ Jvm.Cond.selects Y_Signs_choices.1.cls Y_Signs_choices.1 Y_Signs_choices.1 ∈ lw_good := ⟨mg 496 (by decide +kernel) (by decide +kernel), mg 497 (by decide +kernel) (by decide +kernel)⟩
def Y_Tongue_targetsOf : YY := (⟨"TreeTongues$Tongue", "targetsOf", "(III)I"⟩, prog_9_method_4_code, 4, some .int)
theorem yk_Tongue_targetsOf : YK Y_Tongue_targetsOf := ⟨mg 502 (by decide +kernel) (by decide +kernel), mg 90 (by decide +kernel) (by decide +kernel), ⟨by decide +kernel, by decide +kernel⟩, by decide +kernel, by decide⟩
theorem np_Tongue_targetsOf : (parseMethodDescriptor Y_Tongue_targetsOf.1.desc).map (fun d => d.parameters.length) = some 3 := by decide +kernel
theorem vk_Tongue_targetsOf : Jvm.Cond.instanceMethod Y_Tongue_targetsOf.1 ∈ lw_good ∧ Jvm.Cond.selects Y_Tongue_targetsOf.1.cls Y_Tongue_targetsOf.1 Y_Tongue_targetsOf.1 ∈ lw_good := ⟨mg 500 (by decide +kernel) (by decide +kernel), mg 501 (by decide +kernel) (by decide +kernel)⟩
def Y_Net_lead : YY := (⟨"TreeTongues$Net", "lead", "(IIII)V"⟩, prog_4_method_6_code, 5, none)
theorem yk_Net_lead : YK Y_Net_lead := ⟨mg 506 (by decide +kernel) (by decide +kernel), mg 84 (by decide +kernel) (by decide +kernel), ⟨by decide +kernel, by decide +kernel⟩, by decide +kernel, by decide⟩
theorem np_Net_lead : (parseMethodDescriptor Y_Net_lead.1.desc).map (fun d => d.parameters.length) = some 4 := by decide +kernel
theorem vk_Net_lead : Jvm.Cond.instanceMethod Y_Net_lead.1 ∈ lw_good ∧ Jvm.Cond.selects Y_Net_lead.1.cls Y_Net_lead.1 Y_Net_lead.1 ∈ lw_good := ⟨mg 505 (by decide +kernel) (by decide +kernel), mg 4 (by decide +kernel) (by decide +kernel)⟩
def Y_Net_setTold : YY := (⟨"TreeTongues$Net", "setTold", "(LTreeTongues$Tongue;)V"⟩, prog_4_method_9_code, 5, none)
theorem yk_Net_setTold : YK Y_Net_setTold := ⟨mg 489 (by decide +kernel) (by decide +kernel), mg 84 (by decide +kernel) (by decide +kernel), ⟨by decide +kernel, by decide +kernel⟩, by decide +kernel, by decide⟩
theorem np_Net_setTold : (parseMethodDescriptor Y_Net_setTold.1.desc).map (fun d => d.parameters.length) = some 1 := by decide +kernel
theorem vk_Net_setTold : Jvm.Cond.instanceMethod Y_Net_setTold.1 ∈ lw_good ∧ Jvm.Cond.selects Y_Net_setTold.1.cls Y_Net_setTold.1 Y_Net_setTold.1 ∈ lw_good := ⟨mg 487 (by decide +kernel) (by decide +kernel), mg 488 (by decide +kernel) (by decide +kernel)⟩
def Y_Reducer_begin : YY := (⟨"TreeTongues$Reducer", "begin", "()V"⟩, prog_5_method_3_code, 2, none)
theorem yk_Reducer_begin : YK Y_Reducer_begin := ⟨mg 515 (by decide +kernel) (by decide +kernel), mg 85 (by decide +kernel) (by decide +kernel), ⟨by decide +kernel, by decide +kernel⟩, by decide +kernel, by decide⟩
theorem np_Reducer_begin : (parseMethodDescriptor Y_Reducer_begin.1.desc).map (fun d => d.parameters.length) = some 0 := by decide +kernel
theorem vk_Reducer_begin : Jvm.Cond.instanceMethod Y_Reducer_begin.1 ∈ lw_good ∧ Jvm.Cond.selects Y_Reducer_begin.1.cls Y_Reducer_begin.1 Y_Reducer_begin.1 ∈ lw_good := ⟨mg 514 (by decide +kernel) (by decide +kernel), mg 5 (by decide +kernel) (by decide +kernel)⟩
def Y_Step_from : YY := (⟨"TreeTongues$Step", "from", "(I)I"⟩, prog_8_method_3_code, 2, some .int)
theorem yk_Step_from : YK Y_Step_from := ⟨mg 528 (by decide +kernel) (by decide +kernel), mg 86 (by decide +kernel) (by decide +kernel), ⟨by decide +kernel, by decide +kernel⟩, by decide +kernel, by decide⟩
theorem np_Step_from : (parseMethodDescriptor Y_Step_from.1.desc).map (fun d => d.parameters.length) = some 1 := by decide +kernel
theorem vk_Step_from : Jvm.Cond.instanceMethod Y_Step_from.1 ∈ lw_good ∧ Jvm.Cond.selects Y_Step_from.1.cls Y_Step_from.1 Y_Step_from.1 ∈ lw_good := ⟨mg 526 (by decide +kernel) (by decide +kernel), mg 527 (by decide +kernel) (by decide +kernel)⟩
def Y_Net_accepts : YY := (⟨"TreeTongues$Net", "accepts", "(I)Z"⟩, prog_4_method_2_code, 3, some .boolean)
theorem yk_Net_accepts : YK Y_Net_accepts := ⟨mg 532 (by decide +kernel) (by decide +kernel), mg 84 (by decide +kernel) (by decide +kernel), ⟨by decide +kernel, by decide +kernel⟩, by decide +kernel, by decide⟩
theorem np_Net_accepts : (parseMethodDescriptor Y_Net_accepts.1.desc).map (fun d => d.parameters.length) = some 1 := by decide +kernel
theorem vk_Net_accepts : Jvm.Cond.instanceMethod Y_Net_accepts.1 ∈ lw_good ∧ Jvm.Cond.selects Y_Net_accepts.1.cls Y_Net_accepts.1 Y_Net_accepts.1 ∈ lw_good := ⟨mg 530 (by decide +kernel) (by decide +kernel), mg 531 (by decide +kernel) (by decide +kernel)⟩
def Y_Reducer_marksOf : YY := (⟨"TreeTongues$Reducer", "marksOf", "(I)I"⟩, prog_5_method_6_code, 7, some .int)
theorem yk_Reducer_marksOf : YK Y_Reducer_marksOf := ⟨mg 524 (by decide +kernel) (by decide +kernel), mg 85 (by decide +kernel) (by decide +kernel), ⟨by decide +kernel, by decide +kernel⟩, by decide +kernel, by decide⟩
theorem np_Reducer_marksOf : (parseMethodDescriptor Y_Reducer_marksOf.1.desc).map (fun d => d.parameters.length) = some 1 := by decide +kernel
theorem vk_Reducer_marksOf : Jvm.Cond.instanceMethod Y_Reducer_marksOf.1 ∈ lw_good ∧ Jvm.Cond.selects Y_Reducer_marksOf.1.cls Y_Reducer_marksOf.1 Y_Reducer_marksOf.1 ∈ lw_good := ⟨mg 523 (by decide +kernel) (by decide +kernel), mg 7 (by decide +kernel) (by decide +kernel)⟩
def Y_Reducer_kindWith : YY := (⟨"TreeTongues$Reducer", "kindWith", "(II)I"⟩, prog_5_method_7_code, 4, some .int)
theorem yk_Reducer_kindWith : YK Y_Reducer_kindWith := ⟨mg 536 (by decide +kernel) (by decide +kernel), mg 85 (by decide +kernel) (by decide +kernel), ⟨by decide +kernel, by decide +kernel⟩, by decide +kernel, by decide⟩
theorem np_Reducer_kindWith : (parseMethodDescriptor Y_Reducer_kindWith.1.desc).map (fun d => d.parameters.length) = some 2 := by decide +kernel
theorem vk_Reducer_kindWith : Jvm.Cond.instanceMethod Y_Reducer_kindWith.1 ∈ lw_good ∧ Jvm.Cond.selects Y_Reducer_kindWith.1.cls Y_Reducer_kindWith.1 Y_Reducer_kindWith.1 ∈ lw_good := ⟨mg 535 (by decide +kernel) (by decide +kernel), mg 8 (by decide +kernel) (by decide +kernel)⟩
def Y_Reducer_sortKinds : YY := (⟨"TreeTongues$Reducer", "sortKinds", "()Z"⟩, prog_5_method_5_code, 2, some .boolean)
theorem yk_Reducer_sortKinds : YK Y_Reducer_sortKinds := ⟨mg 520 (by decide +kernel) (by decide +kernel), mg 85 (by decide +kernel) (by decide +kernel), ⟨by decide +kernel, by decide +kernel⟩, by decide +kernel, by decide⟩
theorem np_Reducer_sortKinds : (parseMethodDescriptor Y_Reducer_sortKinds.1.desc).map (fun d => d.parameters.length) = some 0 := by decide +kernel
theorem vk_Reducer_sortKinds : Jvm.Cond.instanceMethod Y_Reducer_sortKinds.1 ∈ lw_good ∧ Jvm.Cond.selects Y_Reducer_sortKinds.1.cls Y_Reducer_sortKinds.1 Y_Reducer_sortKinds.1 ∈ lw_good := ⟨mg 519 (by decide +kernel) (by decide +kernel), mg 6 (by decide +kernel) (by decide +kernel)⟩
def Y_Net_leafImage : YY := (⟨"TreeTongues$Net", "leafImage", "(I)I"⟩, prog_4_method_3_code, 2, some .int)
theorem yk_Net_leafImage : YK Y_Net_leafImage := ⟨mg 545 (by decide +kernel) (by decide +kernel), mg 84 (by decide +kernel) (by decide +kernel), ⟨by decide +kernel, by decide +kernel⟩, by decide +kernel, by decide⟩
theorem np_Net_leafImage : (parseMethodDescriptor Y_Net_leafImage.1.desc).map (fun d => d.parameters.length) = some 1 := by decide +kernel
theorem vk_Net_leafImage : Jvm.Cond.instanceMethod Y_Net_leafImage.1 ∈ lw_good ∧ Jvm.Cond.selects Y_Net_leafImage.1.cls Y_Net_leafImage.1 Y_Net_leafImage.1 ∈ lw_good := ⟨mg 543 (by decide +kernel) (by decide +kernel), mg 544 (by decide +kernel) (by decide +kernel)⟩
def Y_Reducer_reach : YY := (⟨"TreeTongues$Reducer", "reach", "(I)I"⟩, prog_5_method_8_code, 4, some .int)
theorem yk_Reducer_reach : YK Y_Reducer_reach := ⟨mg 549 (by decide +kernel) (by decide +kernel), mg 85 (by decide +kernel) (by decide +kernel), ⟨by decide +kernel, by decide +kernel⟩, by decide +kernel, by decide⟩
theorem np_Reducer_reach : (parseMethodDescriptor Y_Reducer_reach.1.desc).map (fun d => d.parameters.length) = some 1 := by decide +kernel
theorem vk_Reducer_reach : Jvm.Cond.instanceMethod Y_Reducer_reach.1 ∈ lw_good ∧ Jvm.Cond.selects Y_Reducer_reach.1.cls Y_Reducer_reach.1 Y_Reducer_reach.1 ∈ lw_good := ⟨mg 548 (by decide +kernel) (by decide +kernel), mg 10 (by decide +kernel) (by decide +kernel)⟩
def Y_Reducer_reachLeaves : YY := (⟨"TreeTongues$Reducer", "reachLeaves", "()Z"⟩, prog_5_method_9_code, 3, some .boolean)
theorem yk_Reducer_reachLeaves : YK Y_Reducer_reachLeaves := ⟨mg 540 (by decide +kernel) (by decide +kernel), mg 85 (by decide +kernel) (by decide +kernel), ⟨by decide +kernel, by decide +kernel⟩, by decide +kernel, by decide⟩
theorem np_Reducer_reachLeaves : (parseMethodDescriptor Y_Reducer_reachLeaves.1.desc).map (fun d => d.parameters.length) = some 0 := by decide +kernel
theorem vk_Reducer_reachLeaves : Jvm.Cond.instanceMethod Y_Reducer_reachLeaves.1 ∈ lw_good ∧ Jvm.Cond.selects Y_Reducer_reachLeaves.1.cls Y_Reducer_reachLeaves.1 Y_Reducer_reachLeaves.1 ∈ lw_good := ⟨mg 539 (by decide +kernel) (by decide +kernel), mg 9 (by decide +kernel) (by decide +kernel)⟩
def Y_Net_imageAlone : YY := (⟨"TreeTongues$Net", "imageAlone", "(II)I"⟩, prog_4_method_4_code, 5, some .int)
theorem yk_Net_imageAlone : YK Y_Net_imageAlone := ⟨mg 558 (by decide +kernel) (by decide +kernel), mg 84 (by decide +kernel) (by decide +kernel), ⟨by decide +kernel, by decide +kernel⟩, by decide +kernel, by decide⟩
theorem np_Net_imageAlone : (parseMethodDescriptor Y_Net_imageAlone.1.desc).map (fun d => d.parameters.length) = some 2 := by decide +kernel
theorem vk_Net_imageAlone : Jvm.Cond.instanceMethod Y_Net_imageAlone.1 ∈ lw_good ∧ Jvm.Cond.selects Y_Net_imageAlone.1.cls Y_Net_imageAlone.1 Y_Net_imageAlone.1 ∈ lw_good := ⟨mg 556 (by decide +kernel) (by decide +kernel), mg 557 (by decide +kernel) (by decide +kernel)⟩
def Y_Reducer_lowestBit : YY := (⟨"TreeTongues$Reducer", "lowestBit", "(I)I"⟩, prog_5_method_13_code, 2, some .int)
theorem yk_Reducer_lowestBit : YK Y_Reducer_lowestBit := ⟨mg 569 (by decide +kernel) (by decide +kernel), mg 85 (by decide +kernel) (by decide +kernel), ⟨by decide +kernel, by decide +kernel⟩, by decide +kernel, by decide⟩
theorem np_Reducer_lowestBit : (parseMethodDescriptor Y_Reducer_lowestBit.1.desc).map (fun d => d.parameters.length) = some 1 := by decide +kernel
theorem sk_Reducer_lowestBit : Jvm.Cond.static Y_Reducer_lowestBit.1 ∈ lw_good := mg 568 (by decide +kernel) (by decide +kernel)
def Y_Net_image : YY := (⟨"TreeTongues$Net", "image", "(IZII)I"⟩, prog_4_method_5_code, 9, some .int)
theorem yk_Net_image : YK Y_Net_image := ⟨mg 577 (by decide +kernel) (by decide +kernel), mg 84 (by decide +kernel) (by decide +kernel), ⟨by decide +kernel, by decide +kernel⟩, by decide +kernel, by decide⟩
theorem np_Net_image : (parseMethodDescriptor Y_Net_image.1.desc).map (fun d => d.parameters.length) = some 4 := by decide +kernel
theorem vk_Net_image : Jvm.Cond.instanceMethod Y_Net_image.1 ∈ lw_good ∧ Jvm.Cond.selects Y_Net_image.1.cls Y_Net_image.1 Y_Net_image.1 ∈ lw_good := ⟨mg 575 (by decide +kernel) (by decide +kernel), mg 576 (by decide +kernel) (by decide +kernel)⟩
def Y_Step_load : YY := (⟨"TreeTongues$Step", "load", "(LTreeTongues$Net;IZI)V"⟩, prog_8_method_2_code, 11, none)
theorem yk_Step_load : YK Y_Step_load := ⟨mg 573 (by decide +kernel) (by decide +kernel), mg 86 (by decide +kernel) (by decide +kernel), ⟨by decide +kernel, by decide +kernel⟩, by decide +kernel, by decide⟩
theorem np_Step_load : (parseMethodDescriptor Y_Step_load.1.desc).map (fun d => d.parameters.length) = some 4 := by decide +kernel
theorem vk_Step_load : Jvm.Cond.instanceMethod Y_Step_load.1 ∈ lw_good ∧ Jvm.Cond.selects Y_Step_load.1.cls Y_Step_load.1 Y_Step_load.1 ∈ lw_good := ⟨mg 571 (by decide +kernel) (by decide +kernel), mg 572 (by decide +kernel) (by decide +kernel)⟩
def Y_Reducer_addProbe : YY := (⟨"TreeTongues$Reducer", "addProbe", "(IIIII)V"⟩, prog_5_method_12_code, 10, none)
theorem yk_Reducer_addProbe : YK Y_Reducer_addProbe := ⟨mg 566 (by decide +kernel) (by decide +kernel), mg 85 (by decide +kernel) (by decide +kernel), ⟨by decide +kernel, by decide +kernel⟩, by decide +kernel, by decide⟩
theorem np_Reducer_addProbe : (parseMethodDescriptor Y_Reducer_addProbe.1.desc).map (fun d => d.parameters.length) = some 5 := by decide +kernel
theorem vk_Reducer_addProbe : Jvm.Cond.instanceMethod Y_Reducer_addProbe.1 ∈ lw_good ∧ Jvm.Cond.selects Y_Reducer_addProbe.1.cls Y_Reducer_addProbe.1 Y_Reducer_addProbe.1 ∈ lw_good := ⟨mg 565 (by decide +kernel) (by decide +kernel), mg 13 (by decide +kernel) (by decide +kernel)⟩
def Y_Reducer_agrees : YY := (⟨"TreeTongues$Reducer", "agrees", "(IIII)Z"⟩, prog_5_method_11_code, 7, some .boolean)
theorem yk_Reducer_agrees : YK Y_Reducer_agrees := ⟨mg 562 (by decide +kernel) (by decide +kernel), mg 85 (by decide +kernel) (by decide +kernel), ⟨by decide +kernel, by decide +kernel⟩, by decide +kernel, by decide⟩
theorem np_Reducer_agrees : (parseMethodDescriptor Y_Reducer_agrees.1.desc).map (fun d => d.parameters.length) = some 4 := by decide +kernel
theorem vk_Reducer_agrees : Jvm.Cond.instanceMethod Y_Reducer_agrees.1 ∈ lw_good ∧ Jvm.Cond.selects Y_Reducer_agrees.1.cls Y_Reducer_agrees.1 Y_Reducer_agrees.1 ∈ lw_good := ⟨mg 561 (by decide +kernel) (by decide +kernel), mg 12 (by decide +kernel) (by decide +kernel)⟩
def Y_Reducer_reachAll : YY := (⟨"TreeTongues$Reducer", "reachAll", "()Z"⟩, prog_5_method_10_code, 5, some .boolean)
theorem yk_Reducer_reachAll : YK Y_Reducer_reachAll := ⟨mg 554 (by decide +kernel) (by decide +kernel), mg 85 (by decide +kernel) (by decide +kernel), ⟨by decide +kernel, by decide +kernel⟩, by decide +kernel, by decide⟩
theorem np_Reducer_reachAll : (parseMethodDescriptor Y_Reducer_reachAll.1.desc).map (fun d => d.parameters.length) = some 0 := by decide +kernel
theorem vk_Reducer_reachAll : Jvm.Cond.instanceMethod Y_Reducer_reachAll.1 ∈ lw_good ∧ Jvm.Cond.selects Y_Reducer_reachAll.1.cls Y_Reducer_reachAll.1 Y_Reducer_reachAll.1 ∈ lw_good := ⟨mg 553 (by decide +kernel) (by decide +kernel), mg 11 (by decide +kernel) (by decide +kernel)⟩
def Y_Reducer_finalKinds : YY := (⟨"TreeTongues$Reducer", "finalKinds", "()I"⟩, prog_5_method_4_code, 3, some .int)
theorem yk_Reducer_finalKinds : YK Y_Reducer_finalKinds := ⟨mg 581 (by decide +kernel) (by decide +kernel), mg 85 (by decide +kernel) (by decide +kernel), ⟨by decide +kernel, by decide +kernel⟩, by decide +kernel, by decide⟩
theorem np_Reducer_finalKinds : (parseMethodDescriptor Y_Reducer_finalKinds.1.desc).map (fun d => d.parameters.length) = some 0 := by decide +kernel
theorem vk_Reducer_finalKinds : Jvm.Cond.instanceMethod Y_Reducer_finalKinds.1 ∈ lw_good ∧ Jvm.Cond.selects Y_Reducer_finalKinds.1.cls Y_Reducer_finalKinds.1 Y_Reducer_finalKinds.1 ∈ lw_good := ⟨mg 580 (by decide +kernel) (by decide +kernel), mg 14 (by decide +kernel) (by decide +kernel)⟩
def Y_Machine_becomeLarge : YY := (⟨"TreeTongues$Machine", "becomeLarge", "()V"⟩, prog_3_method_5_code, 1, none)
theorem yk_Machine_becomeLarge : YK Y_Machine_becomeLarge := ⟨mg 589 (by decide +kernel) (by decide +kernel), mg 87 (by decide +kernel) (by decide +kernel), ⟨by decide +kernel, by decide +kernel⟩, by decide +kernel, by decide⟩
theorem np_Machine_becomeLarge : (parseMethodDescriptor Y_Machine_becomeLarge.1.desc).map (fun d => d.parameters.length) = some 0 := by decide +kernel
theorem vk_Machine_becomeLarge : Jvm.Cond.instanceMethod Y_Machine_becomeLarge.1 ∈ lw_good ∧ Jvm.Cond.selects Y_Machine_becomeLarge.1.cls Y_Machine_becomeLarge.1 Y_Machine_becomeLarge.1 ∈ lw_good := ⟨mg 587 (by decide +kernel) (by decide +kernel), mg 588 (by decide +kernel) (by decide +kernel)⟩
def Y_Machine_kindWith : YY := (⟨"TreeTongues$Machine", "kindWith", "([IIII)I"⟩, prog_3_method_8_code, 6, some .int)
theorem yk_Machine_kindWith : YK Y_Machine_kindWith := ⟨mg 599 (by decide +kernel) (by decide +kernel), mg 87 (by decide +kernel) (by decide +kernel), ⟨by decide +kernel, by decide +kernel⟩, by decide +kernel, by decide⟩
theorem np_Machine_kindWith : (parseMethodDescriptor Y_Machine_kindWith.1.desc).map (fun d => d.parameters.length) = some 4 := by decide +kernel
theorem vk_Machine_kindWith : Jvm.Cond.instanceMethod Y_Machine_kindWith.1 ∈ lw_good ∧ Jvm.Cond.selects Y_Machine_kindWith.1.cls Y_Machine_kindWith.1 Y_Machine_kindWith.1 ∈ lw_good := ⟨mg 598 (by decide +kernel) (by decide +kernel), mg 16 (by decide +kernel) (by decide +kernel)⟩
def Y_Machine_sizeWith : YY := (⟨"TreeTongues$Machine", "sizeWith", "(III)I"⟩, prog_3_method_9_code, 5, some .int)
theorem yk_Machine_sizeWith : YK Y_Machine_sizeWith := ⟨mg 607 (by decide +kernel) (by decide +kernel), mg 87 (by decide +kernel) (by decide +kernel), ⟨by decide +kernel, by decide +kernel⟩, by decide +kernel, by decide⟩
theorem np_Machine_sizeWith : (parseMethodDescriptor Y_Machine_sizeWith.1.desc).map (fun d => d.parameters.length) = some 3 := by decide +kernel
theorem vk_Machine_sizeWith : Jvm.Cond.instanceMethod Y_Machine_sizeWith.1 ∈ lw_good ∧ Jvm.Cond.selects Y_Machine_sizeWith.1.cls Y_Machine_sizeWith.1 Y_Machine_sizeWith.1 ∈ lw_good := ⟨mg 606 (by decide +kernel) (by decide +kernel), mg 17 (by decide +kernel) (by decide +kernel)⟩
def Y_Machine_findFirst : YY := (⟨"TreeTongues$Machine", "findFirst", "([II)I"⟩, prog_3_method_7_code, 9, some .int)
theorem yk_Machine_findFirst : YK Y_Machine_findFirst := ⟨mg 594 (by decide +kernel) (by decide +kernel), mg 87 (by decide +kernel) (by decide +kernel), ⟨by decide +kernel, by decide +kernel⟩, by decide +kernel, by decide⟩
theorem np_Machine_findFirst : (parseMethodDescriptor Y_Machine_findFirst.1.desc).map (fun d => d.parameters.length) = some 2 := by decide +kernel
theorem vk_Machine_findFirst : Jvm.Cond.instanceMethod Y_Machine_findFirst.1 ∈ lw_good ∧ Jvm.Cond.selects Y_Machine_findFirst.1.cls Y_Machine_findFirst.1 Y_Machine_findFirst.1 ∈ lw_good := ⟨mg 593 (by decide +kernel) (by decide +kernel), mg 15 (by decide +kernel) (by decide +kernel)⟩
def Y_Machine_fillTable : YY := (⟨"TreeTongues$Machine", "fillTable", "([I)V"⟩, prog_3_method_10_code, 6, none)
theorem yk_Machine_fillTable : YK Y_Machine_fillTable := ⟨mg 612 (by decide +kernel) (by decide +kernel), mg 87 (by decide +kernel) (by decide +kernel), ⟨by decide +kernel, by decide +kernel⟩, by decide +kernel, by decide⟩
theorem np_Machine_fillTable : (parseMethodDescriptor Y_Machine_fillTable.1.desc).map (fun d => d.parameters.length) = some 1 := by decide +kernel
theorem vk_Machine_fillTable : Jvm.Cond.instanceMethod Y_Machine_fillTable.1 ∈ lw_good ∧ Jvm.Cond.selects Y_Machine_fillTable.1.cls Y_Machine_fillTable.1 Y_Machine_fillTable.1 ∈ lw_good := ⟨mg 611 (by decide +kernel) (by decide +kernel), mg 18 (by decide +kernel) (by decide +kernel)⟩
def Y_Machine_take : YY := (⟨"TreeTongues$Machine", "take", "([III)V"⟩, prog_3_method_6_code, 6, none)
theorem yk_Machine_take : YK Y_Machine_take := ⟨mg 585 (by decide +kernel) (by decide +kernel), mg 87 (by decide +kernel) (by decide +kernel), ⟨by decide +kernel, by decide +kernel⟩, by decide +kernel, by decide⟩
theorem np_Machine_take : (parseMethodDescriptor Y_Machine_take.1.desc).map (fun d => d.parameters.length) = some 3 := by decide +kernel
theorem vk_Machine_take : Jvm.Cond.instanceMethod Y_Machine_take.1 ∈ lw_good ∧ Jvm.Cond.selects Y_Machine_take.1.cls Y_Machine_take.1 Y_Machine_take.1 ∈ lw_good := ⟨mg 583 (by decide +kernel) (by decide +kernel), mg 584 (by decide +kernel) (by decide +kernel)⟩
def Y_Reducer_reduceTo : YY := (⟨"TreeTongues$Reducer", "reduceTo", "(LTreeTongues$Machine;)V"⟩, prog_5_method_2_code, 4, none)
theorem yk_Reducer_reduceTo : YK Y_Reducer_reduceTo := ⟨mg 511 (by decide +kernel) (by decide +kernel), mg 85 (by decide +kernel) (by decide +kernel), ⟨by decide +kernel, by decide +kernel⟩, by decide +kernel, by decide⟩
theorem np_Reducer_reduceTo : (parseMethodDescriptor Y_Reducer_reduceTo.1.desc).map (fun d => d.parameters.length) = some 1 := by decide +kernel
theorem vk_Reducer_reduceTo : Jvm.Cond.instanceMethod Y_Reducer_reduceTo.1 ∈ lw_good ∧ Jvm.Cond.selects Y_Reducer_reduceTo.1.cls Y_Reducer_reduceTo.1 Y_Reducer_reduceTo.1 ∈ lw_good := ⟨mg 509 (by decide +kernel) (by decide +kernel), mg 510 (by decide +kernel) (by decide +kernel)⟩
def Y_T_isLarge : YY := (⟨"TreeTongues", "isLarge", "(LTreeTongues$Tongue;)Z"⟩, prog_1_method_33_code, 2, some .boolean)
theorem yk_T_isLarge : YK Y_T_isLarge := ⟨mg 485 (by decide +kernel) (by decide +kernel), mg 81 (by decide +kernel) (by decide +kernel), ⟨by decide +kernel, by decide +kernel⟩, by decide +kernel, by decide⟩
theorem np_T_isLarge : (parseMethodDescriptor Y_T_isLarge.1.desc).map (fun d => d.parameters.length) = some 1 := by decide +kernel
theorem vk_T_isLarge : Jvm.Cond.instanceMethod Y_T_isLarge.1 ∈ lw_good ∧ Jvm.Cond.selects Y_T_isLarge.1.cls Y_T_isLarge.1 Y_T_isLarge.1 ∈ lw_good := ⟨mg 484 (by decide +kernel) (by decide +kernel), mg 2 (by decide +kernel) (by decide +kernel)⟩
def Y_Machine_step : YY := (⟨"TreeTongues$Machine", "step", "(III)I"⟩, prog_3_method_4_code, 4, some .int)
theorem yk_Machine_step : YK Y_Machine_step := ⟨mg 625 (by decide +kernel) (by decide +kernel), mg 87 (by decide +kernel) (by decide +kernel), ⟨by decide +kernel, by decide +kernel⟩, by decide +kernel, by decide⟩
theorem np_Machine_step : (parseMethodDescriptor Y_Machine_step.1.desc).map (fun d => d.parameters.length) = some 3 := by decide +kernel
theorem vk_Machine_step : Jvm.Cond.instanceMethod Y_Machine_step.1 ∈ lw_good ∧ Jvm.Cond.selects Y_Machine_step.1.cls Y_Machine_step.1 Y_Machine_step.1 ∈ lw_good := ⟨mg 623 (by decide +kernel) (by decide +kernel), mg 624 (by decide +kernel) (by decide +kernel)⟩
def Y_Net_enter : YY := (⟨"TreeTongues$Net", "enter", "(LTreeTongues$Machine;III)V"⟩, prog_4_method_8_code, 8, none)
theorem yk_Net_enter : YK Y_Net_enter := ⟨mg 621 (by decide +kernel) (by decide +kernel), mg 84 (by decide +kernel) (by decide +kernel), ⟨by decide +kernel, by decide +kernel⟩, by decide +kernel, by decide⟩
theorem np_Net_enter : (parseMethodDescriptor Y_Net_enter.1.desc).map (fun d => d.parameters.length) = some 4 := by decide +kernel
theorem vk_Net_enter : Jvm.Cond.instanceMethod Y_Net_enter.1 ∈ lw_good ∧ Jvm.Cond.selects Y_Net_enter.1.cls Y_Net_enter.1 Y_Net_enter.1 ∈ lw_good := ⟨mg 620 (by decide +kernel) (by decide +kernel), mg 19 (by decide +kernel) (by decide +kernel)⟩
def Y_Net_setBoth : YY := (⟨"TreeTongues$Net", "setBoth", "(LTreeTongues$Machine;LTreeTongues$Machine;I)V"⟩, prog_4_method_11_code, 5, none)
theorem yk_Net_setBoth : YK Y_Net_setBoth := ⟨mg 617 (by decide +kernel) (by decide +kernel), mg 84 (by decide +kernel) (by decide +kernel), ⟨by decide +kernel, by decide +kernel⟩, by decide +kernel, by decide⟩
theorem np_Net_setBoth : (parseMethodDescriptor Y_Net_setBoth.1.desc).map (fun d => d.parameters.length) = some 3 := by decide +kernel
theorem vk_Net_setBoth : Jvm.Cond.instanceMethod Y_Net_setBoth.1 ∈ lw_good ∧ Jvm.Cond.selects Y_Net_setBoth.1.cls Y_Net_setBoth.1 Y_Net_setBoth.1 ∈ lw_good := ⟨mg 615 (by decide +kernel) (by decide +kernel), mg 616 (by decide +kernel) (by decide +kernel)⟩
def Y_T_keep : YY := (⟨"TreeTongues", "keep", "()I"⟩, prog_1_method_34_code, 2, some .int)
theorem yk_T_keep : YK Y_T_keep := ⟨mg 629 (by decide +kernel) (by decide +kernel), mg 81 (by decide +kernel) (by decide +kernel), ⟨by decide +kernel, by decide +kernel⟩, by decide +kernel, by decide⟩
theorem np_T_keep : (parseMethodDescriptor Y_T_keep.1.desc).map (fun d => d.parameters.length) = some 0 := by decide +kernel
theorem vk_T_keep : Jvm.Cond.instanceMethod Y_T_keep.1 ∈ lw_good ∧ Jvm.Cond.selects Y_T_keep.1.cls Y_T_keep.1 Y_T_keep.1 ∈ lw_good := ⟨mg 628 (by decide +kernel) (by decide +kernel), mg 20 (by decide +kernel) (by decide +kernel)⟩
def Y_T_of : YY := (⟨"TreeTongues", "of", "(III)I"⟩, prog_1_method_10_code, 6, some .int)
theorem yk_T_of : YK Y_T_of := ⟨mg 479 (by decide +kernel) (by decide +kernel), mg 81 (by decide +kernel) (by decide +kernel), ⟨by decide +kernel, by decide +kernel⟩, by decide +kernel, by decide⟩
theorem np_T_of : (parseMethodDescriptor Y_T_of.1.desc).map (fun d => d.parameters.length) = some 3 := by decide +kernel
theorem vk_T_of : Jvm.Cond.instanceMethod Y_T_of.1 ∈ lw_good ∧ Jvm.Cond.selects Y_T_of.1.cls Y_T_of.1 Y_T_of.1 ∈ lw_good := ⟨mg 477 (by decide +kernel) (by decide +kernel), mg 478 (by decide +kernel) (by decide +kernel)⟩
def Y_Net_setOne : YY := (⟨"TreeTongues$Net", "setOne", "(LTreeTongues$Machine;II)V"⟩, prog_4_method_10_code, 5, none)
theorem yk_Net_setOne : YK Y_Net_setOne := ⟨mg 637 (by decide +kernel) (by decide +kernel), mg 84 (by decide +kernel) (by decide +kernel), ⟨by decide +kernel, by decide +kernel⟩, by decide +kernel, by decide⟩
theorem np_Net_setOne : (parseMethodDescriptor Y_Net_setOne.1.desc).map (fun d => d.parameters.length) = some 3 := by decide +kernel
theorem vk_Net_setOne : Jvm.Cond.instanceMethod Y_Net_setOne.1 ∈ lw_good ∧ Jvm.Cond.selects Y_Net_setOne.1.cls Y_Net_setOne.1 Y_Net_setOne.1 ∈ lw_good := ⟨mg 635 (by decide +kernel) (by decide +kernel), mg 636 (by decide +kernel) (by decide +kernel)⟩
def Y_T_not : YY := (⟨"TreeTongues", "not", "(I)I"⟩, prog_1_method_11_code, 3, some .int)
theorem yk_T_not : YK Y_T_not := ⟨mg 633 (by decide +kernel) (by decide +kernel), mg 81 (by decide +kernel) (by decide +kernel), ⟨by decide +kernel, by decide +kernel⟩, by decide +kernel, by decide⟩
theorem np_T_not : (parseMethodDescriptor Y_T_not.1.desc).map (fun d => d.parameters.length) = some 1 := by decide +kernel
theorem vk_T_not : Jvm.Cond.instanceMethod Y_T_not.1 ∈ lw_good ∧ Jvm.Cond.selects Y_T_not.1.cls Y_T_not.1 Y_T_not.1 ∈ lw_good := ⟨mg 631 (by decide +kernel) (by decide +kernel), mg 632 (by decide +kernel) (by decide +kernel)⟩
def Y_Signs_mapped : YY := (⟨"TreeTongues$Signs", "mapped", "(II)I"⟩, prog_7_method_8_code, 3, some .int)
theorem yk_Signs_mapped : YK Y_Signs_mapped := ⟨mg 649 (by decide +kernel) (by decide +kernel), mg 82 (by decide +kernel) (by decide +kernel), ⟨by decide +kernel, by decide +kernel⟩, by decide +kernel, by decide⟩
theorem np_Signs_mapped : (parseMethodDescriptor Y_Signs_mapped.1.desc).map (fun d => d.parameters.length) = some 2 := by decide +kernel
theorem vk_Signs_mapped : Jvm.Cond.instanceMethod Y_Signs_mapped.1 ∈ lw_good ∧ Jvm.Cond.selects Y_Signs_mapped.1.cls Y_Signs_mapped.1 Y_Signs_mapped.1 ∈ lw_good := ⟨mg 647 (by decide +kernel) (by decide +kernel), mg 648 (by decide +kernel) (by decide +kernel)⟩
def Y_Signs_isMap : YY := (⟨"TreeTongues$Signs", "isMap", "(I)Z"⟩, prog_7_method_7_code, 4, some .boolean)
theorem yk_Signs_isMap : YK Y_Signs_isMap := ⟨mg 645 (by decide +kernel) (by decide +kernel), mg 82 (by decide +kernel) (by decide +kernel), ⟨by decide +kernel, by decide +kernel⟩, by decide +kernel, by decide⟩
theorem np_Signs_isMap : (parseMethodDescriptor Y_Signs_isMap.1.desc).map (fun d => d.parameters.length) = some 1 := by decide +kernel
theorem vk_Signs_isMap : Jvm.Cond.instanceMethod Y_Signs_isMap.1 ∈ lw_good ∧ Jvm.Cond.selects Y_Signs_isMap.1.cls Y_Signs_isMap.1 Y_Signs_isMap.1 ∈ lw_good := ⟨mg 643 (by decide +kernel) (by decide +kernel), mg 644 (by decide +kernel) (by decide +kernel)⟩
def Y_Net_setRenamed : YY := (⟨"TreeTongues$Net", "setRenamed", "(LTreeTongues$Machine;I)V"⟩, prog_4_method_12_code, 4, none)
theorem yk_Net_setRenamed : YK Y_Net_setRenamed := ⟨mg 654 (by decide +kernel) (by decide +kernel), mg 84 (by decide +kernel) (by decide +kernel), ⟨by decide +kernel, by decide +kernel⟩, by decide +kernel, by decide⟩
theorem np_Net_setRenamed : (parseMethodDescriptor Y_Net_setRenamed.1.desc).map (fun d => d.parameters.length) = some 2 := by decide +kernel
theorem vk_Net_setRenamed : Jvm.Cond.instanceMethod Y_Net_setRenamed.1 ∈ lw_good ∧ Jvm.Cond.selects Y_Net_setRenamed.1.cls Y_Net_setRenamed.1 Y_Net_setRenamed.1 ∈ lw_good := ⟨mg 652 (by decide +kernel) (by decide +kernel), mg 653 (by decide +kernel) (by decide +kernel)⟩
def Y_T_renamed : YY := (⟨"TreeTongues", "renamed", "(II)I"⟩, prog_1_method_12_code, 4, some .int)
theorem yk_T_renamed : YK Y_T_renamed := ⟨mg 641 (by decide +kernel) (by decide +kernel), mg 81 (by decide +kernel) (by decide +kernel), ⟨by decide +kernel, by decide +kernel⟩, by decide +kernel, by decide⟩
theorem np_T_renamed : (parseMethodDescriptor Y_T_renamed.1.desc).map (fun d => d.parameters.length) = some 2 := by decide +kernel
theorem vk_T_renamed : Jvm.Cond.instanceMethod Y_T_renamed.1 ∈ lw_good ∧ Jvm.Cond.selects Y_T_renamed.1.cls Y_T_renamed.1 Y_T_renamed.1 ∈ lw_good := ⟨mg 639 (by decide +kernel) (by decide +kernel), mg 640 (by decide +kernel) (by decide +kernel)⟩
def Y_Net_setBack : YY := (⟨"TreeTongues$Net", "setBack", "(LTreeTongues$Machine;I)V"⟩, prog_4_method_13_code, 4, none)
theorem yk_Net_setBack : YK Y_Net_setBack := ⟨mg 663 (by decide +kernel) (by decide +kernel), mg 84 (by decide +kernel) (by decide +kernel), ⟨by decide +kernel, by decide +kernel⟩, by decide +kernel, by decide⟩
theorem np_Net_setBack : (parseMethodDescriptor Y_Net_setBack.1.desc).map (fun d => d.parameters.length) = some 2 := by decide +kernel
theorem vk_Net_setBack : Jvm.Cond.instanceMethod Y_Net_setBack.1 ∈ lw_good ∧ Jvm.Cond.selects Y_Net_setBack.1.cls Y_Net_setBack.1 Y_Net_setBack.1 ∈ lw_good := ⟨mg 661 (by decide +kernel) (by decide +kernel), mg 662 (by decide +kernel) (by decide +kernel)⟩
def Y_T_back : YY := (⟨"TreeTongues", "back", "(II)I"⟩, prog_1_method_13_code, 4, some .int)
theorem yk_T_back : YK Y_T_back := ⟨mg 659 (by decide +kernel) (by decide +kernel), mg 81 (by decide +kernel) (by decide +kernel), ⟨by decide +kernel, by decide +kernel⟩, by decide +kernel, by decide⟩
theorem np_T_back : (parseMethodDescriptor Y_T_back.1.desc).map (fun d => d.parameters.length) = some 2 := by decide +kernel
theorem vk_T_back : Jvm.Cond.instanceMethod Y_T_back.1 ∈ lw_good ∧ Jvm.Cond.selects Y_T_back.1.cls Y_T_back.1 Y_T_back.1 ∈ lw_good := ⟨mg 657 (by decide +kernel) (by decide +kernel), mg 658 (by decide +kernel) (by decide +kernel)⟩
def Y_Machine_listAbove : YY := (⟨"TreeTongues$Machine", "listAbove", "()V"⟩, prog_3_method_13_code, 6, none)
theorem yk_Machine_listAbove : YK Y_Machine_listAbove := ⟨mg 675 (by decide +kernel) (by decide +kernel), mg 87 (by decide +kernel) (by decide +kernel), ⟨by decide +kernel, by decide +kernel⟩, by decide +kernel, by decide⟩
theorem np_Machine_listAbove : (parseMethodDescriptor Y_Machine_listAbove.1.desc).map (fun d => d.parameters.length) = some 0 := by decide +kernel
theorem vk_Machine_listAbove : Jvm.Cond.instanceMethod Y_Machine_listAbove.1 ∈ lw_good ∧ Jvm.Cond.selects Y_Machine_listAbove.1.cls Y_Machine_listAbove.1 Y_Machine_listAbove.1 ∈ lw_good := ⟨mg 674 (by decide +kernel) (by decide +kernel), mg 21 (by decide +kernel) (by decide +kernel)⟩
def Y_Machine_living : YY := (⟨"TreeTongues$Machine", "living", "()I"⟩, prog_3_method_11_code, 4, some .int)
theorem yk_Machine_living : YK Y_Machine_living := ⟨mg 671 (by decide +kernel) (by decide +kernel), mg 87 (by decide +kernel) (by decide +kernel), ⟨by decide +kernel, by decide +kernel⟩, by decide +kernel, by decide⟩
theorem np_Machine_living : (parseMethodDescriptor Y_Machine_living.1.desc).map (fun d => d.parameters.length) = some 0 := by decide +kernel
theorem vk_Machine_living : Jvm.Cond.instanceMethod Y_Machine_living.1 ∈ lw_good ∧ Jvm.Cond.selects Y_Machine_living.1.cls Y_Machine_living.1 Y_Machine_living.1 ∈ lw_good := ⟨mg 669 (by decide +kernel) (by decide +kernel), mg 670 (by decide +kernel) (by decide +kernel)⟩
def Y_T_parts : YY := (⟨"TreeTongues", "parts", "(I)I"⟩, prog_1_method_14_code, 3, some .int)
theorem yk_T_parts : YK Y_T_parts := ⟨mg 667 (by decide +kernel) (by decide +kernel), mg 81 (by decide +kernel) (by decide +kernel), ⟨by decide +kernel, by decide +kernel⟩, by decide +kernel, by decide⟩
theorem np_T_parts : (parseMethodDescriptor Y_T_parts.1.desc).map (fun d => d.parameters.length) = some 1 := by decide +kernel
theorem vk_T_parts : Jvm.Cond.instanceMethod Y_T_parts.1 ∈ lw_good ∧ Jvm.Cond.selects Y_T_parts.1.cls Y_T_parts.1 Y_T_parts.1 ∈ lw_good := ⟨mg 665 (by decide +kernel) (by decide +kernel), mg 666 (by decide +kernel) (by decide +kernel)⟩
def Y_Machine_finalBit : YY := (⟨"TreeTongues$Machine", "finalBit", "(I)I"⟩, prog_3_method_3_code, 2, some .int)
theorem yk_Machine_finalBit : YK Y_Machine_finalBit := ⟨mg 689 (by decide +kernel) (by decide +kernel), mg 87 (by decide +kernel) (by decide +kernel), ⟨by decide +kernel, by decide +kernel⟩, by decide +kernel, by decide⟩
theorem np_Machine_finalBit : (parseMethodDescriptor Y_Machine_finalBit.1.desc).map (fun d => d.parameters.length) = some 1 := by decide +kernel
theorem vk_Machine_finalBit : Jvm.Cond.instanceMethod Y_Machine_finalBit.1 ∈ lw_good ∧ Jvm.Cond.selects Y_Machine_finalBit.1.cls Y_Machine_finalBit.1 Y_Machine_finalBit.1 ∈ lw_good := ⟨mg 687 (by decide +kernel) (by decide +kernel), mg 688 (by decide +kernel) (by decide +kernel)⟩
def Y_Net_setWithin : YY := (⟨"TreeTongues$Net", "setWithin", "(LTreeTongues$Machine;)V"⟩, prog_4_method_14_code, 8, none)
theorem yk_Net_setWithin : YK Y_Net_setWithin := ⟨mg 684 (by decide +kernel) (by decide +kernel), mg 84 (by decide +kernel) (by decide +kernel), ⟨by decide +kernel, by decide +kernel⟩, by decide +kernel, by decide⟩
theorem np_Net_setWithin : (parseMethodDescriptor Y_Net_setWithin.1.desc).map (fun d => d.parameters.length) = some 1 := by decide +kernel
theorem vk_Net_setWithin : Jvm.Cond.instanceMethod Y_Net_setWithin.1 ∈ lw_good ∧ Jvm.Cond.selects Y_Net_setWithin.1.cls Y_Net_setWithin.1 Y_Net_setWithin.1 ∈ lw_good := ⟨mg 682 (by decide +kernel) (by decide +kernel), mg 683 (by decide +kernel) (by decide +kernel)⟩
def Y_T_within : YY := (⟨"TreeTongues", "within", "(I)I"⟩, prog_1_method_15_code, 3, some .int)
theorem yk_T_within : YK Y_T_within := ⟨mg 680 (by decide +kernel) (by decide +kernel), mg 81 (by decide +kernel) (by decide +kernel), ⟨by decide +kernel, by decide +kernel⟩, by decide +kernel, by decide⟩
theorem np_T_within : (parseMethodDescriptor Y_T_within.1.desc).map (fun d => d.parameters.length) = some 1 := by decide +kernel
theorem vk_T_within : Jvm.Cond.instanceMethod Y_T_within.1 ∈ lw_good ∧ Jvm.Cond.selects Y_T_within.1.cls Y_T_within.1 Y_T_within.1 ∈ lw_good := ⟨mg 678 (by decide +kernel) (by decide +kernel), mg 679 (by decide +kernel) (by decide +kernel)⟩
def Y_Net_setGrafted : YY := (⟨"TreeTongues$Net", "setGrafted", "(LTreeTongues$Machine;ILTreeTongues$Machine;)V"⟩, prog_4_method_15_code, 10, none)
theorem yk_Net_setGrafted : YK Y_Net_setGrafted := ⟨mg 697 (by decide +kernel) (by decide +kernel), mg 84 (by decide +kernel) (by decide +kernel), ⟨by decide +kernel, by decide +kernel⟩, by decide +kernel, by decide⟩
theorem np_Net_setGrafted : (parseMethodDescriptor Y_Net_setGrafted.1.desc).map (fun d => d.parameters.length) = some 3 := by decide +kernel
theorem vk_Net_setGrafted : Jvm.Cond.instanceMethod Y_Net_setGrafted.1 ∈ lw_good ∧ Jvm.Cond.selects Y_Net_setGrafted.1.cls Y_Net_setGrafted.1 Y_Net_setGrafted.1 ∈ lw_good := ⟨mg 695 (by decide +kernel) (by decide +kernel), mg 696 (by decide +kernel) (by decide +kernel)⟩
def Y_T_grafted : YY := (⟨"TreeTongues", "grafted", "(III)I"⟩, prog_1_method_16_code, 6, some .int)
theorem yk_T_grafted : YK Y_T_grafted := ⟨mg 693 (by decide +kernel) (by decide +kernel), mg 81 (by decide +kernel) (by decide +kernel), ⟨by decide +kernel, by decide +kernel⟩, by decide +kernel, by decide⟩
theorem np_T_grafted : (parseMethodDescriptor Y_T_grafted.1.desc).map (fun d => d.parameters.length) = some 3 := by decide +kernel
theorem vk_T_grafted : Jvm.Cond.instanceMethod Y_T_grafted.1 ∈ lw_good ∧ Jvm.Cond.selects Y_T_grafted.1.cls Y_T_grafted.1 Y_T_grafted.1 ∈ lw_good := ⟨mg 691 (by decide +kernel) (by decide +kernel), mg 692 (by decide +kernel) (by decide +kernel)⟩
def Y_T_undo : YY := (⟨"TreeTongues", "undo", "()I"⟩, prog_1_method_17_code, 1, some .int)
theorem yk_T_undo : YK Y_T_undo := ⟨mg 701 (by decide +kernel) (by decide +kernel), mg 81 (by decide +kernel) (by decide +kernel), ⟨by decide +kernel, by decide +kernel⟩, by decide +kernel, by decide⟩
theorem np_T_undo : (parseMethodDescriptor Y_T_undo.1.desc).map (fun d => d.parameters.length) = some 0 := by decide +kernel
theorem vk_T_undo : Jvm.Cond.instanceMethod Y_T_undo.1 ∈ lw_good ∧ Jvm.Cond.selects Y_T_undo.1.cls Y_T_undo.1 Y_T_undo.1 ∈ lw_good := ⟨mg 699 (by decide +kernel) (by decide +kernel), mg 700 (by decide +kernel) (by decide +kernel)⟩
def Y_T_classes : YY := (⟨"TreeTongues", "classes", "(I)I"⟩, prog_1_method_18_code, 3, some .int)
theorem yk_T_classes : YK Y_T_classes := ⟨mg 705 (by decide +kernel) (by decide +kernel), mg 81 (by decide +kernel) (by decide +kernel), ⟨by decide +kernel, by decide +kernel⟩, by decide +kernel, by decide⟩
theorem np_T_classes : (parseMethodDescriptor Y_T_classes.1.desc).map (fun d => d.parameters.length) = some 1 := by decide +kernel
theorem vk_T_classes : Jvm.Cond.instanceMethod Y_T_classes.1 ∈ lw_good ∧ Jvm.Cond.selects Y_T_classes.1.cls Y_T_classes.1 Y_T_classes.1 ∈ lw_good := ⟨mg 703 (by decide +kernel) (by decide +kernel), mg 704 (by decide +kernel) (by decide +kernel)⟩
def Y_Machine_hasClass : YY := (⟨"TreeTongues$Machine", "hasClass", "(I)Z"⟩, prog_3_method_2_code, 2, some .boolean)
theorem yk_Machine_hasClass : YK Y_Machine_hasClass := ⟨mg 713 (by decide +kernel) (by decide +kernel), mg 87 (by decide +kernel) (by decide +kernel), ⟨by decide +kernel, by decide +kernel⟩, by decide +kernel, by decide⟩
theorem np_Machine_hasClass : (parseMethodDescriptor Y_Machine_hasClass.1.desc).map (fun d => d.parameters.length) = some 1 := by decide +kernel
theorem vk_Machine_hasClass : Jvm.Cond.instanceMethod Y_Machine_hasClass.1 ∈ lw_good ∧ Jvm.Cond.selects Y_Machine_hasClass.1.cls Y_Machine_hasClass.1 Y_Machine_hasClass.1 ∈ lw_good := ⟨mg 711 (by decide +kernel) (by decide +kernel), mg 712 (by decide +kernel) (by decide +kernel)⟩
def Y_T_go : YY := (⟨"TreeTongues", "go", "(IIII)I"⟩, prog_1_method_19_code, 7, some .int)
theorem yk_T_go : YK Y_T_go := ⟨mg 709 (by decide +kernel) (by decide +kernel), mg 81 (by decide +kernel) (by decide +kernel), ⟨by decide +kernel, by decide +kernel⟩, by decide +kernel, by decide⟩
theorem np_T_go : (parseMethodDescriptor Y_T_go.1.desc).map (fun d => d.parameters.length) = some 4 := by decide +kernel
theorem vk_T_go : Jvm.Cond.instanceMethod Y_T_go.1 ∈ lw_good ∧ Jvm.Cond.selects Y_T_go.1.cls Y_T_go.1 Y_T_go.1 ∈ lw_good := ⟨mg 707 (by decide +kernel) (by decide +kernel), mg 708 (by decide +kernel) (by decide +kernel)⟩
def Y_T_isLast : YY := (⟨"TreeTongues", "isLast", "(II)I"⟩, prog_1_method_20_code, 4, some .int)
theorem yk_T_isLast : YK Y_T_isLast := ⟨mg 718 (by decide +kernel) (by decide +kernel), mg 81 (by decide +kernel) (by decide +kernel), ⟨by decide +kernel, by decide +kernel⟩, by decide +kernel, by decide⟩
theorem np_T_isLast : (parseMethodDescriptor Y_T_isLast.1.desc).map (fun d => d.parameters.length) = some 2 := by decide +kernel
theorem vk_T_isLast : Jvm.Cond.instanceMethod Y_T_isLast.1 ∈ lw_good ∧ Jvm.Cond.selects Y_T_isLast.1.cls Y_T_isLast.1 Y_T_isLast.1 ∈ lw_good := ⟨mg 716 (by decide +kernel) (by decide +kernel), mg 717 (by decide +kernel) (by decide +kernel)⟩
def Y_T_size : YY := (⟨"TreeTongues", "size", "(II)I"⟩, prog_1_method_21_code, 4, some .int)
theorem yk_T_size : YK Y_T_size := ⟨mg 723 (by decide +kernel) (by decide +kernel), mg 81 (by decide +kernel) (by decide +kernel), ⟨by decide +kernel, by decide +kernel⟩, by decide +kernel, by decide⟩
theorem np_T_size : (parseMethodDescriptor Y_T_size.1.desc).map (fun d => d.parameters.length) = some 2 := by decide +kernel
theorem vk_T_size : Jvm.Cond.instanceMethod Y_T_size.1 ∈ lw_good ∧ Jvm.Cond.selects Y_T_size.1.cls Y_T_size.1 Y_T_size.1 ∈ lw_good := ⟨mg 721 (by decide +kernel) (by decide +kernel), mg 722 (by decide +kernel) (by decide +kernel)⟩
def Y_Row_spanFrom : YY := (⟨"TreeTongues$Row", "spanFrom", "(I)I"⟩, prog_6_method_4_code, 4, some .int)
theorem yk_Row_spanFrom : YK Y_Row_spanFrom := ⟨mg 735 (by decide +kernel) (by decide +kernel), mg 83 (by decide +kernel) (by decide +kernel), ⟨by decide +kernel, by decide +kernel⟩, by decide +kernel, by decide⟩
theorem np_Row_spanFrom : (parseMethodDescriptor Y_Row_spanFrom.1.desc).map (fun d => d.parameters.length) = some 1 := by decide +kernel
theorem vk_Row_spanFrom : Jvm.Cond.instanceMethod Y_Row_spanFrom.1 ∈ lw_good ∧ Jvm.Cond.selects Y_Row_spanFrom.1.cls Y_Row_spanFrom.1 Y_Row_spanFrom.1 ∈ lw_good := ⟨mg 734 (by decide +kernel) (by decide +kernel), mg 22 (by decide +kernel) (by decide +kernel)⟩
def Y_Row_isTree : YY := (⟨"TreeTongues$Row", "isTree", "()Z"⟩, prog_6_method_3_code, 2, some .boolean)
theorem yk_Row_isTree : YK Y_Row_isTree := ⟨mg 731 (by decide +kernel) (by decide +kernel), mg 83 (by decide +kernel) (by decide +kernel), ⟨by decide +kernel, by decide +kernel⟩, by decide +kernel, by decide⟩
theorem np_Row_isTree : (parseMethodDescriptor Y_Row_isTree.1.desc).map (fun d => d.parameters.length) = some 0 := by decide +kernel
theorem vk_Row_isTree : Jvm.Cond.instanceMethod Y_Row_isTree.1 ∈ lw_good ∧ Jvm.Cond.selects Y_Row_isTree.1.cls Y_Row_isTree.1 Y_Row_isTree.1 ∈ lw_good := ⟨mg 729 (by decide +kernel) (by decide +kernel), mg 730 (by decide +kernel) (by decide +kernel)⟩
def Y_Row_secondPart : YY := (⟨"TreeTongues$Row", "secondPart", "(I)I"⟩, prog_6_method_5_code, 2, some .int)
theorem yk_Row_secondPart : YK Y_Row_secondPart := ⟨mg 744 (by decide +kernel) (by decide +kernel), mg 83 (by decide +kernel) (by decide +kernel), ⟨by decide +kernel, by decide +kernel⟩, by decide +kernel, by decide⟩
theorem np_Row_secondPart : (parseMethodDescriptor Y_Row_secondPart.1.desc).map (fun d => d.parameters.length) = some 1 := by decide +kernel
theorem vk_Row_secondPart : Jvm.Cond.instanceMethod Y_Row_secondPart.1 ∈ lw_good ∧ Jvm.Cond.selects Y_Row_secondPart.1.cls Y_Row_secondPart.1 Y_Row_secondPart.1 ∈ lw_good := ⟨mg 742 (by decide +kernel) (by decide +kernel), mg 743 (by decide +kernel) (by decide +kernel)⟩
def Y_Row_readBy : YY := (⟨"TreeTongues$Row", "readBy", "(LTreeTongues$Machine;)I"⟩, prog_6_method_6_code, 4, some .int)
theorem yk_Row_readBy : YK Y_Row_readBy := ⟨mg 740 (by decide +kernel) (by decide +kernel), mg 83 (by decide +kernel) (by decide +kernel), ⟨by decide +kernel, by decide +kernel⟩, by decide +kernel, by decide⟩
theorem np_Row_readBy : (parseMethodDescriptor Y_Row_readBy.1.desc).map (fun d => d.parameters.length) = some 1 := by decide +kernel
theorem vk_Row_readBy : Jvm.Cond.instanceMethod Y_Row_readBy.1 ∈ lw_good ∧ Jvm.Cond.selects Y_Row_readBy.1.cls Y_Row_readBy.1 Y_Row_readBy.1 ∈ lw_good := ⟨mg 738 (by decide +kernel) (by decide +kernel), mg 739 (by decide +kernel) (by decide +kernel)⟩
def Y_T_classOf : YY := (⟨"TreeTongues", "classOf", "(I)I"⟩, prog_1_method_22_code, 3, some .int)
theorem yk_T_classOf : YK Y_T_classOf := ⟨mg 727 (by decide +kernel) (by decide +kernel), mg 81 (by decide +kernel) (by decide +kernel), ⟨by decide +kernel, by decide +kernel⟩, by decide +kernel, by decide⟩
theorem np_T_classOf : (parseMethodDescriptor Y_T_classOf.1.desc).map (fun d => d.parameters.length) = some 1 := by decide +kernel
theorem vk_T_classOf : Jvm.Cond.instanceMethod Y_T_classOf.1 ∈ lw_good ∧ Jvm.Cond.selects Y_T_classOf.1.cls Y_T_classOf.1 Y_T_classOf.1 ∈ lw_good := ⟨mg 725 (by decide +kernel) (by decide +kernel), mg 726 (by decide +kernel) (by decide +kernel)⟩
def Y_T_has : YY := (⟨"TreeTongues", "has", "(I)I"⟩, prog_1_method_23_code, 3, some .int)
theorem yk_T_has : YK Y_T_has := ⟨mg 749 (by decide +kernel) (by decide +kernel), mg 81 (by decide +kernel) (by decide +kernel), ⟨by decide +kernel, by decide +kernel⟩, by decide +kernel, by decide⟩
theorem np_T_has : (parseMethodDescriptor Y_T_has.1.desc).map (fun d => d.parameters.length) = some 1 := by decide +kernel
theorem vk_T_has : Jvm.Cond.instanceMethod Y_T_has.1 ∈ lw_good ∧ Jvm.Cond.selects Y_T_has.1.cls Y_T_has.1 Y_T_has.1 ∈ lw_good := ⟨mg 747 (by decide +kernel) (by decide +kernel), mg 748 (by decide +kernel) (by decide +kernel)⟩
def Y_Row_addFirstTree : YY := (⟨"TreeTongues$Row", "addFirstTree", "(LTreeTongues$Machine;II)V"⟩, prog_6_method_8_code, 5, none)
theorem yk_Row_addFirstTree : YK Y_Row_addFirstTree := ⟨mg 765 (by decide +kernel) (by decide +kernel), mg 83 (by decide +kernel) (by decide +kernel), ⟨by decide +kernel, by decide +kernel⟩, by decide +kernel, by decide⟩
theorem np_Row_addFirstTree : (parseMethodDescriptor Y_Row_addFirstTree.1.desc).map (fun d => d.parameters.length) = some 3 := by decide +kernel
theorem vk_Row_addFirstTree : Jvm.Cond.instanceMethod Y_Row_addFirstTree.1 ∈ lw_good ∧ Jvm.Cond.selects Y_Row_addFirstTree.1.cls Y_Row_addFirstTree.1 Y_Row_addFirstTree.1 ∈ lw_good := ⟨mg 764 (by decide +kernel) (by decide +kernel), mg 24 (by decide +kernel) (by decide +kernel)⟩
def Y_Row_becomeFirstTree : YY := (⟨"TreeTongues$Row", "becomeFirstTree", "(LTreeTongues$Machine;I)V"⟩, prog_6_method_7_code, 3, none)
theorem yk_Row_becomeFirstTree : YK Y_Row_becomeFirstTree := ⟨mg 761 (by decide +kernel) (by decide +kernel), mg 83 (by decide +kernel) (by decide +kernel), ⟨by decide +kernel, by decide +kernel⟩, by decide +kernel, by decide⟩
theorem np_Row_becomeFirstTree : (parseMethodDescriptor Y_Row_becomeFirstTree.1.desc).map (fun d => d.parameters.length) = some 2 := by decide +kernel
theorem vk_Row_becomeFirstTree : Jvm.Cond.instanceMethod Y_Row_becomeFirstTree.1 ∈ lw_good ∧ Jvm.Cond.selects Y_Row_becomeFirstTree.1.cls Y_Row_becomeFirstTree.1 Y_Row_becomeFirstTree.1 ∈ lw_good := ⟨mg 759 (by decide +kernel) (by decide +kernel), mg 760 (by decide +kernel) (by decide +kernel)⟩
def Y_T_writeLeast : YY := (⟨"TreeTongues", "writeLeast", "(LTreeTongues$Machine;)I"⟩, prog_1_method_35_code, 3, some .int)
theorem yk_T_writeLeast : YK Y_T_writeLeast := ⟨mg 757 (by decide +kernel) (by decide +kernel), mg 81 (by decide +kernel) (by decide +kernel), ⟨by decide +kernel, by decide +kernel⟩, by decide +kernel, by decide⟩
theorem np_T_writeLeast : (parseMethodDescriptor Y_T_writeLeast.1.desc).map (fun d => d.parameters.length) = some 1 := by decide +kernel
theorem vk_T_writeLeast : Jvm.Cond.instanceMethod Y_T_writeLeast.1 ∈ lw_good ∧ Jvm.Cond.selects Y_T_writeLeast.1.cls Y_T_writeLeast.1 Y_T_writeLeast.1 ∈ lw_good := ⟨mg 756 (by decide +kernel) (by decide +kernel), mg 23 (by decide +kernel) (by decide +kernel)⟩
def Y_T_least : YY := (⟨"TreeTongues", "least", "(I)I"⟩, prog_1_method_24_code, 3, some .int)
theorem yk_T_least : YK Y_T_least := ⟨mg 753 (by decide +kernel) (by decide +kernel), mg 81 (by decide +kernel) (by decide +kernel), ⟨by decide +kernel, by decide +kernel⟩, by decide +kernel, by decide⟩
theorem np_T_least : (parseMethodDescriptor Y_T_least.1.desc).map (fun d => d.parameters.length) = some 1 := by decide +kernel
theorem vk_T_least : Jvm.Cond.instanceMethod Y_T_least.1 ∈ lw_good ∧ Jvm.Cond.selects Y_T_least.1.cls Y_T_least.1 Y_T_least.1 ∈ lw_good := ⟨mg 751 (by decide +kernel) (by decide +kernel), mg 752 (by decide +kernel) (by decide +kernel)⟩
def Y_T_unlike : YY := (⟨"TreeTongues", "unlike", "(II)I"⟩, prog_1_method_25_code, 5, some .int)
theorem yk_T_unlike : YK Y_T_unlike := ⟨mg 771 (by decide +kernel) (by decide +kernel), mg 81 (by decide +kernel) (by decide +kernel), ⟨by decide +kernel, by decide +kernel⟩, by decide +kernel, by decide⟩
theorem np_T_unlike : (parseMethodDescriptor Y_T_unlike.1.desc).map (fun d => d.parameters.length) = some 2 := by decide +kernel
theorem vk_T_unlike : Jvm.Cond.instanceMethod Y_T_unlike.1 ∈ lw_good ∧ Jvm.Cond.selects Y_T_unlike.1.cls Y_T_unlike.1 Y_T_unlike.1 ∈ lw_good := ⟨mg 769 (by decide +kernel) (by decide +kernel), mg 770 (by decide +kernel) (by decide +kernel)⟩
def Y_Machine_isEndless : YY := (⟨"TreeTongues$Machine", "isEndless", "()Z"⟩, prog_3_method_12_code, 4, some .boolean)
theorem yk_Machine_isEndless : YK Y_Machine_isEndless := ⟨mg 779 (by decide +kernel) (by decide +kernel), mg 87 (by decide +kernel) (by decide +kernel), ⟨by decide +kernel, by decide +kernel⟩, by decide +kernel, by decide⟩
theorem np_Machine_isEndless : (parseMethodDescriptor Y_Machine_isEndless.1.desc).map (fun d => d.parameters.length) = some 0 := by decide +kernel
theorem vk_Machine_isEndless : Jvm.Cond.instanceMethod Y_Machine_isEndless.1 ∈ lw_good ∧ Jvm.Cond.selects Y_Machine_isEndless.1.cls Y_Machine_isEndless.1 Y_Machine_isEndless.1 ∈ lw_good := ⟨mg 777 (by decide +kernel) (by decide +kernel), mg 778 (by decide +kernel) (by decide +kernel)⟩
def Y_T_ends : YY := (⟨"TreeTongues", "ends", "(I)I"⟩, prog_1_method_26_code, 3, some .int)
theorem yk_T_ends : YK Y_T_ends := ⟨mg 775 (by decide +kernel) (by decide +kernel), mg 81 (by decide +kernel) (by decide +kernel), ⟨by decide +kernel, by decide +kernel⟩, by decide +kernel, by decide⟩
theorem np_T_ends : (parseMethodDescriptor Y_T_ends.1.desc).map (fun d => d.parameters.length) = some 1 := by decide +kernel
theorem vk_T_ends : Jvm.Cond.instanceMethod Y_T_ends.1 ∈ lw_good ∧ Jvm.Cond.selects Y_T_ends.1.cls Y_T_ends.1 Y_T_ends.1 ∈ lw_good := ⟨mg 773 (by decide +kernel) (by decide +kernel), mg 774 (by decide +kernel) (by decide +kernel)⟩
def Y_Arr_fill_JJV : YY := (⟨"java/util/Arrays", "fill", "([JJ)V"⟩, prog_13_method_101_code, 5, none)
theorem yk_Arr_fill_JJV : YK Y_Arr_fill_JJV := ⟨mg 796 (by decide +kernel) (by decide +kernel), mg 91 (by decide +kernel) (by decide +kernel), ⟨by decide +kernel, by decide +kernel⟩, by decide +kernel, by decide⟩
theorem np_Arr_fill_JJV : (parseMethodDescriptor Y_Arr_fill_JJV.1.desc).map (fun d => d.parameters.length) = some 2 := by decide +kernel
theorem sk_Arr_fill_JJV : Jvm.Cond.static Y_Arr_fill_JJV.1 ∈ lw_good := mg 795 (by decide +kernel) (by decide +kernel)
def Y_Census_plus : YY := (⟨"TreeTongues$Census", "plus", "(JJ)J"⟩, prog_2_method_19_code, 4, some .long)
theorem yk_Census_plus : YK Y_Census_plus := ⟨mg 809 (by decide +kernel) (by decide +kernel), mg 88 (by decide +kernel) (by decide +kernel), ⟨by decide +kernel, by decide +kernel⟩, by decide +kernel, by decide⟩
theorem np_Census_plus : (parseMethodDescriptor Y_Census_plus.1.desc).map (fun d => d.parameters.length) = some 2 := by decide +kernel
theorem sk_Census_plus : Jvm.Cond.static Y_Census_plus.1 ∈ lw_good := mg 808 (by decide +kernel) (by decide +kernel)
def Y_Census_add : YY := (⟨"TreeTongues$Census", "add", "(LTreeTongues$Machine;IIJ)V"⟩, prog_2_method_9_code, 7, none)
theorem yk_Census_add : YK Y_Census_add := ⟨mg 806 (by decide +kernel) (by decide +kernel), mg 88 (by decide +kernel) (by decide +kernel), ⟨by decide +kernel, by decide +kernel⟩, by decide +kernel, by decide⟩
theorem np_Census_add : (parseMethodDescriptor Y_Census_add.1.desc).map (fun d => d.parameters.length) = some 4 := by decide +kernel
theorem vk_Census_add : Jvm.Cond.instanceMethod Y_Census_add.1 ∈ lw_good ∧ Jvm.Cond.selects Y_Census_add.1.cls Y_Census_add.1 Y_Census_add.1 ∈ lw_good := ⟨mg 805 (by decide +kernel) (by decide +kernel), mg 27 (by decide +kernel) (by decide +kernel)⟩
def Y_Census_countSimple : YY := (⟨"TreeTongues$Census", "countSimple", "(LTreeTongues$Machine;I)V"⟩, prog_2_method_6_code, 6, none)
theorem yk_Census_countSimple : YK Y_Census_countSimple := ⟨mg 800 (by decide +kernel) (by decide +kernel), mg 88 (by decide +kernel) (by decide +kernel), ⟨by decide +kernel, by decide +kernel⟩, by decide +kernel, by decide⟩
theorem np_Census_countSimple : (parseMethodDescriptor Y_Census_countSimple.1.desc).map (fun d => d.parameters.length) = some 2 := by decide +kernel
theorem vk_Census_countSimple : Jvm.Cond.instanceMethod Y_Census_countSimple.1 ∈ lw_good ∧ Jvm.Cond.selects Y_Census_countSimple.1.cls Y_Census_countSimple.1 Y_Census_countSimple.1 ∈ lw_good := ⟨mg 799 (by decide +kernel) (by decide +kernel), mg 26 (by decide +kernel) (by decide +kernel)⟩
def Y_Census_times : YY := (⟨"TreeTongues$Census", "times", "(JJ)J"⟩, prog_2_method_20_code, 4, some .long)
theorem yk_Census_times : YK Y_Census_times := ⟨mg 824 (by decide +kernel) (by decide +kernel), mg 88 (by decide +kernel) (by decide +kernel), ⟨by decide +kernel, by decide +kernel⟩, by decide +kernel, by decide⟩
theorem np_Census_times : (parseMethodDescriptor Y_Census_times.1.desc).map (fun d => d.parameters.length) = some 2 := by decide +kernel
theorem sk_Census_times : Jvm.Cond.static Y_Census_times.1 ∈ lw_good := mg 823 (by decide +kernel) (by decide +kernel)
def Y_Census_pairsOf : YY := (⟨"TreeTongues$Census", "pairsOf", "(LTreeTongues$Machine;III)J"⟩, prog_2_method_8_code, 8, some .long)
theorem yk_Census_pairsOf : YK Y_Census_pairsOf := ⟨mg 821 (by decide +kernel) (by decide +kernel), mg 88 (by decide +kernel) (by decide +kernel), ⟨by decide +kernel, by decide +kernel⟩, by decide +kernel, by decide⟩
theorem np_Census_pairsOf : (parseMethodDescriptor Y_Census_pairsOf.1.desc).map (fun d => d.parameters.length) = some 4 := by decide +kernel
theorem vk_Census_pairsOf : Jvm.Cond.instanceMethod Y_Census_pairsOf.1 ∈ lw_good ∧ Jvm.Cond.selects Y_Census_pairsOf.1.cls Y_Census_pairsOf.1 Y_Census_pairsOf.1 ∈ lw_good := ⟨mg 820 (by decide +kernel) (by decide +kernel), mg 29 (by decide +kernel) (by decide +kernel)⟩
def Y_Census_countPairs : YY := (⟨"TreeTongues$Census", "countPairs", "(LTreeTongues$Machine;I)V"⟩, prog_2_method_7_code, 8, none)
theorem yk_Census_countPairs : YK Y_Census_countPairs := ⟨mg 817 (by decide +kernel) (by decide +kernel), mg 88 (by decide +kernel) (by decide +kernel), ⟨by decide +kernel, by decide +kernel⟩, by decide +kernel, by decide⟩
theorem np_Census_countPairs : (parseMethodDescriptor Y_Census_countPairs.1.desc).map (fun d => d.parameters.length) = some 2 := by decide +kernel
theorem vk_Census_countPairs : Jvm.Cond.instanceMethod Y_Census_countPairs.1 ∈ lw_good ∧ Jvm.Cond.selects Y_Census_countPairs.1.cls Y_Census_countPairs.1 Y_Census_countPairs.1 ∈ lw_good := ⟨mg 816 (by decide +kernel) (by decide +kernel), mg 28 (by decide +kernel) (by decide +kernel)⟩
def Y_Census_countAll : YY := (⟨"TreeTongues$Census", "countAll", "(LTreeTongues$Machine;)V"⟩, prog_2_method_5_code, 3, none)
theorem yk_Census_countAll : YK Y_Census_countAll := ⟨mg 793 (by decide +kernel) (by decide +kernel), mg 88 (by decide +kernel) (by decide +kernel), ⟨by decide +kernel, by decide +kernel⟩, by decide +kernel, by decide⟩
theorem np_Census_countAll : (parseMethodDescriptor Y_Census_countAll.1.desc).map (fun d => d.parameters.length) = some 1 := by decide +kernel
theorem vk_Census_countAll : Jvm.Cond.instanceMethod Y_Census_countAll.1 ∈ lw_good ∧ Jvm.Cond.selects Y_Census_countAll.1.cls Y_Census_countAll.1 Y_Census_countAll.1 ∈ lw_good := ⟨mg 792 (by decide +kernel) (by decide +kernel), mg 25 (by decide +kernel) (by decide +kernel)⟩
def Y_Census_treesOf : YY := (⟨"TreeTongues$Census", "treesOf", "(LTreeTongues$Machine;I)J"⟩, prog_2_method_2_code, 6, some .long)
theorem yk_Census_treesOf : YK Y_Census_treesOf := ⟨mg 789 (by decide +kernel) (by decide +kernel), mg 88 (by decide +kernel) (by decide +kernel), ⟨by decide +kernel, by decide +kernel⟩, by decide +kernel, by decide⟩
theorem np_Census_treesOf : (parseMethodDescriptor Y_Census_treesOf.1.desc).map (fun d => d.parameters.length) = some 2 := by decide +kernel
theorem vk_Census_treesOf : Jvm.Cond.instanceMethod Y_Census_treesOf.1 ∈ lw_good ∧ Jvm.Cond.selects Y_Census_treesOf.1.cls Y_Census_treesOf.1 Y_Census_treesOf.1 ∈ lw_good := ⟨mg 787 (by decide +kernel) (by decide +kernel), mg 788 (by decide +kernel) (by decide +kernel)⟩
def Y_T_count : YY := (⟨"TreeTongues", "count", "(II)J"⟩, prog_1_method_27_code, 4, some .long)
theorem yk_T_count : YK Y_T_count := ⟨mg 784 (by decide +kernel) (by decide +kernel), mg 81 (by decide +kernel) (by decide +kernel), ⟨by decide +kernel, by decide +kernel⟩, by decide +kernel, by decide⟩
theorem np_T_count : (parseMethodDescriptor Y_T_count.1.desc).map (fun d => d.parameters.length) = some 2 := by decide +kernel
theorem vk_T_count : Jvm.Cond.instanceMethod Y_T_count.1 ∈ lw_good ∧ Jvm.Cond.selects Y_T_count.1.cls Y_T_count.1 Y_T_count.1 ∈ lw_good := ⟨mg 782 (by decide +kernel) (by decide +kernel), mg 783 (by decide +kernel) (by decide +kernel)⟩
def Y_Census_weighFinals : YY := (⟨"TreeTongues$Census", "weighFinals", "(LTreeTongues$Machine;)V"⟩, prog_2_method_10_code, 3, none)
theorem yk_Census_weighFinals : YK Y_Census_weighFinals := ⟨mg 839 (by decide +kernel) (by decide +kernel), mg 88 (by decide +kernel) (by decide +kernel), ⟨by decide +kernel, by decide +kernel⟩, by decide +kernel, by decide⟩
theorem np_Census_weighFinals : (parseMethodDescriptor Y_Census_weighFinals.1.desc).map (fun d => d.parameters.length) = some 1 := by decide +kernel
theorem vk_Census_weighFinals : Jvm.Cond.instanceMethod Y_Census_weighFinals.1 ∈ lw_good ∧ Jvm.Cond.selects Y_Census_weighFinals.1.cls Y_Census_weighFinals.1 Y_Census_weighFinals.1 ∈ lw_good := ⟨mg 838 (by decide +kernel) (by decide +kernel), mg 30 (by decide +kernel) (by decide +kernel)⟩
def Y_Census_leastFirst : YY := (⟨"TreeTongues$Census", "leastFirst", "(II)I"⟩, prog_2_method_11_code, 4, some .int)
theorem yk_Census_leastFirst : YK Y_Census_leastFirst := ⟨mg 847 (by decide +kernel) (by decide +kernel), mg 88 (by decide +kernel) (by decide +kernel), ⟨by decide +kernel, by decide +kernel⟩, by decide +kernel, by decide⟩
theorem np_Census_leastFirst : (parseMethodDescriptor Y_Census_leastFirst.1.desc).map (fun d => d.parameters.length) = some 2 := by decide +kernel
theorem vk_Census_leastFirst : Jvm.Cond.instanceMethod Y_Census_leastFirst.1 ∈ lw_good ∧ Jvm.Cond.selects Y_Census_leastFirst.1.cls Y_Census_leastFirst.1 Y_Census_leastFirst.1 ∈ lw_good := ⟨mg 846 (by decide +kernel) (by decide +kernel), mg 32 (by decide +kernel) (by decide +kernel)⟩
def Y_Census_mostFirst : YY := (⟨"TreeTongues$Census", "mostFirst", "(II)I"⟩, prog_2_method_12_code, 3, some .int)
theorem yk_Census_mostFirst : YK Y_Census_mostFirst := ⟨mg 851 (by decide +kernel) (by decide +kernel), mg 88 (by decide +kernel) (by decide +kernel), ⟨by decide +kernel, by decide +kernel⟩, by decide +kernel, by decide⟩
theorem np_Census_mostFirst : (parseMethodDescriptor Y_Census_mostFirst.1.desc).map (fun d => d.parameters.length) = some 2 := by decide +kernel
theorem vk_Census_mostFirst : Jvm.Cond.instanceMethod Y_Census_mostFirst.1 ∈ lw_good ∧ Jvm.Cond.selects Y_Census_mostFirst.1.cls Y_Census_mostFirst.1 Y_Census_mostFirst.1 ∈ lw_good := ⟨mg 850 (by decide +kernel) (by decide +kernel), mg 33 (by decide +kernel) (by decide +kernel)⟩
def Y_Census_seconds : YY := (⟨"TreeTongues$Census", "seconds", "(LTreeTongues$Machine;IIII)J"⟩, prog_2_method_14_code, 9, some .long)
theorem yk_Census_seconds : YK Y_Census_seconds := ⟨mg 859 (by decide +kernel) (by decide +kernel), mg 88 (by decide +kernel) (by decide +kernel), ⟨by decide +kernel, by decide +kernel⟩, by decide +kernel, by decide⟩
theorem np_Census_seconds : (parseMethodDescriptor Y_Census_seconds.1.desc).map (fun d => d.parameters.length) = some 5 := by decide +kernel
theorem vk_Census_seconds : Jvm.Cond.instanceMethod Y_Census_seconds.1 ∈ lw_good ∧ Jvm.Cond.selects Y_Census_seconds.1.cls Y_Census_seconds.1 Y_Census_seconds.1 ∈ lw_good := ⟨mg 858 (by decide +kernel) (by decide +kernel), mg 35 (by decide +kernel) (by decide +kernel)⟩
def Y_Census_share : YY := (⟨"TreeTongues$Census", "share", "(LTreeTongues$Machine;IIII)J"⟩, prog_2_method_13_code, 11, some .long)
theorem yk_Census_share : YK Y_Census_share := ⟨mg 855 (by decide +kernel) (by decide +kernel), mg 88 (by decide +kernel) (by decide +kernel), ⟨by decide +kernel, by decide +kernel⟩, by decide +kernel, by decide⟩
theorem np_Census_share : (parseMethodDescriptor Y_Census_share.1.desc).map (fun d => d.parameters.length) = some 5 := by decide +kernel
theorem vk_Census_share : Jvm.Cond.instanceMethod Y_Census_share.1 ∈ lw_good ∧ Jvm.Cond.selects Y_Census_share.1.cls Y_Census_share.1 Y_Census_share.1 ∈ lw_good := ⟨mg 854 (by decide +kernel) (by decide +kernel), mg 34 (by decide +kernel) (by decide +kernel)⟩
def Y_Census_weighSeconds : YY := (⟨"TreeTongues$Census", "weighSeconds", "(LTreeTongues$Machine;III)V"⟩, prog_2_method_15_code, 7, none)
theorem yk_Census_weighSeconds : YK Y_Census_weighSeconds := ⟨mg 868 (by decide +kernel) (by decide +kernel), mg 88 (by decide +kernel) (by decide +kernel), ⟨by decide +kernel, by decide +kernel⟩, by decide +kernel, by decide⟩
theorem np_Census_weighSeconds : (parseMethodDescriptor Y_Census_weighSeconds.1.desc).map (fun d => d.parameters.length) = some 4 := by decide +kernel
theorem vk_Census_weighSeconds : Jvm.Cond.instanceMethod Y_Census_weighSeconds.1 ∈ lw_good ∧ Jvm.Cond.selects Y_Census_weighSeconds.1.cls Y_Census_weighSeconds.1 Y_Census_weighSeconds.1 ∈ lw_good := ⟨mg 867 (by decide +kernel) (by decide +kernel), mg 37 (by decide +kernel) (by decide +kernel)⟩
def Y_Census_writeParts : YY := (⟨"TreeTongues$Census", "writeParts", "(LTreeTongues$Machine;IIIIJ)I"⟩, prog_2_method_17_code, 11, some .int)
theorem yk_Census_writeParts : YK Y_Census_writeParts := ⟨mg 864 (by decide +kernel) (by decide +kernel), mg 88 (by decide +kernel) (by decide +kernel), ⟨by decide +kernel, by decide +kernel⟩, by decide +kernel, by decide⟩
theorem np_Census_writeParts : (parseMethodDescriptor Y_Census_writeParts.1.desc).map (fun d => d.parameters.length) = some 6 := by decide +kernel
theorem vk_Census_writeParts : Jvm.Cond.instanceMethod Y_Census_writeParts.1 ∈ lw_good ∧ Jvm.Cond.selects Y_Census_writeParts.1.cls Y_Census_writeParts.1 Y_Census_writeParts.1 ∈ lw_good := ⟨mg 863 (by decide +kernel) (by decide +kernel), mg 36 (by decide +kernel) (by decide +kernel)⟩
def Y_Census_write : YY := (⟨"TreeTongues$Census", "write", "(LTreeTongues$Machine;IIJ)I"⟩, prog_2_method_16_code, 12, some .int)
theorem yk_Census_write : YK Y_Census_write := ⟨mg 843 (by decide +kernel) (by decide +kernel), mg 88 (by decide +kernel) (by decide +kernel), ⟨by decide +kernel, by decide +kernel⟩, by decide +kernel, by decide⟩
theorem np_Census_write : (parseMethodDescriptor Y_Census_write.1.desc).map (fun d => d.parameters.length) = some 4 := by decide +kernel
theorem vk_Census_write : Jvm.Cond.instanceMethod Y_Census_write.1 ∈ lw_good ∧ Jvm.Cond.selects Y_Census_write.1.cls Y_Census_write.1 Y_Census_write.1 ∈ lw_good := ⟨mg 842 (by decide +kernel) (by decide +kernel), mg 31 (by decide +kernel) (by decide +kernel)⟩
def Y_Census_writeNumber : YY := (⟨"TreeTongues$Census", "writeNumber", "(LTreeTongues$Machine;J)I"⟩, prog_2_method_3_code, 9, some .int)
theorem yk_Census_writeNumber : YK Y_Census_writeNumber := ⟨mg 834 (by decide +kernel) (by decide +kernel), mg 88 (by decide +kernel) (by decide +kernel), ⟨by decide +kernel, by decide +kernel⟩, by decide +kernel, by decide⟩
theorem np_Census_writeNumber : (parseMethodDescriptor Y_Census_writeNumber.1.desc).map (fun d => d.parameters.length) = some 2 := by decide +kernel
theorem vk_Census_writeNumber : Jvm.Cond.instanceMethod Y_Census_writeNumber.1 ∈ lw_good ∧ Jvm.Cond.selects Y_Census_writeNumber.1.cls Y_Census_writeNumber.1 Y_Census_writeNumber.1 ∈ lw_good := ⟨mg 832 (by decide +kernel) (by decide +kernel), mg 833 (by decide +kernel) (by decide +kernel)⟩
def Y_T_tree : YY := (⟨"TreeTongues", "tree", "(IJ)I"⟩, prog_1_method_28_code, 5, some .int)
theorem yk_T_tree : YK Y_T_tree := ⟨mg 829 (by decide +kernel) (by decide +kernel), mg 81 (by decide +kernel) (by decide +kernel), ⟨by decide +kernel, by decide +kernel⟩, by decide +kernel, by decide⟩
theorem np_T_tree : (parseMethodDescriptor Y_T_tree.1.desc).map (fun d => d.parameters.length) = some 2 := by decide +kernel
theorem vk_T_tree : Jvm.Cond.instanceMethod Y_T_tree.1 ∈ lw_good ∧ Jvm.Cond.selects Y_T_tree.1.cls Y_T_tree.1 Y_T_tree.1 ∈ lw_good := ⟨mg 827 (by decide +kernel) (by decide +kernel), mg 828 (by decide +kernel) (by decide +kernel)⟩
def Y_Census_ahead : YY := (⟨"TreeTongues$Census", "ahead", "(LTreeTongues$Machine;II)J"⟩, prog_2_method_18_code, 13, some .long)
theorem yk_Census_ahead : YK Y_Census_ahead := ⟨mg 881 (by decide +kernel) (by decide +kernel), mg 88 (by decide +kernel) (by decide +kernel), ⟨by decide +kernel, by decide +kernel⟩, by decide +kernel, by decide⟩
theorem np_Census_ahead : (parseMethodDescriptor Y_Census_ahead.1.desc).map (fun d => d.parameters.length) = some 3 := by decide +kernel
theorem vk_Census_ahead : Jvm.Cond.instanceMethod Y_Census_ahead.1 ∈ lw_good ∧ Jvm.Cond.selects Y_Census_ahead.1.cls Y_Census_ahead.1 Y_Census_ahead.1 ∈ lw_good := ⟨mg 880 (by decide +kernel) (by decide +kernel), mg 38 (by decide +kernel) (by decide +kernel)⟩
def Y_Census_aheadOfRow : YY := (⟨"TreeTongues$Census", "aheadOfRow", "(LTreeTongues$Machine;)J"⟩, prog_2_method_4_code, 5, some .long)
theorem yk_Census_aheadOfRow : YK Y_Census_aheadOfRow := ⟨mg 876 (by decide +kernel) (by decide +kernel), mg 88 (by decide +kernel) (by decide +kernel), ⟨by decide +kernel, by decide +kernel⟩, by decide +kernel, by decide⟩
theorem np_Census_aheadOfRow : (parseMethodDescriptor Y_Census_aheadOfRow.1.desc).map (fun d => d.parameters.length) = some 1 := by decide +kernel
theorem vk_Census_aheadOfRow : Jvm.Cond.instanceMethod Y_Census_aheadOfRow.1 ∈ lw_good ∧ Jvm.Cond.selects Y_Census_aheadOfRow.1.cls Y_Census_aheadOfRow.1 Y_Census_aheadOfRow.1 ∈ lw_good := ⟨mg 874 (by decide +kernel) (by decide +kernel), mg 875 (by decide +kernel) (by decide +kernel)⟩
def Y_T_place : YY := (⟨"TreeTongues", "place", "(I)J"⟩, prog_1_method_29_code, 3, some .long)
theorem yk_T_place : YK Y_T_place := ⟨mg 872 (by decide +kernel) (by decide +kernel), mg 81 (by decide +kernel) (by decide +kernel), ⟨by decide +kernel, by decide +kernel⟩, by decide +kernel, by decide⟩
theorem np_T_place : (parseMethodDescriptor Y_T_place.1.desc).map (fun d => d.parameters.length) = some 1 := by decide +kernel
theorem vk_T_place : Jvm.Cond.instanceMethod Y_T_place.1 ∈ lw_good ∧ Jvm.Cond.selects Y_T_place.1.cls Y_T_place.1 Y_T_place.1 ∈ lw_good := ⟨mg 870 (by decide +kernel) (by decide +kernel), mg 871 (by decide +kernel) (by decide +kernel)⟩
def Y_T_told : YY := (⟨"TreeTongues", "told", "(I)I"⟩, prog_1_method_30_code, 2, some .int)
theorem yk_T_told : YK Y_T_told := ⟨mg 885 (by decide +kernel) (by decide +kernel), mg 81 (by decide +kernel) (by decide +kernel), ⟨by decide +kernel, by decide +kernel⟩, by decide +kernel, by decide⟩
theorem np_T_told : (parseMethodDescriptor Y_T_told.1.desc).map (fun d => d.parameters.length) = some 1 := by decide +kernel
theorem vk_T_told : Jvm.Cond.instanceMethod Y_T_told.1 ∈ lw_good ∧ Jvm.Cond.selects Y_T_told.1.cls Y_T_told.1 Y_T_told.1 ∈ lw_good := ⟨mg 883 (by decide +kernel) (by decide +kernel), mg 884 (by decide +kernel) (by decide +kernel)⟩
def Y_M_init : YY := (⟨"TreeTonguesModel", "<init>", "()V"⟩, prog_11_method_1_code, 1, none)
theorem yk_M_init : YK Y_M_init := ⟨mg 890 (by decide +kernel) (by decide +kernel), mg 89 (by decide +kernel) (by decide +kernel), ⟨by decide +kernel, by decide +kernel⟩, by decide +kernel, by decide⟩
theorem np_M_init : (parseMethodDescriptor Y_M_init.1.desc).map (fun d => d.parameters.length) = some 0 := by decide +kernel
theorem ik_M_init : Jvm.Cond.instanceMethod Y_M_init.1 ∈ lw_good := mg 889 (by decide +kernel) (by decide +kernel)
def Y_M_in : YY := (⟨"TreeTonguesModel", "in", "(JJJ)Z"⟩, prog_11_method_2_code, 6, some .boolean)
theorem yk_M_in : YK Y_M_in := ⟨mg 1064 (by decide +kernel) (by decide +kernel), mg 89 (by decide +kernel) (by decide +kernel), ⟨by decide +kernel, by decide +kernel⟩, by decide +kernel, by decide⟩
theorem np_M_in : (parseMethodDescriptor Y_M_in.1.desc).map (fun d => d.parameters.length) = some 3 := by decide +kernel
theorem sk_M_in : Jvm.Cond.static Y_M_in.1 ∈ lw_good := mg 1063 (by decide +kernel) (by decide +kernel)
def Y_M_sign : YY := (⟨"TreeTonguesModel", "sign", "(I)I"⟩, prog_11_method_5_code, 2, some .int)
theorem yk_M_sign : YK Y_M_sign := ⟨mg 1060 (by decide +kernel) (by decide +kernel), mg 89 (by decide +kernel) (by decide +kernel), ⟨by decide +kernel, by decide +kernel⟩, by decide +kernel, by decide⟩
theorem np_M_sign : (parseMethodDescriptor Y_M_sign.1.desc).map (fun d => d.parameters.length) = some 1 := by decide +kernel
theorem vk_M_sign : Jvm.Cond.instanceMethod Y_M_sign.1 ∈ lw_good ∧ Jvm.Cond.selects Y_M_sign.1.cls Y_M_sign.1 Y_M_sign.1 ∈ lw_good := ⟨mg 1058 (by decide +kernel) (by decide +kernel), mg 1059 (by decide +kernel) (by decide +kernel)⟩
def Y_M_isSign : YY := (⟨"TreeTonguesModel", "isSign", "(I)Z"⟩, prog_11_method_3_code, 2, some .boolean)
theorem yk_M_isSign : YK Y_M_isSign := ⟨mg 1072 (by decide +kernel) (by decide +kernel), mg 89 (by decide +kernel) (by decide +kernel), ⟨by decide +kernel, by decide +kernel⟩, by decide +kernel, by decide⟩
theorem np_M_isSign : (parseMethodDescriptor Y_M_isSign.1.desc).map (fun d => d.parameters.length) = some 1 := by decide +kernel
theorem vk_M_isSign : Jvm.Cond.instanceMethod Y_M_isSign.1 ∈ lw_good ∧ Jvm.Cond.selects Y_M_isSign.1.cls Y_M_isSign.1 Y_M_isSign.1 ∈ lw_good := ⟨mg 1071 (by decide +kernel) (by decide +kernel), mg 39 (by decide +kernel) (by decide +kernel)⟩
def Y_M_rank : YY := (⟨"TreeTonguesModel", "rank", "(I)I"⟩, prog_11_method_6_code, 2, some .int)
theorem yk_M_rank : YK Y_M_rank := ⟨mg 1068 (by decide +kernel) (by decide +kernel), mg 89 (by decide +kernel) (by decide +kernel), ⟨by decide +kernel, by decide +kernel⟩, by decide +kernel, by decide⟩
theorem np_M_rank : (parseMethodDescriptor Y_M_rank.1.desc).map (fun d => d.parameters.length) = some 1 := by decide +kernel
theorem vk_M_rank : Jvm.Cond.instanceMethod Y_M_rank.1 ∈ lw_good ∧ Jvm.Cond.selects Y_M_rank.1.cls Y_M_rank.1 Y_M_rank.1 ∈ lw_good := ⟨mg 1066 (by decide +kernel) (by decide +kernel), mg 1067 (by decide +kernel) (by decide +kernel)⟩
def Y_M_put : YY := (⟨"TreeTonguesModel", "put", "(I)I"⟩, prog_11_method_7_code, 2, some .int)
theorem yk_M_put : YK Y_M_put := ⟨mg 1076 (by decide +kernel) (by decide +kernel), mg 89 (by decide +kernel) (by decide +kernel), ⟨by decide +kernel, by decide +kernel⟩, by decide +kernel, by decide⟩
theorem np_M_put : (parseMethodDescriptor Y_M_put.1.desc).map (fun d => d.parameters.length) = some 1 := by decide +kernel
theorem vk_M_put : Jvm.Cond.instanceMethod Y_M_put.1 ∈ lw_good ∧ Jvm.Cond.selects Y_M_put.1.cls Y_M_put.1 Y_M_put.1 ∈ lw_good := ⟨mg 1074 (by decide +kernel) (by decide +kernel), mg 1075 (by decide +kernel) (by decide +kernel)⟩
def Y_M_drop : YY := (⟨"TreeTonguesModel", "drop", "()I"⟩, prog_11_method_8_code, 2, some .int)
theorem yk_M_drop : YK Y_M_drop := ⟨mg 1080 (by decide +kernel) (by decide +kernel), mg 89 (by decide +kernel) (by decide +kernel), ⟨by decide +kernel, by decide +kernel⟩, by decide +kernel, by decide⟩
theorem np_M_drop : (parseMethodDescriptor Y_M_drop.1.desc).map (fun d => d.parameters.length) = some 0 := by decide +kernel
theorem vk_M_drop : Jvm.Cond.instanceMethod Y_M_drop.1 ∈ lw_good ∧ Jvm.Cond.selects Y_M_drop.1.cls Y_M_drop.1 Y_M_drop.1 ∈ lw_good := ⟨mg 1078 (by decide +kernel) (by decide +kernel), mg 1079 (by decide +kernel) (by decide +kernel)⟩
def Y_M_at : YY := (⟨"TreeTonguesModel", "at", "(I)I"⟩, prog_11_method_9_code, 2, some .int)
theorem yk_M_at : YK Y_M_at := ⟨mg 1084 (by decide +kernel) (by decide +kernel), mg 89 (by decide +kernel) (by decide +kernel), ⟨by decide +kernel, by decide +kernel⟩, by decide +kernel, by decide⟩
theorem np_M_at : (parseMethodDescriptor Y_M_at.1.desc).map (fun d => d.parameters.length) = some 1 := by decide +kernel
theorem vk_M_at : Jvm.Cond.instanceMethod Y_M_at.1 ∈ lw_good ∧ Jvm.Cond.selects Y_M_at.1.cls Y_M_at.1 Y_M_at.1 ∈ lw_good := ⟨mg 1082 (by decide +kernel) (by decide +kernel), mg 1083 (by decide +kernel) (by decide +kernel)⟩
def Y_M_tongue : YY := (⟨"TreeTonguesModel", "tongue", "(I)I"⟩, prog_11_method_10_code, 2, some .int)
theorem yk_M_tongue : YK Y_M_tongue := ⟨mg 1088 (by decide +kernel) (by decide +kernel), mg 89 (by decide +kernel) (by decide +kernel), ⟨by decide +kernel, by decide +kernel⟩, by decide +kernel, by decide⟩
theorem np_M_tongue : (parseMethodDescriptor Y_M_tongue.1.desc).map (fun d => d.parameters.length) = some 1 := by decide +kernel
theorem vk_M_tongue : Jvm.Cond.instanceMethod Y_M_tongue.1 ∈ lw_good ∧ Jvm.Cond.selects Y_M_tongue.1.cls Y_M_tongue.1 Y_M_tongue.1 ∈ lw_good := ⟨mg 1086 (by decide +kernel) (by decide +kernel), mg 1087 (by decide +kernel) (by decide +kernel)⟩
def Y_M_isTongue : YY := (⟨"TreeTonguesModel", "isTongue", "(I)Z"⟩, prog_11_method_4_code, 2, some .boolean)
theorem yk_M_isTongue : YK Y_M_isTongue := ⟨mg 1097 (by decide +kernel) (by decide +kernel), mg 89 (by decide +kernel) (by decide +kernel), ⟨by decide +kernel, by decide +kernel⟩, by decide +kernel, by decide⟩
theorem np_M_isTongue : (parseMethodDescriptor Y_M_isTongue.1.desc).map (fun d => d.parameters.length) = some 1 := by decide +kernel
theorem vk_M_isTongue : Jvm.Cond.instanceMethod Y_M_isTongue.1 ∈ lw_good ∧ Jvm.Cond.selects Y_M_isTongue.1.cls Y_M_isTongue.1 Y_M_isTongue.1 ∈ lw_good := ⟨mg 1096 (by decide +kernel) (by decide +kernel), mg 40 (by decide +kernel) (by decide +kernel)⟩
def Y_M_rule : YY := (⟨"TreeTonguesModel", "rule", "(IIIII)I"⟩, prog_11_method_11_code, 8, some .int)
theorem yk_M_rule : YK Y_M_rule := ⟨mg 1093 (by decide +kernel) (by decide +kernel), mg 89 (by decide +kernel) (by decide +kernel), ⟨by decide +kernel, by decide +kernel⟩, by decide +kernel, by decide⟩
theorem np_M_rule : (parseMethodDescriptor Y_M_rule.1.desc).map (fun d => d.parameters.length) = some 5 := by decide +kernel
theorem vk_M_rule : Jvm.Cond.instanceMethod Y_M_rule.1 ∈ lw_good ∧ Jvm.Cond.selects Y_M_rule.1.cls Y_M_rule.1 Y_M_rule.1 ∈ lw_good := ⟨mg 1091 (by decide +kernel) (by decide +kernel), mg 1092 (by decide +kernel) (by decide +kernel)⟩
def Y_M_last : YY := (⟨"TreeTonguesModel", "last", "(IIZ)I"⟩, prog_11_method_12_code, 5, some .int)
theorem yk_M_last : YK Y_M_last := ⟨mg 1101 (by decide +kernel) (by decide +kernel), mg 89 (by decide +kernel) (by decide +kernel), ⟨by decide +kernel, by decide +kernel⟩, by decide +kernel, by decide⟩
theorem np_M_last : (parseMethodDescriptor Y_M_last.1.desc).map (fun d => d.parameters.length) = some 3 := by decide +kernel
theorem vk_M_last : Jvm.Cond.instanceMethod Y_M_last.1 ∈ lw_good ∧ Jvm.Cond.selects Y_M_last.1.cls Y_M_last.1 Y_M_last.1 ∈ lw_good := ⟨mg 1099 (by decide +kernel) (by decide +kernel), mg 1100 (by decide +kernel) (by decide +kernel)⟩
def Y_M_copy : YY := (⟨"TreeTonguesModel", "copy", "(II)V"⟩, prog_11_method_33_code, 4, none)
theorem yk_M_copy : YK Y_M_copy := ⟨mg 1114 (by decide +kernel) (by decide +kernel), mg 89 (by decide +kernel) (by decide +kernel), ⟨by decide +kernel, by decide +kernel⟩, by decide +kernel, by decide⟩
theorem np_M_copy : (parseMethodDescriptor Y_M_copy.1.desc).map (fun d => d.parameters.length) = some 2 := by decide +kernel
theorem vk_M_copy : Jvm.Cond.instanceMethod Y_M_copy.1 ∈ lw_good ∧ Jvm.Cond.selects Y_M_copy.1.cls Y_M_copy.1 Y_M_copy.1 ∈ lw_good := ⟨mg 1113 (by decide +kernel) (by decide +kernel), mg 42 (by decide +kernel) (by decide +kernel)⟩
def Y_M_byRules : YY := (⟨"TreeTonguesModel", "byRules", "(III)I"⟩, prog_11_method_15_code, 7, some .int)
theorem yk_M_byRules : YK Y_M_byRules := ⟨mg 1134 (by decide +kernel) (by decide +kernel), mg 89 (by decide +kernel) (by decide +kernel), ⟨by decide +kernel, by decide +kernel⟩, by decide +kernel, by decide⟩
theorem np_M_byRules : (parseMethodDescriptor Y_M_byRules.1.desc).map (fun d => d.parameters.length) = some 3 := by decide +kernel
theorem vk_M_byRules : Jvm.Cond.instanceMethod Y_M_byRules.1 ∈ lw_good ∧ Jvm.Cond.selects Y_M_byRules.1.cls Y_M_byRules.1 Y_M_byRules.1 ∈ lw_good := ⟨mg 1133 (by decide +kernel) (by decide +kernel), mg 47 (by decide +kernel) (by decide +kernel)⟩
def Y_M_step : YY := (⟨"TreeTonguesModel", "step", "(IIII)I"⟩, prog_11_method_13_code, 5, some .int)
theorem yk_M_step : YK Y_M_step := ⟨mg 1138 (by decide +kernel) (by decide +kernel), mg 89 (by decide +kernel) (by decide +kernel), ⟨by decide +kernel, by decide +kernel⟩, by decide +kernel, by decide⟩
theorem np_M_step : (parseMethodDescriptor Y_M_step.1.desc).map (fun d => d.parameters.length) = some 4 := by decide +kernel
theorem vk_M_step : Jvm.Cond.instanceMethod Y_M_step.1 ∈ lw_good ∧ Jvm.Cond.selects Y_M_step.1.cls Y_M_step.1 Y_M_step.1 ∈ lw_good := ⟨mg 1137 (by decide +kernel) (by decide +kernel), mg 48 (by decide +kernel) (by decide +kernel)⟩
def Y_M_mapped : YY := (⟨"TreeTonguesModel", "mapped", "(I)I"⟩, prog_11_method_14_code, 2, some .int)
theorem yk_M_mapped : YK Y_M_mapped := ⟨mg 1142 (by decide +kernel) (by decide +kernel), mg 89 (by decide +kernel) (by decide +kernel), ⟨by decide +kernel, by decide +kernel⟩, by decide +kernel, by decide⟩
theorem np_M_mapped : (parseMethodDescriptor Y_M_mapped.1.desc).map (fun d => d.parameters.length) = some 1 := by decide +kernel
theorem vk_M_mapped : Jvm.Cond.instanceMethod Y_M_mapped.1 ∈ lw_good ∧ Jvm.Cond.selects Y_M_mapped.1.cls Y_M_mapped.1 Y_M_mapped.1 ∈ lw_good := ⟨mg 1141 (by decide +kernel) (by decide +kernel), mg 49 (by decide +kernel) (by decide +kernel)⟩
def Y_M_bySets : YY := (⟨"TreeTonguesModel", "bySets", "(III)I"⟩, prog_11_method_16_code, 8, some .int)
theorem yk_M_bySets : YK Y_M_bySets := ⟨mg 1150 (by decide +kernel) (by decide +kernel), mg 89 (by decide +kernel) (by decide +kernel), ⟨by decide +kernel, by decide +kernel⟩, by decide +kernel, by decide⟩
theorem np_M_bySets : (parseMethodDescriptor Y_M_bySets.1.desc).map (fun d => d.parameters.length) = some 3 := by decide +kernel
theorem vk_M_bySets : Jvm.Cond.instanceMethod Y_M_bySets.1 ∈ lw_good ∧ Jvm.Cond.selects Y_M_bySets.1.cls Y_M_bySets.1 Y_M_bySets.1 ∈ lw_good := ⟨mg 1149 (by decide +kernel) (by decide +kernel), mg 51 (by decide +kernel) (by decide +kernel)⟩
def Y_M_renamedStep : YY := (⟨"TreeTonguesModel", "renamedStep", "(III)I"⟩, prog_11_method_17_code, 6, some .int)
theorem yk_M_renamedStep : YK Y_M_renamedStep := ⟨mg 1146 (by decide +kernel) (by decide +kernel), mg 89 (by decide +kernel) (by decide +kernel), ⟨by decide +kernel, by decide +kernel⟩, by decide +kernel, by decide⟩
theorem np_M_renamedStep : (parseMethodDescriptor Y_M_renamedStep.1.desc).map (fun d => d.parameters.length) = some 3 := by decide +kernel
theorem vk_M_renamedStep : Jvm.Cond.instanceMethod Y_M_renamedStep.1 ∈ lw_good ∧ Jvm.Cond.selects Y_M_renamedStep.1.cls Y_M_renamedStep.1 Y_M_renamedStep.1 ∈ lw_good := ⟨mg 1145 (by decide +kernel) (by decide +kernel), mg 50 (by decide +kernel) (by decide +kernel)⟩
def Y_M_withinStep : YY := (⟨"TreeTonguesModel", "withinStep", "(III)I"⟩, prog_11_method_18_code, 6, some .int)
theorem yk_M_withinStep : YK Y_M_withinStep := ⟨mg 1154 (by decide +kernel) (by decide +kernel), mg 89 (by decide +kernel) (by decide +kernel), ⟨by decide +kernel, by decide +kernel⟩, by decide +kernel, by decide⟩
theorem np_M_withinStep : (parseMethodDescriptor Y_M_withinStep.1.desc).map (fun d => d.parameters.length) = some 3 := by decide +kernel
theorem vk_M_withinStep : Jvm.Cond.instanceMethod Y_M_withinStep.1 ∈ lw_good ∧ Jvm.Cond.selects Y_M_withinStep.1.cls Y_M_withinStep.1 Y_M_withinStep.1 ∈ lw_good := ⟨mg 1153 (by decide +kernel) (by decide +kernel), mg 52 (by decide +kernel) (by decide +kernel)⟩
def Y_M_graftedStep : YY := (⟨"TreeTonguesModel", "graftedStep", "(III)I"⟩, prog_11_method_19_code, 6, some .int)
theorem yk_M_graftedStep : YK Y_M_graftedStep := ⟨mg 1158 (by decide +kernel) (by decide +kernel), mg 89 (by decide +kernel) (by decide +kernel), ⟨by decide +kernel, by decide +kernel⟩, by decide +kernel, by decide⟩
theorem np_M_graftedStep : (parseMethodDescriptor Y_M_graftedStep.1.desc).map (fun d => d.parameters.length) = some 3 := by decide +kernel
theorem vk_M_graftedStep : Jvm.Cond.instanceMethod Y_M_graftedStep.1 ∈ lw_good ∧ Jvm.Cond.selects Y_M_graftedStep.1.cls Y_M_graftedStep.1 Y_M_graftedStep.1 ∈ lw_good := ⟨mg 1157 (by decide +kernel) (by decide +kernel), mg 53 (by decide +kernel) (by decide +kernel)⟩
def Y_M_next : YY := (⟨"TreeTonguesModel", "next", "(III)I"⟩, prog_11_method_20_code, 4, some .int)
theorem yk_M_next : YK Y_M_next := ⟨mg 1130 (by decide +kernel) (by decide +kernel), mg 89 (by decide +kernel) (by decide +kernel), ⟨by decide +kernel, by decide +kernel⟩, by decide +kernel, by decide⟩
theorem np_M_next : (parseMethodDescriptor Y_M_next.1.desc).map (fun d => d.parameters.length) = some 3 := by decide +kernel
theorem vk_M_next : Jvm.Cond.instanceMethod Y_M_next.1 ∈ lw_good ∧ Jvm.Cond.selects Y_M_next.1.cls Y_M_next.1 Y_M_next.1 ∈ lw_good := ⟨mg 1129 (by decide +kernel) (by decide +kernel), mg 46 (by decide +kernel) (by decide +kernel)⟩
def Y_M_add : YY := (⟨"TreeTonguesModel", "add", "(III)V"⟩, prog_11_method_24_code, 5, none)
theorem yk_M_add : YK Y_M_add := ⟨mg 1126 (by decide +kernel) (by decide +kernel), mg 89 (by decide +kernel) (by decide +kernel), ⟨by decide +kernel, by decide +kernel⟩, by decide +kernel, by decide⟩
theorem np_M_add : (parseMethodDescriptor Y_M_add.1.desc).map (fun d => d.parameters.length) = some 3 := by decide +kernel
theorem vk_M_add : Jvm.Cond.instanceMethod Y_M_add.1 ∈ lw_good ∧ Jvm.Cond.selects Y_M_add.1.cls Y_M_add.1 Y_M_add.1 ∈ lw_good := ⟨mg 1125 (by decide +kernel) (by decide +kernel), mg 45 (by decide +kernel) (by decide +kernel)⟩
def Y_M_findKeys : YY := (⟨"TreeTonguesModel", "findKeys", "()V"⟩, prog_11_method_25_code, 4, none)
theorem yk_M_findKeys : YK Y_M_findKeys := ⟨mg 1122 (by decide +kernel) (by decide +kernel), mg 89 (by decide +kernel) (by decide +kernel), ⟨by decide +kernel, by decide +kernel⟩, by decide +kernel, by decide⟩
theorem np_M_findKeys : (parseMethodDescriptor Y_M_findKeys.1.desc).map (fun d => d.parameters.length) = some 0 := by decide +kernel
theorem vk_M_findKeys : Jvm.Cond.instanceMethod Y_M_findKeys.1 ∈ lw_good ∧ Jvm.Cond.selects Y_M_findKeys.1.cls Y_M_findKeys.1 Y_M_findKeys.1 ∈ lw_good := ⟨mg 1121 (by decide +kernel) (by decide +kernel), mg 44 (by decide +kernel) (by decide +kernel)⟩
def Y_M_ofTwo : YY := (⟨"TreeTonguesModel", "ofTwo", "(ZZ)Z"⟩, prog_11_method_22_code, 3, some .boolean)
theorem yk_M_ofTwo : YK Y_M_ofTwo := ⟨mg 1171 (by decide +kernel) (by decide +kernel), mg 89 (by decide +kernel) (by decide +kernel), ⟨by decide +kernel, by decide +kernel⟩, by decide +kernel, by decide⟩
theorem np_M_ofTwo : (parseMethodDescriptor Y_M_ofTwo.1.desc).map (fun d => d.parameters.length) = some 2 := by decide +kernel
theorem vk_M_ofTwo : Jvm.Cond.instanceMethod Y_M_ofTwo.1 ∈ lw_good ∧ Jvm.Cond.selects Y_M_ofTwo.1.cls Y_M_ofTwo.1 Y_M_ofTwo.1 ∈ lw_good := ⟨mg 1170 (by decide +kernel) (by decide +kernel), mg 56 (by decide +kernel) (by decide +kernel)⟩
def Y_M_hasLast : YY := (⟨"TreeTonguesModel", "hasLast", "(I)Z"⟩, prog_11_method_21_code, 4, some .boolean)
theorem yk_M_hasLast : YK Y_M_hasLast := ⟨mg 1175 (by decide +kernel) (by decide +kernel), mg 89 (by decide +kernel) (by decide +kernel), ⟨by decide +kernel, by decide +kernel⟩, by decide +kernel, by decide⟩
theorem np_M_hasLast : (parseMethodDescriptor Y_M_hasLast.1.desc).map (fun d => d.parameters.length) = some 1 := by decide +kernel
theorem vk_M_hasLast : Jvm.Cond.instanceMethod Y_M_hasLast.1 ∈ lw_good ∧ Jvm.Cond.selects Y_M_hasLast.1.cls Y_M_hasLast.1 Y_M_hasLast.1 ∈ lw_good := ⟨mg 1174 (by decide +kernel) (by decide +kernel), mg 57 (by decide +kernel) (by decide +kernel)⟩
def Y_M_isFinal : YY := (⟨"TreeTonguesModel", "isFinal", "(I)Z"⟩, prog_11_method_23_code, 2, some .boolean)
theorem yk_M_isFinal : YK Y_M_isFinal := ⟨mg 1167 (by decide +kernel) (by decide +kernel), mg 89 (by decide +kernel) (by decide +kernel), ⟨by decide +kernel, by decide +kernel⟩, by decide +kernel, by decide⟩
theorem np_M_isFinal : (parseMethodDescriptor Y_M_isFinal.1.desc).map (fun d => d.parameters.length) = some 1 := by decide +kernel
theorem vk_M_isFinal : Jvm.Cond.instanceMethod Y_M_isFinal.1 ∈ lw_good ∧ Jvm.Cond.selects Y_M_isFinal.1.cls Y_M_isFinal.1 Y_M_isFinal.1 ∈ lw_good := ⟨mg 1166 (by decide +kernel) (by decide +kernel), mg 55 (by decide +kernel) (by decide +kernel)⟩
def Y_M_partOf : YY := (⟨"TreeTonguesModel", "partOf", "(III)I"⟩, prog_11_method_26_code, 4, some .int)
theorem yk_M_partOf : YK Y_M_partOf := ⟨mg 1183 (by decide +kernel) (by decide +kernel), mg 89 (by decide +kernel) (by decide +kernel), ⟨by decide +kernel, by decide +kernel⟩, by decide +kernel, by decide⟩
theorem np_M_partOf : (parseMethodDescriptor Y_M_partOf.1.desc).map (fun d => d.parameters.length) = some 3 := by decide +kernel
theorem vk_M_partOf : Jvm.Cond.instanceMethod Y_M_partOf.1 ∈ lw_good ∧ Jvm.Cond.selects Y_M_partOf.1.cls Y_M_partOf.1 Y_M_partOf.1 ∈ lw_good := ⟨mg 1182 (by decide +kernel) (by decide +kernel), mg 59 (by decide +kernel) (by decide +kernel)⟩
def Y_M_areLike : YY := (⟨"TreeTonguesModel", "areLike", "(II)Z"⟩, prog_11_method_27_code, 6, some .boolean)
theorem yk_M_areLike : YK Y_M_areLike := ⟨mg 1179 (by decide +kernel) (by decide +kernel), mg 89 (by decide +kernel) (by decide +kernel), ⟨by decide +kernel, by decide +kernel⟩, by decide +kernel, by decide⟩
theorem np_M_areLike : (parseMethodDescriptor Y_M_areLike.1.desc).map (fun d => d.parameters.length) = some 2 := by decide +kernel
theorem vk_M_areLike : Jvm.Cond.instanceMethod Y_M_areLike.1 ∈ lw_good ∧ Jvm.Cond.selects Y_M_areLike.1.cls Y_M_areLike.1 Y_M_areLike.1 ∈ lw_good := ⟨mg 1178 (by decide +kernel) (by decide +kernel), mg 58 (by decide +kernel) (by decide +kernel)⟩
def Y_M_divide : YY := (⟨"TreeTonguesModel", "divide", "(Z)I"⟩, prog_11_method_28_code, 5, some .int)
theorem yk_M_divide : YK Y_M_divide := ⟨mg 1163 (by decide +kernel) (by decide +kernel), mg 89 (by decide +kernel) (by decide +kernel), ⟨by decide +kernel, by decide +kernel⟩, by decide +kernel, by decide⟩
theorem np_M_divide : (parseMethodDescriptor Y_M_divide.1.desc).map (fun d => d.parameters.length) = some 1 := by decide +kernel
theorem vk_M_divide : Jvm.Cond.instanceMethod Y_M_divide.1 ∈ lw_good ∧ Jvm.Cond.selects Y_M_divide.1.cls Y_M_divide.1 Y_M_divide.1 ∈ lw_good := ⟨mg 1162 (by decide +kernel) (by decide +kernel), mg 54 (by decide +kernel) (by decide +kernel)⟩
def Y_M_offer : YY := (⟨"TreeTonguesModel", "offer", "(IIII)V"⟩, prog_11_method_29_code, 8, none)
theorem yk_M_offer : YK Y_M_offer := ⟨mg 1191 (by decide +kernel) (by decide +kernel), mg 89 (by decide +kernel) (by decide +kernel), ⟨by decide +kernel, by decide +kernel⟩, by decide +kernel, by decide⟩
theorem np_M_offer : (parseMethodDescriptor Y_M_offer.1.desc).map (fun d => d.parameters.length) = some 4 := by decide +kernel
theorem vk_M_offer : Jvm.Cond.instanceMethod Y_M_offer.1 ∈ lw_good ∧ Jvm.Cond.selects Y_M_offer.1.cls Y_M_offer.1 Y_M_offer.1 ∈ lw_good := ⟨mg 1190 (by decide +kernel) (by decide +kernel), mg 61 (by decide +kernel) (by decide +kernel)⟩
def Y_M_seek : YY := (⟨"TreeTonguesModel", "seek", "(II)V"⟩, prog_11_method_30_code, 6, none)
theorem yk_M_seek : YK Y_M_seek := ⟨mg 1187 (by decide +kernel) (by decide +kernel), mg 89 (by decide +kernel) (by decide +kernel), ⟨by decide +kernel, by decide +kernel⟩, by decide +kernel, by decide⟩
theorem np_M_seek : (parseMethodDescriptor Y_M_seek.1.desc).map (fun d => d.parameters.length) = some 2 := by decide +kernel
theorem vk_M_seek : Jvm.Cond.instanceMethod Y_M_seek.1 ∈ lw_good ∧ Jvm.Cond.selects Y_M_seek.1.cls Y_M_seek.1 Y_M_seek.1 ∈ lw_good := ⟨mg 1186 (by decide +kernel) (by decide +kernel), mg 60 (by decide +kernel) (by decide +kernel)⟩
def Y_M_layMachine : YY := (⟨"TreeTonguesModel", "layMachine", "(II)V"⟩, prog_11_method_32_code, 8, none)
theorem yk_M_layMachine : YK Y_M_layMachine := ⟨mg 1195 (by decide +kernel) (by decide +kernel), mg 89 (by decide +kernel) (by decide +kernel), ⟨by decide +kernel, by decide +kernel⟩, by decide +kernel, by decide⟩
theorem np_M_layMachine : (parseMethodDescriptor Y_M_layMachine.1.desc).map (fun d => d.parameters.length) = some 2 := by decide +kernel
theorem vk_M_layMachine : Jvm.Cond.instanceMethod Y_M_layMachine.1 ∈ lw_good ∧ Jvm.Cond.selects Y_M_layMachine.1.cls Y_M_layMachine.1 Y_M_layMachine.1 ∈ lw_good := ⟨mg 1194 (by decide +kernel) (by decide +kernel), mg 62 (by decide +kernel) (by decide +kernel)⟩
def Y_M_make : YY := (⟨"TreeTonguesModel", "make", "(I)I"⟩, prog_11_method_31_code, 5, some .int)
theorem yk_M_make : YK Y_M_make := ⟨mg 1118 (by decide +kernel) (by decide +kernel), mg 89 (by decide +kernel) (by decide +kernel), ⟨by decide +kernel, by decide +kernel⟩, by decide +kernel, by decide⟩
theorem np_M_make : (parseMethodDescriptor Y_M_make.1.desc).map (fun d => d.parameters.length) = some 1 := by decide +kernel
theorem vk_M_make : Jvm.Cond.instanceMethod Y_M_make.1 ∈ lw_good ∧ Jvm.Cond.selects Y_M_make.1.cls Y_M_make.1 Y_M_make.1 ∈ lw_good := ⟨mg 1117 (by decide +kernel) (by decide +kernel), mg 43 (by decide +kernel) (by decide +kernel)⟩
def Y_M_load : YY := (⟨"TreeTonguesModel", "load", "(II)I"⟩, prog_11_method_34_code, 3, some .int)
theorem yk_M_load : YK Y_M_load := ⟨mg 1110 (by decide +kernel) (by decide +kernel), mg 89 (by decide +kernel) (by decide +kernel), ⟨by decide +kernel, by decide +kernel⟩, by decide +kernel, by decide⟩
theorem np_M_load : (parseMethodDescriptor Y_M_load.1.desc).map (fun d => d.parameters.length) = some 2 := by decide +kernel
theorem vk_M_load : Jvm.Cond.instanceMethod Y_M_load.1 ∈ lw_good ∧ Jvm.Cond.selects Y_M_load.1.cls Y_M_load.1 Y_M_load.1 ∈ lw_good := ⟨mg 1109 (by decide +kernel) (by decide +kernel), mg 41 (by decide +kernel) (by decide +kernel)⟩
def Y_M_newTongue : YY := (⟨"TreeTonguesModel", "newTongue", "()I"⟩, prog_11_method_35_code, 1, some .int)
theorem yk_M_newTongue : YK Y_M_newTongue := ⟨mg 1199 (by decide +kernel) (by decide +kernel), mg 89 (by decide +kernel) (by decide +kernel), ⟨by decide +kernel, by decide +kernel⟩, by decide +kernel, by decide⟩
theorem np_M_newTongue : (parseMethodDescriptor Y_M_newTongue.1.desc).map (fun d => d.parameters.length) = some 0 := by decide +kernel
theorem vk_M_newTongue : Jvm.Cond.instanceMethod Y_M_newTongue.1 ∈ lw_good ∧ Jvm.Cond.selects Y_M_newTongue.1.cls Y_M_newTongue.1 Y_M_newTongue.1 ∈ lw_good := ⟨mg 1198 (by decide +kernel) (by decide +kernel), mg 63 (by decide +kernel) (by decide +kernel)⟩
def Y_M_of : YY := (⟨"TreeTonguesModel", "of", "(III)I"⟩, prog_11_method_36_code, 4, some .int)
theorem yk_M_of : YK Y_M_of := ⟨mg 1105 (by decide +kernel) (by decide +kernel), mg 89 (by decide +kernel) (by decide +kernel), ⟨by decide +kernel, by decide +kernel⟩, by decide +kernel, by decide⟩
theorem np_M_of : (parseMethodDescriptor Y_M_of.1.desc).map (fun d => d.parameters.length) = some 3 := by decide +kernel
theorem vk_M_of : Jvm.Cond.instanceMethod Y_M_of.1 ∈ lw_good ∧ Jvm.Cond.selects Y_M_of.1.cls Y_M_of.1 Y_M_of.1 ∈ lw_good := ⟨mg 1103 (by decide +kernel) (by decide +kernel), mg 1104 (by decide +kernel) (by decide +kernel)⟩
def Y_M_plain : YY := (⟨"TreeTonguesModel", "plain", "(I)V"⟩, prog_11_method_37_code, 3, none)
theorem yk_M_plain : YK Y_M_plain := ⟨mg 1207 (by decide +kernel) (by decide +kernel), mg 89 (by decide +kernel) (by decide +kernel), ⟨by decide +kernel, by decide +kernel⟩, by decide +kernel, by decide⟩
theorem np_M_plain : (parseMethodDescriptor Y_M_plain.1.desc).map (fun d => d.parameters.length) = some 1 := by decide +kernel
theorem vk_M_plain : Jvm.Cond.instanceMethod Y_M_plain.1 ∈ lw_good ∧ Jvm.Cond.selects Y_M_plain.1.cls Y_M_plain.1 Y_M_plain.1 ∈ lw_good := ⟨mg 1206 (by decide +kernel) (by decide +kernel), mg 64 (by decide +kernel) (by decide +kernel)⟩
def Y_M_not : YY := (⟨"TreeTonguesModel", "not", "(I)I"⟩, prog_11_method_38_code, 2, some .int)
theorem yk_M_not : YK Y_M_not := ⟨mg 1203 (by decide +kernel) (by decide +kernel), mg 89 (by decide +kernel) (by decide +kernel), ⟨by decide +kernel, by decide +kernel⟩, by decide +kernel, by decide⟩
theorem np_M_not : (parseMethodDescriptor Y_M_not.1.desc).map (fun d => d.parameters.length) = some 1 := by decide +kernel
theorem vk_M_not : Jvm.Cond.instanceMethod Y_M_not.1 ∈ lw_good ∧ Jvm.Cond.selects Y_M_not.1.cls Y_M_not.1 Y_M_not.1 ∈ lw_good := ⟨mg 1201 (by decide +kernel) (by decide +kernel), mg 1202 (by decide +kernel) (by decide +kernel)⟩
def Y_M_isMap : YY := (⟨"TreeTonguesModel", "isMap", "(I)Z"⟩, prog_11_method_39_code, 5, some .boolean)
theorem yk_M_isMap : YK Y_M_isMap := ⟨mg 1215 (by decide +kernel) (by decide +kernel), mg 89 (by decide +kernel) (by decide +kernel), ⟨by decide +kernel, by decide +kernel⟩, by decide +kernel, by decide⟩
theorem np_M_isMap : (parseMethodDescriptor Y_M_isMap.1.desc).map (fun d => d.parameters.length) = some 1 := by decide +kernel
theorem vk_M_isMap : Jvm.Cond.instanceMethod Y_M_isMap.1 ∈ lw_good ∧ Jvm.Cond.selects Y_M_isMap.1.cls Y_M_isMap.1 Y_M_isMap.1 ∈ lw_good := ⟨mg 1214 (by decide +kernel) (by decide +kernel), mg 65 (by decide +kernel) (by decide +kernel)⟩
def Y_M_renamed : YY := (⟨"TreeTonguesModel", "renamed", "(II)I"⟩, prog_11_method_40_code, 3, some .int)
theorem yk_M_renamed : YK Y_M_renamed := ⟨mg 1211 (by decide +kernel) (by decide +kernel), mg 89 (by decide +kernel) (by decide +kernel), ⟨by decide +kernel, by decide +kernel⟩, by decide +kernel, by decide⟩
theorem np_M_renamed : (parseMethodDescriptor Y_M_renamed.1.desc).map (fun d => d.parameters.length) = some 2 := by decide +kernel
theorem vk_M_renamed : Jvm.Cond.instanceMethod Y_M_renamed.1 ∈ lw_good ∧ Jvm.Cond.selects Y_M_renamed.1.cls Y_M_renamed.1 Y_M_renamed.1 ∈ lw_good := ⟨mg 1209 (by decide +kernel) (by decide +kernel), mg 1210 (by decide +kernel) (by decide +kernel)⟩
def Y_M_back : YY := (⟨"TreeTonguesModel", "back", "(II)I"⟩, prog_11_method_41_code, 3, some .int)
theorem yk_M_back : YK Y_M_back := ⟨mg 1219 (by decide +kernel) (by decide +kernel), mg 89 (by decide +kernel) (by decide +kernel), ⟨by decide +kernel, by decide +kernel⟩, by decide +kernel, by decide⟩
theorem np_M_back : (parseMethodDescriptor Y_M_back.1.desc).map (fun d => d.parameters.length) = some 2 := by decide +kernel
theorem vk_M_back : Jvm.Cond.instanceMethod Y_M_back.1 ∈ lw_good ∧ Jvm.Cond.selects Y_M_back.1.cls Y_M_back.1 Y_M_back.1 ∈ lw_good := ⟨mg 1217 (by decide +kernel) (by decide +kernel), mg 1218 (by decide +kernel) (by decide +kernel)⟩
def Y_M_usefulOf : YY := (⟨"TreeTonguesModel", "usefulOf", "(I)I"⟩, prog_11_method_42_code, 7, some .int)
theorem yk_M_usefulOf : YK Y_M_usefulOf := ⟨mg 1227 (by decide +kernel) (by decide +kernel), mg 89 (by decide +kernel) (by decide +kernel), ⟨by decide +kernel, by decide +kernel⟩, by decide +kernel, by decide⟩
theorem np_M_usefulOf : (parseMethodDescriptor Y_M_usefulOf.1.desc).map (fun d => d.parameters.length) = some 1 := by decide +kernel
theorem vk_M_usefulOf : Jvm.Cond.instanceMethod Y_M_usefulOf.1 ∈ lw_good ∧ Jvm.Cond.selects Y_M_usefulOf.1.cls Y_M_usefulOf.1 Y_M_usefulOf.1 ∈ lw_good := ⟨mg 1226 (by decide +kernel) (by decide +kernel), mg 66 (by decide +kernel) (by decide +kernel)⟩
def Y_M_parts : YY := (⟨"TreeTonguesModel", "parts", "(I)I"⟩, prog_11_method_43_code, 2, some .int)
theorem yk_M_parts : YK Y_M_parts := ⟨mg 1223 (by decide +kernel) (by decide +kernel), mg 89 (by decide +kernel) (by decide +kernel), ⟨by decide +kernel, by decide +kernel⟩, by decide +kernel, by decide⟩
theorem np_M_parts : (parseMethodDescriptor Y_M_parts.1.desc).map (fun d => d.parameters.length) = some 1 := by decide +kernel
theorem vk_M_parts : Jvm.Cond.instanceMethod Y_M_parts.1 ∈ lw_good ∧ Jvm.Cond.selects Y_M_parts.1.cls Y_M_parts.1 Y_M_parts.1 ∈ lw_good := ⟨mg 1221 (by decide +kernel) (by decide +kernel), mg 1222 (by decide +kernel) (by decide +kernel)⟩
def Y_M_within : YY := (⟨"TreeTonguesModel", "within", "(I)I"⟩, prog_11_method_44_code, 2, some .int)
theorem yk_M_within : YK Y_M_within := ⟨mg 1231 (by decide +kernel) (by decide +kernel), mg 89 (by decide +kernel) (by decide +kernel), ⟨by decide +kernel, by decide +kernel⟩, by decide +kernel, by decide⟩
theorem np_M_within : (parseMethodDescriptor Y_M_within.1.desc).map (fun d => d.parameters.length) = some 1 := by decide +kernel
theorem vk_M_within : Jvm.Cond.instanceMethod Y_M_within.1 ∈ lw_good ∧ Jvm.Cond.selects Y_M_within.1.cls Y_M_within.1 Y_M_within.1 ∈ lw_good := ⟨mg 1229 (by decide +kernel) (by decide +kernel), mg 1230 (by decide +kernel) (by decide +kernel)⟩
def Y_M_grafted : YY := (⟨"TreeTonguesModel", "grafted", "(III)I"⟩, prog_11_method_45_code, 4, some .int)
theorem yk_M_grafted : YK Y_M_grafted := ⟨mg 1235 (by decide +kernel) (by decide +kernel), mg 89 (by decide +kernel) (by decide +kernel), ⟨by decide +kernel, by decide +kernel⟩, by decide +kernel, by decide⟩
theorem np_M_grafted : (parseMethodDescriptor Y_M_grafted.1.desc).map (fun d => d.parameters.length) = some 3 := by decide +kernel
theorem vk_M_grafted : Jvm.Cond.instanceMethod Y_M_grafted.1 ∈ lw_good ∧ Jvm.Cond.selects Y_M_grafted.1.cls Y_M_grafted.1 Y_M_grafted.1 ∈ lw_good := ⟨mg 1233 (by decide +kernel) (by decide +kernel), mg 1234 (by decide +kernel) (by decide +kernel)⟩
def Y_M_undo : YY := (⟨"TreeTonguesModel", "undo", "()I"⟩, prog_11_method_46_code, 1, some .int)
theorem yk_M_undo : YK Y_M_undo := ⟨mg 1239 (by decide +kernel) (by decide +kernel), mg 89 (by decide +kernel) (by decide +kernel), ⟨by decide +kernel, by decide +kernel⟩, by decide +kernel, by decide⟩
theorem np_M_undo : (parseMethodDescriptor Y_M_undo.1.desc).map (fun d => d.parameters.length) = some 0 := by decide +kernel
theorem vk_M_undo : Jvm.Cond.instanceMethod Y_M_undo.1 ∈ lw_good ∧ Jvm.Cond.selects Y_M_undo.1.cls Y_M_undo.1 Y_M_undo.1 ∈ lw_good := ⟨mg 1237 (by decide +kernel) (by decide +kernel), mg 1238 (by decide +kernel) (by decide +kernel)⟩
def Y_M_classes : YY := (⟨"TreeTonguesModel", "classes", "(I)I"⟩, prog_11_method_47_code, 2, some .int)
theorem yk_M_classes : YK Y_M_classes := ⟨mg 1243 (by decide +kernel) (by decide +kernel), mg 89 (by decide +kernel) (by decide +kernel), ⟨by decide +kernel, by decide +kernel⟩, by decide +kernel, by decide⟩
theorem np_M_classes : (parseMethodDescriptor Y_M_classes.1.desc).map (fun d => d.parameters.length) = some 1 := by decide +kernel
theorem vk_M_classes : Jvm.Cond.instanceMethod Y_M_classes.1 ∈ lw_good ∧ Jvm.Cond.selects Y_M_classes.1.cls Y_M_classes.1 Y_M_classes.1 ∈ lw_good := ⟨mg 1241 (by decide +kernel) (by decide +kernel), mg 1242 (by decide +kernel) (by decide +kernel)⟩
def Y_M_go : YY := (⟨"TreeTonguesModel", "go", "(IIII)I"⟩, prog_11_method_48_code, 6, some .int)
theorem yk_M_go : YK Y_M_go := ⟨mg 1247 (by decide +kernel) (by decide +kernel), mg 89 (by decide +kernel) (by decide +kernel), ⟨by decide +kernel, by decide +kernel⟩, by decide +kernel, by decide⟩
theorem np_M_go : (parseMethodDescriptor Y_M_go.1.desc).map (fun d => d.parameters.length) = some 4 := by decide +kernel
theorem vk_M_go : Jvm.Cond.instanceMethod Y_M_go.1 ∈ lw_good ∧ Jvm.Cond.selects Y_M_go.1.cls Y_M_go.1 Y_M_go.1 ∈ lw_good := ⟨mg 1245 (by decide +kernel) (by decide +kernel), mg 1246 (by decide +kernel) (by decide +kernel)⟩
def Y_M_isLast : YY := (⟨"TreeTonguesModel", "isLast", "(II)I"⟩, prog_11_method_49_code, 3, some .int)
theorem yk_M_isLast : YK Y_M_isLast := ⟨mg 1251 (by decide +kernel) (by decide +kernel), mg 89 (by decide +kernel) (by decide +kernel), ⟨by decide +kernel, by decide +kernel⟩, by decide +kernel, by decide⟩
theorem np_M_isLast : (parseMethodDescriptor Y_M_isLast.1.desc).map (fun d => d.parameters.length) = some 2 := by decide +kernel
theorem vk_M_isLast : Jvm.Cond.instanceMethod Y_M_isLast.1 ∈ lw_good ∧ Jvm.Cond.selects Y_M_isLast.1.cls Y_M_isLast.1 Y_M_isLast.1 ∈ lw_good := ⟨mg 1249 (by decide +kernel) (by decide +kernel), mg 1250 (by decide +kernel) (by decide +kernel)⟩
def Y_M_size : YY := (⟨"TreeTonguesModel", "size", "(II)I"⟩, prog_11_method_50_code, 3, some .int)
theorem yk_M_size : YK Y_M_size := ⟨mg 1255 (by decide +kernel) (by decide +kernel), mg 89 (by decide +kernel) (by decide +kernel), ⟨by decide +kernel, by decide +kernel⟩, by decide +kernel, by decide⟩
theorem np_M_size : (parseMethodDescriptor Y_M_size.1.desc).map (fun d => d.parameters.length) = some 2 := by decide +kernel
theorem vk_M_size : Jvm.Cond.instanceMethod Y_M_size.1 ∈ lw_good ∧ Jvm.Cond.selects Y_M_size.1.cls Y_M_size.1 Y_M_size.1 ∈ lw_good := ⟨mg 1253 (by decide +kernel) (by decide +kernel), mg 1254 (by decide +kernel) (by decide +kernel)⟩
def Y_M_isTree : YY := (⟨"TreeTonguesModel", "isTree", "()Z"⟩, prog_11_method_51_code, 6, some .boolean)
theorem yk_M_isTree : YK Y_M_isTree := ⟨mg 1267 (by decide +kernel) (by decide +kernel), mg 89 (by decide +kernel) (by decide +kernel), ⟨by decide +kernel, by decide +kernel⟩, by decide +kernel, by decide⟩
theorem np_M_isTree : (parseMethodDescriptor Y_M_isTree.1.desc).map (fun d => d.parameters.length) = some 0 := by decide +kernel
theorem vk_M_isTree : Jvm.Cond.instanceMethod Y_M_isTree.1 ∈ lw_good ∧ Jvm.Cond.selects Y_M_isTree.1.cls Y_M_isTree.1 Y_M_isTree.1 ∈ lw_good := ⟨mg 1266 (by decide +kernel) (by decide +kernel), mg 68 (by decide +kernel) (by decide +kernel)⟩
def Y_M_classify : YY := (⟨"TreeTonguesModel", "classify", "()V"⟩, prog_11_method_52_code, 6, none)
theorem yk_M_classify : YK Y_M_classify := ⟨mg 1271 (by decide +kernel) (by decide +kernel), mg 89 (by decide +kernel) (by decide +kernel), ⟨by decide +kernel, by decide +kernel⟩, by decide +kernel, by decide⟩
theorem np_M_classify : (parseMethodDescriptor Y_M_classify.1.desc).map (fun d => d.parameters.length) = some 0 := by decide +kernel
theorem vk_M_classify : Jvm.Cond.instanceMethod Y_M_classify.1 ∈ lw_good ∧ Jvm.Cond.selects Y_M_classify.1.cls Y_M_classify.1 Y_M_classify.1 ∈ lw_good := ⟨mg 1270 (by decide +kernel) (by decide +kernel), mg 69 (by decide +kernel) (by decide +kernel)⟩
def Y_M_asked : YY := (⟨"TreeTonguesModel", "asked", "(I)I"⟩, prog_11_method_53_code, 2, some .int)
theorem yk_M_asked : YK Y_M_asked := ⟨mg 1263 (by decide +kernel) (by decide +kernel), mg 89 (by decide +kernel) (by decide +kernel), ⟨by decide +kernel, by decide +kernel⟩, by decide +kernel, by decide⟩
theorem np_M_asked : (parseMethodDescriptor Y_M_asked.1.desc).map (fun d => d.parameters.length) = some 1 := by decide +kernel
theorem vk_M_asked : Jvm.Cond.instanceMethod Y_M_asked.1 ∈ lw_good ∧ Jvm.Cond.selects Y_M_asked.1.cls Y_M_asked.1 Y_M_asked.1 ∈ lw_good := ⟨mg 1262 (by decide +kernel) (by decide +kernel), mg 67 (by decide +kernel) (by decide +kernel)⟩
def Y_M_classOf : YY := (⟨"TreeTonguesModel", "classOf", "(I)I"⟩, prog_11_method_54_code, 3, some .int)
theorem yk_M_classOf : YK Y_M_classOf := ⟨mg 1259 (by decide +kernel) (by decide +kernel), mg 89 (by decide +kernel) (by decide +kernel), ⟨by decide +kernel, by decide +kernel⟩, by decide +kernel, by decide⟩
theorem np_M_classOf : (parseMethodDescriptor Y_M_classOf.1.desc).map (fun d => d.parameters.length) = some 1 := by decide +kernel
theorem vk_M_classOf : Jvm.Cond.instanceMethod Y_M_classOf.1 ∈ lw_good ∧ Jvm.Cond.selects Y_M_classOf.1.cls Y_M_classOf.1 Y_M_classOf.1 ∈ lw_good := ⟨mg 1257 (by decide +kernel) (by decide +kernel), mg 1258 (by decide +kernel) (by decide +kernel)⟩
def Y_M_has : YY := (⟨"TreeTonguesModel", "has", "(I)I"⟩, prog_11_method_55_code, 3, some .int)
theorem yk_M_has : YK Y_M_has := ⟨mg 1275 (by decide +kernel) (by decide +kernel), mg 89 (by decide +kernel) (by decide +kernel), ⟨by decide +kernel, by decide +kernel⟩, by decide +kernel, by decide⟩
theorem np_M_has : (parseMethodDescriptor Y_M_has.1.desc).map (fun d => d.parameters.length) = some 1 := by decide +kernel
theorem vk_M_has : Jvm.Cond.instanceMethod Y_M_has.1 ∈ lw_good ∧ Jvm.Cond.selects Y_M_has.1.cls Y_M_has.1 Y_M_has.1 ∈ lw_good := ⟨mg 1273 (by decide +kernel) (by decide +kernel), mg 1274 (by decide +kernel) (by decide +kernel)⟩
def Y_M_layFirst : YY := (⟨"TreeTonguesModel", "layFirst", "(I)I"⟩, prog_11_method_56_code, 6, some .int)
theorem yk_M_layFirst : YK Y_M_layFirst := ⟨mg 1283 (by decide +kernel) (by decide +kernel), mg 89 (by decide +kernel) (by decide +kernel), ⟨by decide +kernel, by decide +kernel⟩, by decide +kernel, by decide⟩
theorem np_M_layFirst : (parseMethodDescriptor Y_M_layFirst.1.desc).map (fun d => d.parameters.length) = some 1 := by decide +kernel
theorem vk_M_layFirst : Jvm.Cond.instanceMethod Y_M_layFirst.1 ∈ lw_good ∧ Jvm.Cond.selects Y_M_layFirst.1.cls Y_M_layFirst.1 Y_M_layFirst.1 ∈ lw_good := ⟨mg 1282 (by decide +kernel) (by decide +kernel), mg 70 (by decide +kernel) (by decide +kernel)⟩
def Y_M_least : YY := (⟨"TreeTonguesModel", "least", "(I)I"⟩, prog_11_method_57_code, 2, some .int)
theorem yk_M_least : YK Y_M_least := ⟨mg 1279 (by decide +kernel) (by decide +kernel), mg 89 (by decide +kernel) (by decide +kernel), ⟨by decide +kernel, by decide +kernel⟩, by decide +kernel, by decide⟩
theorem np_M_least : (parseMethodDescriptor Y_M_least.1.desc).map (fun d => d.parameters.length) = some 1 := by decide +kernel
theorem vk_M_least : Jvm.Cond.instanceMethod Y_M_least.1 ∈ lw_good ∧ Jvm.Cond.selects Y_M_least.1.cls Y_M_least.1 Y_M_least.1 ∈ lw_good := ⟨mg 1277 (by decide +kernel) (by decide +kernel), mg 1278 (by decide +kernel) (by decide +kernel)⟩
def Y_M_unlike : YY := (⟨"TreeTonguesModel", "unlike", "(II)I"⟩, prog_11_method_58_code, 3, some .int)
theorem yk_M_unlike : YK Y_M_unlike := ⟨mg 1287 (by decide +kernel) (by decide +kernel), mg 89 (by decide +kernel) (by decide +kernel), ⟨by decide +kernel, by decide +kernel⟩, by decide +kernel, by decide⟩
theorem np_M_unlike : (parseMethodDescriptor Y_M_unlike.1.desc).map (fun d => d.parameters.length) = some 2 := by decide +kernel
theorem vk_M_unlike : Jvm.Cond.instanceMethod Y_M_unlike.1 ∈ lw_good ∧ Jvm.Cond.selects Y_M_unlike.1.cls Y_M_unlike.1 Y_M_unlike.1 ∈ lw_good := ⟨mg 1285 (by decide +kernel) (by decide +kernel), mg 1286 (by decide +kernel) (by decide +kernel)⟩
def Y_M_ends : YY := (⟨"TreeTonguesModel", "ends", "(I)I"⟩, prog_11_method_59_code, 9, some .int)
theorem yk_M_ends : YK Y_M_ends := ⟨mg 1291 (by decide +kernel) (by decide +kernel), mg 89 (by decide +kernel) (by decide +kernel), ⟨by decide +kernel, by decide +kernel⟩, by decide +kernel, by decide⟩
theorem np_M_ends : (parseMethodDescriptor Y_M_ends.1.desc).map (fun d => d.parameters.length) = some 1 := by decide +kernel
theorem vk_M_ends : Jvm.Cond.instanceMethod Y_M_ends.1 ∈ lw_good ∧ Jvm.Cond.selects Y_M_ends.1.cls Y_M_ends.1 Y_M_ends.1 ∈ lw_good := ⟨mg 1289 (by decide +kernel) (by decide +kernel), mg 1290 (by decide +kernel) (by decide +kernel)⟩
def Y_M_plus : YY := (⟨"TreeTonguesModel", "plus", "(JJ)J"⟩, prog_11_method_60_code, 4, some .long)
theorem yk_M_plus : YK Y_M_plus := ⟨mg 1304 (by decide +kernel) (by decide +kernel), mg 89 (by decide +kernel) (by decide +kernel), ⟨by decide +kernel, by decide +kernel⟩, by decide +kernel, by decide⟩
theorem np_M_plus : (parseMethodDescriptor Y_M_plus.1.desc).map (fun d => d.parameters.length) = some 2 := by decide +kernel
theorem sk_M_plus : Jvm.Cond.static Y_M_plus.1 ∈ lw_good := mg 1303 (by decide +kernel) (by decide +kernel)
def Y_M_times : YY := (⟨"TreeTonguesModel", "times", "(JJ)J"⟩, prog_11_method_61_code, 4, some .long)
theorem yk_M_times : YK Y_M_times := ⟨mg 1308 (by decide +kernel) (by decide +kernel), mg 89 (by decide +kernel) (by decide +kernel), ⟨by decide +kernel, by decide +kernel⟩, by decide +kernel, by decide⟩
theorem np_M_times : (parseMethodDescriptor Y_M_times.1.desc).map (fun d => d.parameters.length) = some 2 := by decide +kernel
theorem sk_M_times : Jvm.Cond.static Y_M_times.1 ∈ lw_good := mg 1307 (by decide +kernel) (by decide +kernel)
def Y_M_countAll : YY := (⟨"TreeTonguesModel", "countAll", "()V"⟩, prog_11_method_62_code, 8, none)
theorem yk_M_countAll : YK Y_M_countAll := ⟨mg 1301 (by decide +kernel) (by decide +kernel), mg 89 (by decide +kernel) (by decide +kernel), ⟨by decide +kernel, by decide +kernel⟩, by decide +kernel, by decide⟩
theorem np_M_countAll : (parseMethodDescriptor Y_M_countAll.1.desc).map (fun d => d.parameters.length) = some 0 := by decide +kernel
theorem vk_M_countAll : Jvm.Cond.instanceMethod Y_M_countAll.1 ∈ lw_good ∧ Jvm.Cond.selects Y_M_countAll.1.cls Y_M_countAll.1 Y_M_countAll.1 ∈ lw_good := ⟨mg 1300 (by decide +kernel) (by decide +kernel), mg 71 (by decide +kernel) (by decide +kernel)⟩
def Y_M_countIn : YY := (⟨"TreeTonguesModel", "countIn", "(I)J"⟩, prog_11_method_63_code, 5, some .long)
theorem yk_M_countIn : YK Y_M_countIn := ⟨mg 1312 (by decide +kernel) (by decide +kernel), mg 89 (by decide +kernel) (by decide +kernel), ⟨by decide +kernel, by decide +kernel⟩, by decide +kernel, by decide⟩
theorem np_M_countIn : (parseMethodDescriptor Y_M_countIn.1.desc).map (fun d => d.parameters.length) = some 1 := by decide +kernel
theorem vk_M_countIn : Jvm.Cond.instanceMethod Y_M_countIn.1 ∈ lw_good ∧ Jvm.Cond.selects Y_M_countIn.1.cls Y_M_countIn.1 Y_M_countIn.1 ∈ lw_good := ⟨mg 1311 (by decide +kernel) (by decide +kernel), mg 72 (by decide +kernel) (by decide +kernel)⟩
def Y_M_count : YY := (⟨"TreeTonguesModel", "count", "(II)J"⟩, prog_11_method_64_code, 3, some .long)
theorem yk_M_count : YK Y_M_count := ⟨mg 1295 (by decide +kernel) (by decide +kernel), mg 89 (by decide +kernel) (by decide +kernel), ⟨by decide +kernel, by decide +kernel⟩, by decide +kernel, by decide⟩
theorem np_M_count : (parseMethodDescriptor Y_M_count.1.desc).map (fun d => d.parameters.length) = some 2 := by decide +kernel
theorem vk_M_count : Jvm.Cond.instanceMethod Y_M_count.1 ∈ lw_good ∧ Jvm.Cond.selects Y_M_count.1.cls Y_M_count.1 Y_M_count.1 ∈ lw_good := ⟨mg 1293 (by decide +kernel) (by decide +kernel), mg 1294 (by decide +kernel) (by decide +kernel)⟩
def Y_M_layLast : YY := (⟨"TreeTonguesModel", "layLast", "(I)V"⟩, prog_11_method_68_code, 3, none)
theorem yk_M_layLast : YK Y_M_layLast := ⟨mg 1325 (by decide +kernel) (by decide +kernel), mg 89 (by decide +kernel) (by decide +kernel), ⟨by decide +kernel, by decide +kernel⟩, by decide +kernel, by decide⟩
theorem np_M_layLast : (parseMethodDescriptor Y_M_layLast.1.desc).map (fun d => d.parameters.length) = some 1 := by decide +kernel
theorem vk_M_layLast : Jvm.Cond.instanceMethod Y_M_layLast.1 ∈ lw_good ∧ Jvm.Cond.selects Y_M_layLast.1.cls Y_M_layLast.1 Y_M_layLast.1 ∈ lw_good := ⟨mg 1324 (by decide +kernel) (by decide +kernel), mg 74 (by decide +kernel) (by decide +kernel)⟩
def Y_M_behind : YY := (⟨"TreeTonguesModel", "behind", "(IIII)J"⟩, prog_11_method_66_code, 8, some .long)
theorem yk_M_behind : YK Y_M_behind := ⟨mg 1337 (by decide +kernel) (by decide +kernel), mg 89 (by decide +kernel) (by decide +kernel), ⟨by decide +kernel, by decide +kernel⟩, by decide +kernel, by decide⟩
theorem np_M_behind : (parseMethodDescriptor Y_M_behind.1.desc).map (fun d => d.parameters.length) = some 4 := by decide +kernel
theorem vk_M_behind : Jvm.Cond.instanceMethod Y_M_behind.1 ∈ lw_good ∧ Jvm.Cond.selects Y_M_behind.1.cls Y_M_behind.1 Y_M_behind.1 ∈ lw_good := ⟨mg 1336 (by decide +kernel) (by decide +kernel), mg 77 (by decide +kernel) (by decide +kernel)⟩
def Y_M_weigh : YY := (⟨"TreeTonguesModel", "weigh", "(IIII)J"⟩, prog_11_method_65_code, 8, some .long)
theorem yk_M_weigh : YK Y_M_weigh := ⟨mg 1333 (by decide +kernel) (by decide +kernel), mg 89 (by decide +kernel) (by decide +kernel), ⟨by decide +kernel, by decide +kernel⟩, by decide +kernel, by decide⟩
theorem np_M_weigh : (parseMethodDescriptor Y_M_weigh.1.desc).map (fun d => d.parameters.length) = some 4 := by decide +kernel
theorem vk_M_weigh : Jvm.Cond.instanceMethod Y_M_weigh.1 ∈ lw_good ∧ Jvm.Cond.selects Y_M_weigh.1.cls Y_M_weigh.1 Y_M_weigh.1 ∈ lw_good := ⟨mg 1332 (by decide +kernel) (by decide +kernel), mg 76 (by decide +kernel) (by decide +kernel)⟩
def Y_M_choose : YY := (⟨"TreeTonguesModel", "choose", "(I)V"⟩, prog_11_method_69_code, 9, none)
theorem yk_M_choose : YK Y_M_choose := ⟨mg 1329 (by decide +kernel) (by decide +kernel), mg 89 (by decide +kernel) (by decide +kernel), ⟨by decide +kernel, by decide +kernel⟩, by decide +kernel, by decide⟩
theorem np_M_choose : (parseMethodDescriptor Y_M_choose.1.desc).map (fun d => d.parameters.length) = some 1 := by decide +kernel
theorem vk_M_choose : Jvm.Cond.instanceMethod Y_M_choose.1 ∈ lw_good ∧ Jvm.Cond.selects Y_M_choose.1.cls Y_M_choose.1 Y_M_choose.1 ∈ lw_good := ⟨mg 1328 (by decide +kernel) (by decide +kernel), mg 75 (by decide +kernel) (by decide +kernel)⟩
def Y_M_layWeights : YY := (⟨"TreeTonguesModel", "layWeights", "(IIIZII)V"⟩, prog_11_method_67_code, 8, none)
theorem yk_M_layWeights : YK Y_M_layWeights := ⟨mg 1341 (by decide +kernel) (by decide +kernel), mg 89 (by decide +kernel) (by decide +kernel), ⟨by decide +kernel, by decide +kernel⟩, by decide +kernel, by decide⟩
theorem np_M_layWeights : (parseMethodDescriptor Y_M_layWeights.1.desc).map (fun d => d.parameters.length) = some 6 := by decide +kernel
theorem vk_M_layWeights : Jvm.Cond.instanceMethod Y_M_layWeights.1 ∈ lw_good ∧ Jvm.Cond.selects Y_M_layWeights.1.cls Y_M_layWeights.1 Y_M_layWeights.1 ∈ lw_good := ⟨mg 1340 (by decide +kernel) (by decide +kernel), mg 78 (by decide +kernel) (by decide +kernel)⟩
def Y_M_layTree : YY := (⟨"TreeTonguesModel", "layTree", "(IJ)I"⟩, prog_11_method_70_code, 8, some .int)
theorem yk_M_layTree : YK Y_M_layTree := ⟨mg 1321 (by decide +kernel) (by decide +kernel), mg 89 (by decide +kernel) (by decide +kernel), ⟨by decide +kernel, by decide +kernel⟩, by decide +kernel, by decide⟩
theorem np_M_layTree : (parseMethodDescriptor Y_M_layTree.1.desc).map (fun d => d.parameters.length) = some 2 := by decide +kernel
theorem vk_M_layTree : Jvm.Cond.instanceMethod Y_M_layTree.1 ∈ lw_good ∧ Jvm.Cond.selects Y_M_layTree.1.cls Y_M_layTree.1 Y_M_layTree.1 ∈ lw_good := ⟨mg 1320 (by decide +kernel) (by decide +kernel), mg 73 (by decide +kernel) (by decide +kernel)⟩
def Y_M_tree : YY := (⟨"TreeTonguesModel", "tree", "(IJ)I"⟩, prog_11_method_71_code, 9, some .int)
theorem yk_M_tree : YK Y_M_tree := ⟨mg 1316 (by decide +kernel) (by decide +kernel), mg 89 (by decide +kernel) (by decide +kernel), ⟨by decide +kernel, by decide +kernel⟩, by decide +kernel, by decide⟩
theorem np_M_tree : (parseMethodDescriptor Y_M_tree.1.desc).map (fun d => d.parameters.length) = some 2 := by decide +kernel
theorem vk_M_tree : Jvm.Cond.instanceMethod Y_M_tree.1 ∈ lw_good ∧ Jvm.Cond.selects Y_M_tree.1.cls Y_M_tree.1 Y_M_tree.1 ∈ lw_good := ⟨mg 1314 (by decide +kernel) (by decide +kernel), mg 1315 (by decide +kernel) (by decide +kernel)⟩
def Y_M_aheadAt : YY := (⟨"TreeTonguesModel", "aheadAt", "(I)J"⟩, prog_11_method_72_code, 8, some .long)
theorem yk_M_aheadAt : YK Y_M_aheadAt := ⟨mg 1349 (by decide +kernel) (by decide +kernel), mg 89 (by decide +kernel) (by decide +kernel), ⟨by decide +kernel, by decide +kernel⟩, by decide +kernel, by decide⟩
theorem np_M_aheadAt : (parseMethodDescriptor Y_M_aheadAt.1.desc).map (fun d => d.parameters.length) = some 1 := by decide +kernel
theorem vk_M_aheadAt : Jvm.Cond.instanceMethod Y_M_aheadAt.1 ∈ lw_good ∧ Jvm.Cond.selects Y_M_aheadAt.1.cls Y_M_aheadAt.1 Y_M_aheadAt.1 ∈ lw_good := ⟨mg 1348 (by decide +kernel) (by decide +kernel), mg 79 (by decide +kernel) (by decide +kernel)⟩
def Y_M_place : YY := (⟨"TreeTonguesModel", "place", "(I)J"⟩, prog_11_method_73_code, 5, some .long)
theorem yk_M_place : YK Y_M_place := ⟨mg 1345 (by decide +kernel) (by decide +kernel), mg 89 (by decide +kernel) (by decide +kernel), ⟨by decide +kernel, by decide +kernel⟩, by decide +kernel, by decide⟩
theorem np_M_place : (parseMethodDescriptor Y_M_place.1.desc).map (fun d => d.parameters.length) = some 1 := by decide +kernel
theorem vk_M_place : Jvm.Cond.instanceMethod Y_M_place.1 ∈ lw_good ∧ Jvm.Cond.selects Y_M_place.1.cls Y_M_place.1 Y_M_place.1 ∈ lw_good := ⟨mg 1343 (by decide +kernel) (by decide +kernel), mg 1344 (by decide +kernel) (by decide +kernel)⟩
def Y_M_told : YY := (⟨"TreeTonguesModel", "told", "(I)I"⟩, prog_11_method_74_code, 2, some .int)
theorem yk_M_told : YK Y_M_told := ⟨mg 1353 (by decide +kernel) (by decide +kernel), mg 89 (by decide +kernel) (by decide +kernel), ⟨by decide +kernel, by decide +kernel⟩, by decide +kernel, by decide⟩
theorem np_M_told : (parseMethodDescriptor Y_M_told.1.desc).map (fun d => d.parameters.length) = some 1 := by decide +kernel
theorem vk_M_told : Jvm.Cond.instanceMethod Y_M_told.1 ∈ lw_good ∧ Jvm.Cond.selects Y_M_told.1.cls Y_M_told.1 Y_M_told.1 ∈ lw_good := ⟨mg 1351 (by decide +kernel) (by decide +kernel), mg 1352 (by decide +kernel) (by decide +kernel)⟩
theorem ml_T_18 : Jvm.Cond.methodLink "TreeTongues" 18 Y_Row_init.1 ∈ lw_good := mg 126 (by decide +kernel) (by decide +kernel)
theorem ml_T_33 : Jvm.Cond.methodLink "TreeTongues" 33 Y_Net_init.1 ∈ lw_good := mg 156 (by decide +kernel) (by decide +kernel)
theorem ml_T_40 : Jvm.Cond.methodLink "TreeTongues" 40 Y_Reducer_init.1 ∈ lw_good := mg 182 (by decide +kernel) (by decide +kernel)
theorem ml_T_49 : Jvm.Cond.methodLink "TreeTongues" 49 Y_Machine_init.1 ∈ lw_good := mg 254 (by decide +kernel) (by decide +kernel)
theorem ml_T_56 : Jvm.Cond.methodLink "TreeTongues" 56 Y_Census_init.1 ∈ lw_good := mg 316 (by decide +kernel) (by decide +kernel)
theorem ml_T_70 : Jvm.Cond.methodLink "TreeTongues" 70 Y_Signs_add.1 ∈ lw_good := mg 362 (by decide +kernel) (by decide +kernel)
theorem ml_T_74 : Jvm.Cond.methodLink "TreeTongues" 74 Y_Signs_knows.1 ∈ lw_good := mg 370 (by decide +kernel) (by decide +kernel)
theorem ml_T_78 : Jvm.Cond.methodLink "TreeTongues" 78 Y_Signs_rankOf.1 ∈ lw_good := mg 374 (by decide +kernel) (by decide +kernel)
theorem ml_T_84 : Jvm.Cond.methodLink "TreeTongues" 84 Y_Row_add.1 ∈ lw_good := mg 382 (by decide +kernel) (by decide +kernel)
theorem ml_T_91 : Jvm.Cond.methodLink "TreeTongues" 91 Y_T_slot.1 ∈ lw_good := mg 398 (by decide +kernel) (by decide +kernel)
theorem ml_T_95 : Jvm.Cond.methodLink "TreeTongues" 95 Y_Tongue_tell.1 ∈ lw_good := mg 440 (by decide +kernel) (by decide +kernel)
theorem ml_T_98 : Jvm.Cond.methodLink "TreeTongues" 98 Y_T_find.1 ∈ lw_good := mg 451 (by decide +kernel) (by decide +kernel)
theorem ml_T_105 : Jvm.Cond.methodLink "TreeTongues" 105 Y_Tongue_hasState.1 ∈ lw_good := mg 455 (by decide +kernel) (by decide +kernel)
theorem ml_T_111 : Jvm.Cond.methodLink "TreeTongues" 111 Y_Tongue_addRule.1 ∈ lw_good := mg 459 (by decide +kernel) (by decide +kernel)
theorem ml_T_115 : Jvm.Cond.methodLink "TreeTongues" 115 Y_Tongue_setFinal.1 ∈ lw_good := mg 472 (by decide +kernel) (by decide +kernel)
theorem ml_T_122 : Jvm.Cond.methodLink "TreeTongues" 122 Y_T_isLarge.1 ∈ lw_good := mg 482 (by decide +kernel) (by decide +kernel)
theorem ml_T_129 : Jvm.Cond.methodLink "TreeTongues" 129 Y_Net_setBoth.1 ∈ lw_good := mg 614 (by decide +kernel) (by decide +kernel)
theorem ml_T_133 : Jvm.Cond.methodLink "TreeTongues" 133 Y_T_keep.1 ∈ lw_good := mg 626 (by decide +kernel) (by decide +kernel)
theorem ml_T_140 : Jvm.Cond.methodLink "TreeTongues" 140 Y_Net_setOne.1 ∈ lw_good := mg 634 (by decide +kernel) (by decide +kernel)
theorem ml_T_144 : Jvm.Cond.methodLink "TreeTongues" 144 Y_Signs_isMap.1 ∈ lw_good := mg 642 (by decide +kernel) (by decide +kernel)
theorem ml_T_147 : Jvm.Cond.methodLink "TreeTongues" 147 Y_Net_setRenamed.1 ∈ lw_good := mg 651 (by decide +kernel) (by decide +kernel)
theorem ml_T_151 : Jvm.Cond.methodLink "TreeTongues" 151 Y_Net_setBack.1 ∈ lw_good := mg 660 (by decide +kernel) (by decide +kernel)
theorem ml_T_154 : Jvm.Cond.methodLink "TreeTongues" 154 Y_Machine_living.1 ∈ lw_good := mg 668 (by decide +kernel) (by decide +kernel)
theorem ml_T_157 : Jvm.Cond.methodLink "TreeTongues" 157 Y_Net_setWithin.1 ∈ lw_good := mg 681 (by decide +kernel) (by decide +kernel)
theorem ml_T_161 : Jvm.Cond.methodLink "TreeTongues" 161 Y_Net_setGrafted.1 ∈ lw_good := mg 694 (by decide +kernel) (by decide +kernel)
theorem ml_T_168 : Jvm.Cond.methodLink "TreeTongues" 168 Y_Machine_hasClass.1 ∈ lw_good := mg 710 (by decide +kernel) (by decide +kernel)
theorem ml_T_171 : Jvm.Cond.methodLink "TreeTongues" 171 Y_Machine_step.1 ∈ lw_good := mg 714 (by decide +kernel) (by decide +kernel)
theorem ml_T_175 : Jvm.Cond.methodLink "TreeTongues" 175 Y_Machine_finalBit.1 ∈ lw_good := mg 719 (by decide +kernel) (by decide +kernel)
theorem ml_T_181 : Jvm.Cond.methodLink "TreeTongues" 181 Y_Row_isTree.1 ∈ lw_good := mg 728 (by decide +kernel) (by decide +kernel)
theorem ml_T_185 : Jvm.Cond.methodLink "TreeTongues" 185 Y_Row_readBy.1 ∈ lw_good := mg 737 (by decide +kernel) (by decide +kernel)
theorem ml_T_189 : Jvm.Cond.methodLink "TreeTongues" 189 Y_T_writeLeast.1 ∈ lw_good := mg 754 (by decide +kernel) (by decide +kernel)
theorem ml_T_192 : Jvm.Cond.methodLink "TreeTongues" 192 Y_Reducer_reduceTo.1 ∈ lw_good := mg 508 (by decide +kernel) (by decide +kernel)
theorem ml_T_197 : Jvm.Cond.methodLink "TreeTongues" 197 Y_Machine_isEndless.1 ∈ lw_good := mg 776 (by decide +kernel) (by decide +kernel)
theorem ml_T_202 : Jvm.Cond.methodLink "TreeTongues" 202 Y_Census_treesOf.1 ∈ lw_good := mg 786 (by decide +kernel) (by decide +kernel)
theorem ml_T_208 : Jvm.Cond.methodLink "TreeTongues" 208 Y_Census_writeNumber.1 ∈ lw_good := mg 831 (by decide +kernel) (by decide +kernel)
theorem ml_T_212 : Jvm.Cond.methodLink "TreeTongues" 212 Y_Census_aheadOfRow.1 ∈ lw_good := mg 873 (by decide +kernel) (by decide +kernel)
theorem ml_T_216 : Jvm.Cond.methodLink "TreeTongues" 216 Y_Tongue_init.1 ∈ lw_good := mg 403 (by decide +kernel) (by decide +kernel)
theorem ml_T_220 : Jvm.Cond.methodLink "TreeTongues" 220 Y_Net_setTold.1 ∈ lw_good := mg 486 (by decide +kernel) (by decide +kernel)
theorem ml_T_224 : Jvm.Cond.methodLink "TreeTongues" 224 Y_Row_becomeFirstTree.1 ∈ lw_good := mg 758 (by decide +kernel) (by decide +kernel)
theorem ml_Census_27 : Jvm.Cond.methodLink "TreeTongues$Census" 27 Y_Census_countAll.1 ∈ lw_good := mg 790 (by decide +kernel) (by decide +kernel)
theorem ml_Census_37 : Jvm.Cond.methodLink "TreeTongues$Census" 37 Y_Machine_finalBit.1 ∈ lw_good := mg 825 (by decide +kernel) (by decide +kernel)
theorem ml_Census_44 : Jvm.Cond.methodLink "TreeTongues$Census" 44 Y_Census_plus.1 ∈ lw_good := mg 807 (by decide +kernel) (by decide +kernel)
theorem ml_Census_48 : Jvm.Cond.methodLink "TreeTongues$Census" 48 Y_Census_treesOf.1 ∈ lw_good := mg 835 (by decide +kernel) (by decide +kernel)
theorem ml_Census_52 : Jvm.Cond.methodLink "TreeTongues$Census" 52 Y_Census_weighFinals.1 ∈ lw_good := mg 836 (by decide +kernel) (by decide +kernel)
theorem ml_Census_60 : Jvm.Cond.methodLink "TreeTongues$Census" 60 Y_Census_write.1 ∈ lw_good := mg 840 (by decide +kernel) (by decide +kernel)
theorem ml_Census_64 : Jvm.Cond.methodLink "TreeTongues$Census" 64 Y_Row_readBy.1 ∈ lw_good := mg 877 (by decide +kernel) (by decide +kernel)
theorem ml_Census_68 : Jvm.Cond.methodLink "TreeTongues$Census" 68 Y_Census_ahead.1 ∈ lw_good := mg 878 (by decide +kernel) (by decide +kernel)
theorem ml_Census_76 : Jvm.Cond.methodLink "TreeTongues$Census" 76 Y_Arr_fill_JJV.1 ∈ lw_good := mg 794 (by decide +kernel) (by decide +kernel)
theorem ml_Census_82 : Jvm.Cond.methodLink "TreeTongues$Census" 82 Y_Census_countSimple.1 ∈ lw_good := mg 797 (by decide +kernel) (by decide +kernel)
theorem ml_Census_91 : Jvm.Cond.methodLink "TreeTongues$Census" 91 Y_Census_countPairs.1 ∈ lw_good := mg 814 (by decide +kernel) (by decide +kernel)
theorem ml_Census_97 : Jvm.Cond.methodLink "TreeTongues$Census" 97 Y_Signs_rankOf.1 ∈ lw_good := mg 801 (by decide +kernel) (by decide +kernel)
theorem ml_Census_100 : Jvm.Cond.methodLink "TreeTongues$Census" 100 Y_Machine_step.1 ∈ lw_good := mg 802 (by decide +kernel) (by decide +kernel)
theorem ml_Census_104 : Jvm.Cond.methodLink "TreeTongues$Census" 104 Y_Census_add.1 ∈ lw_good := mg 803 (by decide +kernel) (by decide +kernel)
theorem ml_Census_108 : Jvm.Cond.methodLink "TreeTongues$Census" 108 Y_Census_pairsOf.1 ∈ lw_good := mg 818 (by decide +kernel) (by decide +kernel)
theorem ml_Census_112 : Jvm.Cond.methodLink "TreeTongues$Census" 112 Y_Census_times.1 ∈ lw_good := mg 822 (by decide +kernel) (by decide +kernel)
theorem ml_Census_115 : Jvm.Cond.methodLink "TreeTongues$Census" 115 Y_Census_leastFirst.1 ∈ lw_good := mg 844 (by decide +kernel) (by decide +kernel)
theorem ml_Census_119 : Jvm.Cond.methodLink "TreeTongues$Census" 119 Y_Census_seconds.1 ∈ lw_good := mg 856 (by decide +kernel) (by decide +kernel)
theorem ml_Census_123 : Jvm.Cond.methodLink "TreeTongues$Census" 123 Y_Census_mostFirst.1 ∈ lw_good := mg 848 (by decide +kernel) (by decide +kernel)
theorem ml_Census_126 : Jvm.Cond.methodLink "TreeTongues$Census" 126 Y_Census_share.1 ∈ lw_good := mg 852 (by decide +kernel) (by decide +kernel)
theorem ml_Census_129 : Jvm.Cond.methodLink "TreeTongues$Census" 129 Y_Row_add.1 ∈ lw_good := mg 860 (by decide +kernel) (by decide +kernel)
theorem ml_Census_132 : Jvm.Cond.methodLink "TreeTongues$Census" 132 Y_Census_writeParts.1 ∈ lw_good := mg 861 (by decide +kernel) (by decide +kernel)
theorem ml_Census_136 : Jvm.Cond.methodLink "TreeTongues$Census" 136 Y_Census_weighSeconds.1 ∈ lw_good := mg 865 (by decide +kernel) (by decide +kernel)
theorem ml_Machine_58 : Jvm.Cond.methodLink "TreeTongues$Machine" 58 Y_Signs_cell.1 ∈ lw_good := mg 600 (by decide +kernel) (by decide +kernel)
theorem ml_Machine_64 : Jvm.Cond.methodLink "TreeTongues$Machine" 64 Y_Machine_becomeLarge.1 ∈ lw_good := mg 586 (by decide +kernel) (by decide +kernel)
theorem ml_Machine_67 : Jvm.Cond.methodLink "TreeTongues$Machine" 67 Y_Arr_fill_IIV.1 ∈ lw_good := mg 590 (by decide +kernel) (by decide +kernel)
theorem ml_Machine_73 : Jvm.Cond.methodLink "TreeTongues$Machine" 73 Y_Machine_findFirst.1 ∈ lw_good := mg 591 (by decide +kernel) (by decide +kernel)
theorem ml_Machine_77 : Jvm.Cond.methodLink "TreeTongues$Machine" 77 Y_Machine_fillTable.1 ∈ lw_good := mg 609 (by decide +kernel) (by decide +kernel)
theorem ml_Machine_84 : Jvm.Cond.methodLink "TreeTongues$Machine" 84 Y_Signs_choices.1 ∈ lw_good := mg 595 (by decide +kernel) (by decide +kernel)
theorem ml_Machine_88 : Jvm.Cond.methodLink "TreeTongues$Machine" 88 Y_Machine_kindWith.1 ∈ lw_good := mg 596 (by decide +kernel) (by decide +kernel)
theorem ml_Machine_92 : Jvm.Cond.methodLink "TreeTongues$Machine" 92 Y_Machine_sizeWith.1 ∈ lw_good := mg 604 (by decide +kernel) (by decide +kernel)
theorem ml_Machine_101 : Jvm.Cond.methodLink "TreeTongues$Machine" 101 Y_Signs_rankOf.1 ∈ lw_good := mg 608 (by decide +kernel) (by decide +kernel)
theorem ml_Machine_105 : Jvm.Cond.methodLink "TreeTongues$Machine" 105 Y_Machine_listAbove.1 ∈ lw_good := mg 672 (by decide +kernel) (by decide +kernel)
theorem ml_Machine_108 : Jvm.Cond.methodLink "TreeTongues$Machine" 108 Y_Machine_living.1 ∈ lw_good := mg 780 (by decide +kernel) (by decide +kernel)
theorem ml_Machine_112 : Jvm.Cond.methodLink "TreeTongues$Machine" 112 Y_Machine_step.1 ∈ lw_good := mg 676 (by decide +kernel) (by decide +kernel)
theorem ml_Net_32 : Jvm.Cond.methodLink "TreeTongues$Net" 32 Y_Signs_cell.1 ∈ lw_good := mg 507 (by decide +kernel) (by decide +kernel)
theorem ml_Net_38 : Jvm.Cond.methodLink "TreeTongues$Net" 38 Y_Arr_fill_IIV.1 ∈ lw_good := mg 494 (by decide +kernel) (by decide +kernel)
theorem ml_Net_49 : Jvm.Cond.methodLink "TreeTongues$Net" 49 Y_Signs_choices.1 ∈ lw_good := mg 495 (by decide +kernel) (by decide +kernel)
theorem ml_Net_53 : Jvm.Cond.methodLink "TreeTongues$Net" 53 Y_Machine_step.1 ∈ lw_good := mg 622 (by decide +kernel) (by decide +kernel)
theorem ml_Net_56 : Jvm.Cond.methodLink "TreeTongues$Net" 56 Y_Net_lead.1 ∈ lw_good := mg 503 (by decide +kernel) (by decide +kernel)
theorem ml_Net_66 : Jvm.Cond.methodLink "TreeTongues$Net" 66 Y_Net_begin.1 ∈ lw_good := mg 490 (by decide +kernel) (by decide +kernel)
theorem ml_Net_73 : Jvm.Cond.methodLink "TreeTongues$Net" 73 Y_Tongue_targetsOf.1 ∈ lw_good := mg 499 (by decide +kernel) (by decide +kernel)
theorem ml_Net_76 : Jvm.Cond.methodLink "TreeTongues$Net" 76 Y_Net_enter.1 ∈ lw_good := mg 618 (by decide +kernel) (by decide +kernel)
theorem ml_Net_81 : Jvm.Cond.methodLink "TreeTongues$Net" 81 Y_Signs_mapped.1 ∈ lw_good := mg 655 (by decide +kernel) (by decide +kernel)
theorem ml_Net_85 : Jvm.Cond.methodLink "TreeTongues$Net" 85 Y_Signs_rankOf.1 ∈ lw_good := mg 685 (by decide +kernel) (by decide +kernel)
theorem ml_Net_89 : Jvm.Cond.methodLink "TreeTongues$Net" 89 Y_Machine_finalBit.1 ∈ lw_good := mg 686 (by decide +kernel) (by decide +kernel)
theorem ml_Reducer_72 : Jvm.Cond.methodLink "TreeTongues$Reducer" 72 Y_Reducer_begin.1 ∈ lw_good := mg 512 (by decide +kernel) (by decide +kernel)
theorem ml_Reducer_75 : Jvm.Cond.methodLink "TreeTongues$Reducer" 75 Y_Arr_fill_IIV.1 ∈ lw_good := mg 516 (by decide +kernel) (by decide +kernel)
theorem ml_Reducer_81 : Jvm.Cond.methodLink "TreeTongues$Reducer" 81 Y_Reducer_sortKinds.1 ∈ lw_good := mg 517 (by decide +kernel) (by decide +kernel)
theorem ml_Reducer_85 : Jvm.Cond.methodLink "TreeTongues$Reducer" 85 Y_Reducer_reachLeaves.1 ∈ lw_good := mg 537 (by decide +kernel) (by decide +kernel)
theorem ml_Reducer_88 : Jvm.Cond.methodLink "TreeTongues$Reducer" 88 Y_Reducer_reachAll.1 ∈ lw_good := mg 551 (by decide +kernel) (by decide +kernel)
theorem ml_Reducer_91 : Jvm.Cond.methodLink "TreeTongues$Reducer" 91 Y_Reducer_finalKinds.1 ∈ lw_good := mg 578 (by decide +kernel) (by decide +kernel)
theorem ml_Reducer_95 : Jvm.Cond.methodLink "TreeTongues$Reducer" 95 Y_Machine_take.1 ∈ lw_good := mg 582 (by decide +kernel) (by decide +kernel)
theorem ml_Reducer_101 : Jvm.Cond.methodLink "TreeTongues$Reducer" 101 Y_Machine_becomeLarge.1 ∈ lw_good := mg 613 (by decide +kernel) (by decide +kernel)
theorem ml_Reducer_104 : Jvm.Cond.methodLink "TreeTongues$Reducer" 104 Y_Reducer_marksOf.1 ∈ lw_good := mg 521 (by decide +kernel) (by decide +kernel)
theorem ml_Reducer_108 : Jvm.Cond.methodLink "TreeTongues$Reducer" 108 Y_Reducer_kindWith.1 ∈ lw_good := mg 533 (by decide +kernel) (by decide +kernel)
theorem ml_Reducer_112 : Jvm.Cond.methodLink "TreeTongues$Reducer" 112 Y_Step_from.1 ∈ lw_good := mg 525 (by decide +kernel) (by decide +kernel)
theorem ml_Reducer_115 : Jvm.Cond.methodLink "TreeTongues$Reducer" 115 Y_Net_accepts.1 ∈ lw_good := mg 529 (by decide +kernel) (by decide +kernel)
theorem ml_Reducer_126 : Jvm.Cond.methodLink "TreeTongues$Reducer" 126 Y_Signs_rankOf.1 ∈ lw_good := mg 541 (by decide +kernel) (by decide +kernel)
theorem ml_Reducer_129 : Jvm.Cond.methodLink "TreeTongues$Reducer" 129 Y_Net_leafImage.1 ∈ lw_good := mg 542 (by decide +kernel) (by decide +kernel)
theorem ml_Reducer_132 : Jvm.Cond.methodLink "TreeTongues$Reducer" 132 Y_Reducer_reach.1 ∈ lw_good := mg 546 (by decide +kernel) (by decide +kernel)
theorem ml_Reducer_135 : Jvm.Cond.methodLink "TreeTongues$Reducer" 135 Y_Signs_cell.1 ∈ lw_good := mg 550 (by decide +kernel) (by decide +kernel)
theorem ml_Reducer_139 : Jvm.Cond.methodLink "TreeTongues$Reducer" 139 Y_Net_imageAlone.1 ∈ lw_good := mg 555 (by decide +kernel) (by decide +kernel)
theorem ml_Reducer_142 : Jvm.Cond.methodLink "TreeTongues$Reducer" 142 Y_Reducer_agrees.1 ∈ lw_good := mg 559 (by decide +kernel) (by decide +kernel)
theorem ml_Reducer_146 : Jvm.Cond.methodLink "TreeTongues$Reducer" 146 Y_Step_load.1 ∈ lw_good := mg 570 (by decide +kernel) (by decide +kernel)
theorem ml_Reducer_150 : Jvm.Cond.methodLink "TreeTongues$Reducer" 150 Y_Reducer_addProbe.1 ∈ lw_good := mg 563 (by decide +kernel) (by decide +kernel)
theorem ml_Reducer_154 : Jvm.Cond.methodLink "TreeTongues$Reducer" 154 Y_Reducer_lowestBit.1 ∈ lw_good := mg 567 (by decide +kernel) (by decide +kernel)
theorem ml_Row_29 : Jvm.Cond.methodLink "TreeTongues$Row" 29 Y_Row_spanFrom.1 ∈ lw_good := mg 732 (by decide +kernel) (by decide +kernel)
theorem ml_Row_33 : Jvm.Cond.methodLink "TreeTongues$Row" 33 Y_Signs_rankOf.1 ∈ lw_good := mg 736 (by decide +kernel) (by decide +kernel)
theorem ml_Row_38 : Jvm.Cond.methodLink "TreeTongues$Row" 38 Y_Row_secondPart.1 ∈ lw_good := mg 741 (by decide +kernel) (by decide +kernel)
theorem ml_Row_41 : Jvm.Cond.methodLink "TreeTongues$Row" 41 Y_Machine_step.1 ∈ lw_good := mg 745 (by decide +kernel) (by decide +kernel)
theorem ml_Row_47 : Jvm.Cond.methodLink "TreeTongues$Row" 47 Y_Row_addFirstTree.1 ∈ lw_good := mg 762 (by decide +kernel) (by decide +kernel)
theorem ml_Row_51 : Jvm.Cond.methodLink "TreeTongues$Row" 51 Y_Machine_hasClass.1 ∈ lw_good := mg 766 (by decide +kernel) (by decide +kernel)
theorem ml_Row_58 : Jvm.Cond.methodLink "TreeTongues$Row" 58 Y_Row_add.1 ∈ lw_good := mg 767 (by decide +kernel) (by decide +kernel)
theorem ml_Signs_23 : Jvm.Cond.methodLink "TreeTongues$Signs" 23 Y_Signs_rankOf.1 ∈ lw_good := mg 467 (by decide +kernel) (by decide +kernel)
theorem ml_Signs_27 : Jvm.Cond.methodLink "TreeTongues$Signs" 27 Y_Signs_mapped.1 ∈ lw_good := mg 646 (by decide +kernel) (by decide +kernel)
theorem ml_Signs_31 : Jvm.Cond.methodLink "TreeTongues$Signs" 31 Y_Signs_knows.1 ∈ lw_good := mg 650 (by decide +kernel) (by decide +kernel)
theorem ml_Step_24 : Jvm.Cond.methodLink "TreeTongues$Step" 24 Y_Net_image.1 ∈ lw_good := mg 574 (by decide +kernel) (by decide +kernel)
theorem ml_Tongue_38 : Jvm.Cond.methodLink "TreeTongues$Tongue" 38 Y_Machine_init.1 ∈ lw_good := mg 408 (by decide +kernel) (by decide +kernel)
theorem ml_Tongue_45 : Jvm.Cond.methodLink "TreeTongues$Tongue" 45 Y_Arr_fill_IIV.1 ∈ lw_good := mg 444 (by decide +kernel) (by decide +kernel)
theorem ml_Tongue_51 : Jvm.Cond.methodLink "TreeTongues$Tongue" 51 Y_Signs_cell.1 ∈ lw_good := mg 463 (by decide +kernel) (by decide +kernel)
theorem ml_law_9 : Jvm.Cond.methodLink "TreeTonguesLaw" 9 Y_T_init.1 ∈ lw_good := mg 95 (by decide +kernel) (by decide +kernel)
theorem ml_law_12 : Jvm.Cond.methodLink "TreeTonguesLaw" 12 Y_M_init.1 ∈ lw_good := mg 888 (by decide +kernel) (by decide +kernel)
theorem ml_law_13 : Jvm.Cond.methodLink "TreeTonguesLaw" 13 Y_T_sign.1 ∈ lw_good := mg 358 (by decide +kernel) (by decide +kernel)
theorem ml_law_17 : Jvm.Cond.methodLink "TreeTonguesLaw" 17 Y_M_sign.1 ∈ lw_good := mg 1057 (by decide +kernel) (by decide +kernel)
theorem ml_law_18 : Jvm.Cond.methodLink "TreeTonguesLaw" 18 Y_T_rank.1 ∈ lw_good := mg 366 (by decide +kernel) (by decide +kernel)
theorem ml_law_21 : Jvm.Cond.methodLink "TreeTonguesLaw" 21 Y_M_rank.1 ∈ lw_good := mg 1065 (by decide +kernel) (by decide +kernel)
theorem ml_law_22 : Jvm.Cond.methodLink "TreeTonguesLaw" 22 Y_T_put.1 ∈ lw_good := mg 378 (by decide +kernel) (by decide +kernel)
theorem ml_law_25 : Jvm.Cond.methodLink "TreeTonguesLaw" 25 Y_M_put.1 ∈ lw_good := mg 1073 (by decide +kernel) (by decide +kernel)
theorem ml_law_26 : Jvm.Cond.methodLink "TreeTonguesLaw" 26 Y_T_drop.1 ∈ lw_good := mg 386 (by decide +kernel) (by decide +kernel)
theorem ml_law_30 : Jvm.Cond.methodLink "TreeTonguesLaw" 30 Y_M_drop.1 ∈ lw_good := mg 1077 (by decide +kernel) (by decide +kernel)
theorem ml_law_31 : Jvm.Cond.methodLink "TreeTonguesLaw" 31 Y_T_at.1 ∈ lw_good := mg 390 (by decide +kernel) (by decide +kernel)
theorem ml_law_34 : Jvm.Cond.methodLink "TreeTonguesLaw" 34 Y_M_at.1 ∈ lw_good := mg 1081 (by decide +kernel) (by decide +kernel)
theorem ml_law_35 : Jvm.Cond.methodLink "TreeTonguesLaw" 35 Y_T_tongue.1 ∈ lw_good := mg 394 (by decide +kernel) (by decide +kernel)
theorem ml_law_38 : Jvm.Cond.methodLink "TreeTonguesLaw" 38 Y_M_tongue.1 ∈ lw_good := mg 1085 (by decide +kernel) (by decide +kernel)
theorem ml_law_39 : Jvm.Cond.methodLink "TreeTonguesLaw" 39 Y_T_rule.1 ∈ lw_good := mg 447 (by decide +kernel) (by decide +kernel)
theorem ml_law_43 : Jvm.Cond.methodLink "TreeTonguesLaw" 43 Y_M_rule.1 ∈ lw_good := mg 1090 (by decide +kernel) (by decide +kernel)
theorem ml_law_44 : Jvm.Cond.methodLink "TreeTonguesLaw" 44 Y_T_last.1 ∈ lw_good := mg 468 (by decide +kernel) (by decide +kernel)
theorem ml_law_48 : Jvm.Cond.methodLink "TreeTonguesLaw" 48 Y_M_last.1 ∈ lw_good := mg 1098 (by decide +kernel) (by decide +kernel)
theorem ml_law_49 : Jvm.Cond.methodLink "TreeTonguesLaw" 49 Y_T_of.1 ∈ lw_good := mg 476 (by decide +kernel) (by decide +kernel)
theorem ml_law_53 : Jvm.Cond.methodLink "TreeTonguesLaw" 53 Y_M_of.1 ∈ lw_good := mg 1102 (by decide +kernel) (by decide +kernel)
theorem ml_law_54 : Jvm.Cond.methodLink "TreeTonguesLaw" 54 Y_T_not.1 ∈ lw_good := mg 630 (by decide +kernel) (by decide +kernel)
theorem ml_law_57 : Jvm.Cond.methodLink "TreeTonguesLaw" 57 Y_M_not.1 ∈ lw_good := mg 1200 (by decide +kernel) (by decide +kernel)
theorem ml_law_58 : Jvm.Cond.methodLink "TreeTonguesLaw" 58 Y_T_renamed.1 ∈ lw_good := mg 638 (by decide +kernel) (by decide +kernel)
theorem ml_law_62 : Jvm.Cond.methodLink "TreeTonguesLaw" 62 Y_M_renamed.1 ∈ lw_good := mg 1208 (by decide +kernel) (by decide +kernel)
theorem ml_law_63 : Jvm.Cond.methodLink "TreeTonguesLaw" 63 Y_T_back.1 ∈ lw_good := mg 656 (by decide +kernel) (by decide +kernel)
theorem ml_law_66 : Jvm.Cond.methodLink "TreeTonguesLaw" 66 Y_M_back.1 ∈ lw_good := mg 1216 (by decide +kernel) (by decide +kernel)
theorem ml_law_67 : Jvm.Cond.methodLink "TreeTonguesLaw" 67 Y_T_parts.1 ∈ lw_good := mg 664 (by decide +kernel) (by decide +kernel)
theorem ml_law_70 : Jvm.Cond.methodLink "TreeTonguesLaw" 70 Y_M_parts.1 ∈ lw_good := mg 1220 (by decide +kernel) (by decide +kernel)
theorem ml_law_71 : Jvm.Cond.methodLink "TreeTonguesLaw" 71 Y_T_within.1 ∈ lw_good := mg 677 (by decide +kernel) (by decide +kernel)
theorem ml_law_74 : Jvm.Cond.methodLink "TreeTonguesLaw" 74 Y_M_within.1 ∈ lw_good := mg 1228 (by decide +kernel) (by decide +kernel)
theorem ml_law_75 : Jvm.Cond.methodLink "TreeTonguesLaw" 75 Y_T_grafted.1 ∈ lw_good := mg 690 (by decide +kernel) (by decide +kernel)
theorem ml_law_78 : Jvm.Cond.methodLink "TreeTonguesLaw" 78 Y_M_grafted.1 ∈ lw_good := mg 1232 (by decide +kernel) (by decide +kernel)
theorem ml_law_79 : Jvm.Cond.methodLink "TreeTonguesLaw" 79 Y_T_undo.1 ∈ lw_good := mg 698 (by decide +kernel) (by decide +kernel)
theorem ml_law_82 : Jvm.Cond.methodLink "TreeTonguesLaw" 82 Y_M_undo.1 ∈ lw_good := mg 1236 (by decide +kernel) (by decide +kernel)
theorem ml_law_83 : Jvm.Cond.methodLink "TreeTonguesLaw" 83 Y_T_classes.1 ∈ lw_good := mg 702 (by decide +kernel) (by decide +kernel)
theorem ml_law_86 : Jvm.Cond.methodLink "TreeTonguesLaw" 86 Y_M_classes.1 ∈ lw_good := mg 1240 (by decide +kernel) (by decide +kernel)
theorem ml_law_87 : Jvm.Cond.methodLink "TreeTonguesLaw" 87 Y_T_go.1 ∈ lw_good := mg 706 (by decide +kernel) (by decide +kernel)
theorem ml_law_91 : Jvm.Cond.methodLink "TreeTonguesLaw" 91 Y_M_go.1 ∈ lw_good := mg 1244 (by decide +kernel) (by decide +kernel)
theorem ml_law_92 : Jvm.Cond.methodLink "TreeTonguesLaw" 92 Y_T_isLast.1 ∈ lw_good := mg 715 (by decide +kernel) (by decide +kernel)
theorem ml_law_95 : Jvm.Cond.methodLink "TreeTonguesLaw" 95 Y_M_isLast.1 ∈ lw_good := mg 1248 (by decide +kernel) (by decide +kernel)
theorem ml_law_96 : Jvm.Cond.methodLink "TreeTonguesLaw" 96 Y_T_size.1 ∈ lw_good := mg 720 (by decide +kernel) (by decide +kernel)
theorem ml_law_99 : Jvm.Cond.methodLink "TreeTonguesLaw" 99 Y_M_size.1 ∈ lw_good := mg 1252 (by decide +kernel) (by decide +kernel)
theorem ml_law_100 : Jvm.Cond.methodLink "TreeTonguesLaw" 100 Y_T_classOf.1 ∈ lw_good := mg 724 (by decide +kernel) (by decide +kernel)
theorem ml_law_103 : Jvm.Cond.methodLink "TreeTonguesLaw" 103 Y_M_classOf.1 ∈ lw_good := mg 1256 (by decide +kernel) (by decide +kernel)
theorem ml_law_104 : Jvm.Cond.methodLink "TreeTonguesLaw" 104 Y_T_has.1 ∈ lw_good := mg 746 (by decide +kernel) (by decide +kernel)
theorem ml_law_107 : Jvm.Cond.methodLink "TreeTonguesLaw" 107 Y_M_has.1 ∈ lw_good := mg 1272 (by decide +kernel) (by decide +kernel)
theorem ml_law_108 : Jvm.Cond.methodLink "TreeTonguesLaw" 108 Y_T_least.1 ∈ lw_good := mg 750 (by decide +kernel) (by decide +kernel)
theorem ml_law_111 : Jvm.Cond.methodLink "TreeTonguesLaw" 111 Y_M_least.1 ∈ lw_good := mg 1276 (by decide +kernel) (by decide +kernel)
theorem ml_law_112 : Jvm.Cond.methodLink "TreeTonguesLaw" 112 Y_T_unlike.1 ∈ lw_good := mg 768 (by decide +kernel) (by decide +kernel)
theorem ml_law_115 : Jvm.Cond.methodLink "TreeTonguesLaw" 115 Y_M_unlike.1 ∈ lw_good := mg 1284 (by decide +kernel) (by decide +kernel)
theorem ml_law_116 : Jvm.Cond.methodLink "TreeTonguesLaw" 116 Y_T_ends.1 ∈ lw_good := mg 772 (by decide +kernel) (by decide +kernel)
theorem ml_law_119 : Jvm.Cond.methodLink "TreeTonguesLaw" 119 Y_M_ends.1 ∈ lw_good := mg 1288 (by decide +kernel) (by decide +kernel)
theorem ml_law_120 : Jvm.Cond.methodLink "TreeTonguesLaw" 120 Y_T_count.1 ∈ lw_good := mg 781 (by decide +kernel) (by decide +kernel)
theorem ml_law_124 : Jvm.Cond.methodLink "TreeTonguesLaw" 124 Y_M_count.1 ∈ lw_good := mg 1292 (by decide +kernel) (by decide +kernel)
theorem ml_law_127 : Jvm.Cond.methodLink "TreeTonguesLaw" 127 Y_T_tree.1 ∈ lw_good := mg 826 (by decide +kernel) (by decide +kernel)
theorem ml_law_131 : Jvm.Cond.methodLink "TreeTonguesLaw" 131 Y_M_tree.1 ∈ lw_good := mg 1313 (by decide +kernel) (by decide +kernel)
theorem ml_law_132 : Jvm.Cond.methodLink "TreeTonguesLaw" 132 Y_T_place.1 ∈ lw_good := mg 869 (by decide +kernel) (by decide +kernel)
theorem ml_law_136 : Jvm.Cond.methodLink "TreeTonguesLaw" 136 Y_M_place.1 ∈ lw_good := mg 1342 (by decide +kernel) (by decide +kernel)
theorem ml_law_137 : Jvm.Cond.methodLink "TreeTonguesLaw" 137 Y_T_told.1 ∈ lw_good := mg 882 (by decide +kernel) (by decide +kernel)
theorem ml_law_140 : Jvm.Cond.methodLink "TreeTonguesLaw" 140 Y_M_told.1 ∈ lw_good := mg 1350 (by decide +kernel) (by decide +kernel)
theorem ml_M_128 : Jvm.Cond.methodLink "TreeTonguesModel" 128 Y_M_in.1 ∈ lw_good := mg 1062 (by decide +kernel) (by decide +kernel)
theorem ml_M_137 : Jvm.Cond.methodLink "TreeTonguesModel" 137 Y_M_isSign.1 ∈ lw_good := mg 1069 (by decide +kernel) (by decide +kernel)
theorem ml_M_146 : Jvm.Cond.methodLink "TreeTonguesModel" 146 Y_M_isTongue.1 ∈ lw_good := mg 1094 (by decide +kernel) (by decide +kernel)
theorem ml_M_155 : Jvm.Cond.methodLink "TreeTonguesModel" 155 Y_M_step.1 ∈ lw_good := mg 1135 (by decide +kernel) (by decide +kernel)
theorem ml_M_159 : Jvm.Cond.methodLink "TreeTonguesModel" 159 Y_M_mapped.1 ∈ lw_good := mg 1139 (by decide +kernel) (by decide +kernel)
theorem ml_M_163 : Jvm.Cond.methodLink "TreeTonguesModel" 163 Y_M_bySets.1 ∈ lw_good := mg 1147 (by decide +kernel) (by decide +kernel)
theorem ml_M_173 : Jvm.Cond.methodLink "TreeTonguesModel" 173 Y_M_byRules.1 ∈ lw_good := mg 1131 (by decide +kernel) (by decide +kernel)
theorem ml_M_176 : Jvm.Cond.methodLink "TreeTonguesModel" 176 Y_M_renamedStep.1 ∈ lw_good := mg 1143 (by decide +kernel) (by decide +kernel)
theorem ml_M_179 : Jvm.Cond.methodLink "TreeTonguesModel" 179 Y_M_withinStep.1 ∈ lw_good := mg 1151 (by decide +kernel) (by decide +kernel)
theorem ml_M_182 : Jvm.Cond.methodLink "TreeTonguesModel" 182 Y_M_graftedStep.1 ∈ lw_good := mg 1155 (by decide +kernel) (by decide +kernel)
theorem ml_M_188 : Jvm.Cond.methodLink "TreeTonguesModel" 188 Y_M_ofTwo.1 ∈ lw_good := mg 1168 (by decide +kernel) (by decide +kernel)
theorem ml_M_195 : Jvm.Cond.methodLink "TreeTonguesModel" 195 Y_M_hasLast.1 ∈ lw_good := mg 1172 (by decide +kernel) (by decide +kernel)
theorem ml_M_198 : Jvm.Cond.methodLink "TreeTonguesModel" 198 Y_M_next.1 ∈ lw_good := mg 1127 (by decide +kernel) (by decide +kernel)
theorem ml_M_205 : Jvm.Cond.methodLink "TreeTonguesModel" 205 Y_M_add.1 ∈ lw_good := mg 1123 (by decide +kernel) (by decide +kernel)
theorem ml_M_209 : Jvm.Cond.methodLink "TreeTonguesModel" 209 Y_M_partOf.1 ∈ lw_good := mg 1180 (by decide +kernel) (by decide +kernel)
theorem ml_M_212 : Jvm.Cond.methodLink "TreeTonguesModel" 212 Y_M_isFinal.1 ∈ lw_good := mg 1164 (by decide +kernel) (by decide +kernel)
theorem ml_M_215 : Jvm.Cond.methodLink "TreeTonguesModel" 215 Y_M_areLike.1 ∈ lw_good := mg 1176 (by decide +kernel) (by decide +kernel)
theorem ml_M_234 : Jvm.Cond.methodLink "TreeTonguesModel" 234 Y_M_offer.1 ∈ lw_good := mg 1188 (by decide +kernel) (by decide +kernel)
theorem ml_M_238 : Jvm.Cond.methodLink "TreeTonguesModel" 238 Y_M_findKeys.1 ∈ lw_good := mg 1119 (by decide +kernel) (by decide +kernel)
theorem ml_M_241 : Jvm.Cond.methodLink "TreeTonguesModel" 241 Y_M_divide.1 ∈ lw_good := mg 1160 (by decide +kernel) (by decide +kernel)
theorem ml_M_245 : Jvm.Cond.methodLink "TreeTonguesModel" 245 Y_M_seek.1 ∈ lw_good := mg 1184 (by decide +kernel) (by decide +kernel)
theorem ml_M_249 : Jvm.Cond.methodLink "TreeTonguesModel" 249 Y_M_layMachine.1 ∈ lw_good := mg 1192 (by decide +kernel) (by decide +kernel)
theorem ml_M_252 : Jvm.Cond.methodLink "TreeTonguesModel" 252 Y_M_copy.1 ∈ lw_good := mg 1111 (by decide +kernel) (by decide +kernel)
theorem ml_M_255 : Jvm.Cond.methodLink "TreeTonguesModel" 255 Y_M_make.1 ∈ lw_good := mg 1115 (by decide +kernel) (by decide +kernel)
theorem ml_M_260 : Jvm.Cond.methodLink "TreeTonguesModel" 260 Y_M_load.1 ∈ lw_good := mg 1107 (by decide +kernel) (by decide +kernel)
theorem ml_M_264 : Jvm.Cond.methodLink "TreeTonguesModel" 264 Y_M_newTongue.1 ∈ lw_good := mg 1196 (by decide +kernel) (by decide +kernel)
theorem ml_M_268 : Jvm.Cond.methodLink "TreeTonguesModel" 268 Y_M_plain.1 ∈ lw_good := mg 1204 (by decide +kernel) (by decide +kernel)
theorem ml_M_272 : Jvm.Cond.methodLink "TreeTonguesModel" 272 Y_M_isMap.1 ∈ lw_good := mg 1212 (by decide +kernel) (by decide +kernel)
theorem ml_M_275 : Jvm.Cond.methodLink "TreeTonguesModel" 275 Y_M_usefulOf.1 ∈ lw_good := mg 1224 (by decide +kernel) (by decide +kernel)
theorem ml_M_278 : Jvm.Cond.methodLink "TreeTonguesModel" 278 Y_M_isTree.1 ∈ lw_good := mg 1264 (by decide +kernel) (by decide +kernel)
theorem ml_M_282 : Jvm.Cond.methodLink "TreeTonguesModel" 282 Y_M_classify.1 ∈ lw_good := mg 1268 (by decide +kernel) (by decide +kernel)
theorem ml_M_285 : Jvm.Cond.methodLink "TreeTonguesModel" 285 Y_M_asked.1 ∈ lw_good := mg 1260 (by decide +kernel) (by decide +kernel)
theorem ml_M_288 : Jvm.Cond.methodLink "TreeTonguesModel" 288 Y_M_layFirst.1 ∈ lw_good := mg 1280 (by decide +kernel) (by decide +kernel)
theorem ml_M_293 : Jvm.Cond.methodLink "TreeTonguesModel" 293 Y_M_plus.1 ∈ lw_good := mg 1302 (by decide +kernel) (by decide +kernel)
theorem ml_M_297 : Jvm.Cond.methodLink "TreeTonguesModel" 297 Y_M_times.1 ∈ lw_good := mg 1306 (by decide +kernel) (by decide +kernel)
theorem ml_M_304 : Jvm.Cond.methodLink "TreeTonguesModel" 304 Y_M_countAll.1 ∈ lw_good := mg 1298 (by decide +kernel) (by decide +kernel)
theorem ml_M_307 : Jvm.Cond.methodLink "TreeTonguesModel" 307 Y_M_countIn.1 ∈ lw_good := mg 1309 (by decide +kernel) (by decide +kernel)
theorem ml_M_311 : Jvm.Cond.methodLink "TreeTonguesModel" 311 Y_M_behind.1 ∈ lw_good := mg 1334 (by decide +kernel) (by decide +kernel)
theorem ml_M_315 : Jvm.Cond.methodLink "TreeTonguesModel" 315 Y_M_weigh.1 ∈ lw_good := mg 1330 (by decide +kernel) (by decide +kernel)
theorem ml_M_322 : Jvm.Cond.methodLink "TreeTonguesModel" 322 Y_M_layLast.1 ∈ lw_good := mg 1322 (by decide +kernel) (by decide +kernel)
theorem ml_M_325 : Jvm.Cond.methodLink "TreeTonguesModel" 325 Y_M_choose.1 ∈ lw_good := mg 1326 (by decide +kernel) (by decide +kernel)
theorem ml_M_331 : Jvm.Cond.methodLink "TreeTonguesModel" 331 Y_M_layWeights.1 ∈ lw_good := mg 1338 (by decide +kernel) (by decide +kernel)
theorem ml_M_337 : Jvm.Cond.methodLink "TreeTonguesModel" 337 Y_M_layTree.1 ∈ lw_good := mg 1318 (by decide +kernel) (by decide +kernel)
theorem ml_M_341 : Jvm.Cond.methodLink "TreeTonguesModel" 341 Y_M_aheadAt.1 ∈ lw_good := mg 1346 (by decide +kernel) (by decide +kernel)
