/-- what the tables say of the classes -/
def CK (ci : Nat) (r : vw_C) (ty : Nat → FieldType) : Prop := vwCl[ci]? = some r ∧ (∀ w ∈ u_ws r.1 r.2.1 r.2.2, w ∈ lw_good) ∧ (∀ k, k < r.2.2 → parseFieldDescriptor (r.2.1 k).2.2.1 = some (ty k)) ∧ (∀ a, a < r.2.2 → ∀ b, b < r.2.2 → a ≠ b → (r.2.1 a).2.1 ≠ (r.2.1 b).2.1) ∧ Jvm.Cond.instantiable r.1 r.2.2 ∈ lw_good ∧ Jvm.Cond.initialized r.1 ∈ lw_good ∧ r.2.2 = nfT.getD ci 0 ∧ ∀ k, k < r.2.2 → (r.2.1 k).1 = r.1
theorem cK0 : CK 0 (RX0, TX0, 4) tX0 := ⟨rfl, iX0, pX0, nX0, by decide +kernel, by decide +kernel, rfl, by decide +kernel⟩
theorem cK1 : CK 1 (RX1, TX1, 14) tX1 := ⟨rfl, iX1, pX1, nX1, by decide +kernel, by decide +kernel, rfl, by decide +kernel⟩
theorem cK2 : CK 2 (RX2, TX2, 6) tX2 := ⟨rfl, iX2, pX2, nX2, by decide +kernel, by decide +kernel, rfl, by decide +kernel⟩
theorem cK3 : CK 3 (RX3, TX3, 17) tX3 := ⟨rfl, iX3, pX3, nX3, by decide +kernel, by decide +kernel, rfl, by decide +kernel⟩
theorem cK4 : CK 4 (RX4, TX4, 5) tX4 := ⟨rfl, iX4, pX4, nX4, by decide +kernel, by decide +kernel, rfl, by decide +kernel⟩
theorem cK5 : CK 5 (RX5, TX5, 3) tX5 := ⟨rfl, iX5, pX5, nX5, by decide +kernel, by decide +kernel, rfl, by decide +kernel⟩
theorem cK6 : CK 6 (RX6, TX6, 2) tX6 := ⟨rfl, iX6, pX6, nX6, by decide +kernel, by decide +kernel, rfl, by decide +kernel⟩
theorem cK7 : CK 7 (RX7, TX7, 8) tX7 := ⟨rfl, iX7, pX7, nX7, by decide +kernel, by decide +kernel, rfl, by decide +kernel⟩
theorem cK8 : CK 8 (RX8, TX8, 8) tX8 := ⟨rfl, iX8, pX8, nX8, by decide +kernel, by decide +kernel, rfl, by decide +kernel⟩
theorem cK9 : CK 9 (RX9, TX9, 54) tX9 := ⟨rfl, iX9, pX9, nX9, by decide +kernel, by decide +kernel, rfl, by decide +kernel⟩
/-- a link to a field -/
def FL (own : String) (idx ci k : Nat) : Prop := ∃ r ty, CK ci r ty ∧ k < r.2.2 ∧ Jvm.Cond.fieldLink own idx (r.2.1 k).1 (r.2.1 k).2.1 (r.2.1 k).2.2.1 ∈ lw_good ∧ ft ci k = (match ty k with | .int => 0 | .long => 1 | .boolean => 3 | _ => 2) ∧ ((r.2.1 k).2.2.2 = false ∨ (r.2.1 k).1 = own) ∧ (∀ t, ty k = t → t = .int ∨ t = .long ∨ t = .boolean ∨ (∃ n, t = .object n) ∨ ∃ q, t = .array q)
def FLr (own : String) (idx ci k : Nat) : Prop := ∃ r ty, CK ci r ty ∧ k < r.2.2 ∧ Jvm.Cond.fieldLink own idx (r.2.1 k).1 (r.2.1 k).2.1 (r.2.1 k).2.2.1 ∈ lw_good ∧ ft ci k = (match ty k with | .int => 0 | .long => 1 | .boolean => 3 | _ => 2) ∧ (∀ t, ty k = t → t = .int ∨ t = .long ∨ t = .boolean ∨ (∃ n, t = .object n) ∨ ∃ q, t = .array q)
theorem fl_T_12 : FL "TreeTongues" 12 8 0 := ⟨_, _, cK8, by decide, mg 333 (by decide +kernel) (by decide +kernel), rfl, Or.inr rfl, fun t h => h ▸ Or.inr (Or.inr (Or.inr (Or.inl ⟨_, rfl⟩)))⟩
theorem fl_T_21 : FL "TreeTongues" 21 8 1 := ⟨_, _, cK8, by decide, mg 334 (by decide +kernel) (by decide +kernel), rfl, Or.inr rfl, fun t h => h ▸ Or.inr (Or.inr (Or.inr (Or.inl ⟨_, rfl⟩)))⟩
theorem fl_T_27 : FL "TreeTongues" 27 8 2 := ⟨_, _, cK8, by decide, mg 335 (by decide +kernel) (by decide +kernel), rfl, Or.inr rfl, fun t h => h ▸ Or.inr (Or.inr (Or.inr (Or.inr ⟨_, rfl⟩)))⟩
theorem fl_T_34 : FL "TreeTongues" 34 8 3 := ⟨_, _, cK8, by decide, mg 336 (by decide +kernel) (by decide +kernel), rfl, Or.inr rfl, fun t h => h ▸ Or.inr (Or.inr (Or.inr (Or.inl ⟨_, rfl⟩)))⟩
theorem fl_T_43 : FL "TreeTongues" 43 8 4 := ⟨_, _, cK8, by decide, mg 337 (by decide +kernel) (by decide +kernel), rfl, Or.inr rfl, fun t h => h ▸ Or.inr (Or.inr (Or.inr (Or.inl ⟨_, rfl⟩)))⟩
theorem fl_T_50 : FL "TreeTongues" 50 8 5 := ⟨_, _, cK8, by decide, mg 338 (by decide +kernel) (by decide +kernel), rfl, Or.inr rfl, fun t h => h ▸ Or.inr (Or.inr (Or.inr (Or.inl ⟨_, rfl⟩)))⟩
theorem fl_T_59 : FL "TreeTongues" 59 8 6 := ⟨_, _, cK8, by decide, mg 339 (by decide +kernel) (by decide +kernel), rfl, Or.inr rfl, fun t h => h ▸ Or.inr (Or.inr (Or.inr (Or.inl ⟨_, rfl⟩)))⟩
theorem fl_T_63 : FL "TreeTongues" 63 8 7 := ⟨_, _, cK8, by decide, mg 340 (by decide +kernel) (by decide +kernel), rfl, Or.inl rfl, fun t h => h ▸ Or.inl rfl⟩
theorem fl_T_67 : FL "TreeTongues" 67 5 1 := ⟨_, _, cK5, by decide, mg 109 (by decide +kernel) (by decide +kernel), rfl, Or.inl rfl, fun t h => h ▸ Or.inl rfl⟩
theorem fl_T_81 : FL "TreeTongues" 81 4 4 := ⟨_, _, cK4, by decide, mg 140 (by decide +kernel) (by decide +kernel), rfl, Or.inl rfl, fun t h => h ▸ Or.inl rfl⟩
theorem fl_T_87 : FLr "TreeTongues" 87 4 1 := ⟨_, _, cK4, by decide, mg 132 (by decide +kernel) (by decide +kernel), rfl, fun t h => h ▸ Or.inr (Or.inr (Or.inr (Or.inr ⟨_, rfl⟩)))⟩
theorem fl_T_101 : FL "TreeTongues" 101 7 6 := ⟨_, _, cK7, by decide, mg 420 (by decide +kernel) (by decide +kernel), rfl, Or.inl rfl, fun t h => h ▸ Or.inr (Or.inr (Or.inl rfl))⟩
theorem fl_T_108 : FL "TreeTongues" 108 7 4 := ⟨_, _, cK7, by decide, mg 416 (by decide +kernel) (by decide +kernel), rfl, Or.inl rfl, fun t h => h ▸ Or.inl rfl⟩
theorem fl_T_126 : FLr "TreeTongues" 126 7 1 := ⟨_, _, cK7, by decide, mg 411 (by decide +kernel) (by decide +kernel), rfl, fun t h => h ▸ Or.inr (Or.inr (Or.inr (Or.inl ⟨_, rfl⟩)))⟩
theorem fl_T_137 : FL "TreeTongues" 137 1 11 := ⟨_, _, cK1, by decide, mg 279 (by decide +kernel) (by decide +kernel), rfl, Or.inl rfl, fun t h => h ▸ Or.inl rfl⟩
theorem fl_T_165 : FL "TreeTongues" 165 1 10 := ⟨_, _, cK1, by decide, mg 276 (by decide +kernel) (by decide +kernel), rfl, Or.inl rfl, fun t h => h ▸ Or.inl rfl⟩
theorem fl_T_178 : FLr "TreeTongues" 178 1 5 := ⟨_, _, cK1, by decide, mg 267 (by decide +kernel) (by decide +kernel), rfl, fun t h => h ▸ Or.inr (Or.inr (Or.inr (Or.inr ⟨_, rfl⟩)))⟩
theorem fl_T_195 : FL "TreeTongues" 195 1 12 := ⟨_, _, cK1, by decide, mg 281 (by decide +kernel) (by decide +kernel), rfl, Or.inl rfl, fun t h => h ▸ Or.inr (Or.inr (Or.inl rfl))⟩
theorem fl_T_217 : FL "TreeTongues" 217 7 7 := ⟨_, _, cK7, by decide, mg 422 (by decide +kernel) (by decide +kernel), rfl, Or.inl rfl, fun t h => h ▸ Or.inr (Or.inr (Or.inl rfl))⟩
theorem fl_Census_9 : FL "TreeTongues$Census" 9 0 2 := ⟨_, _, cK0, by decide, mg 322 (by decide +kernel) (by decide +kernel), rfl, Or.inr rfl, fun t h => h ▸ Or.inr (Or.inr (Or.inr (Or.inr ⟨_, rfl⟩)))⟩
theorem fl_Census_15 : FL "TreeTongues$Census" 15 0 3 := ⟨_, _, cK0, by decide, mg 323 (by decide +kernel) (by decide +kernel), rfl, Or.inl rfl, fun t h => h ▸ Or.inr (Or.inl rfl)⟩
theorem fl_Census_19 : FL "TreeTongues$Census" 19 0 0 := ⟨_, _, cK0, by decide, mg 320 (by decide +kernel) (by decide +kernel), rfl, Or.inr rfl, fun t h => h ▸ Or.inr (Or.inr (Or.inr (Or.inl ⟨_, rfl⟩)))⟩
theorem fl_Census_23 : FL "TreeTongues$Census" 23 0 1 := ⟨_, _, cK0, by decide, mg 321 (by decide +kernel) (by decide +kernel), rfl, Or.inr rfl, fun t h => h ▸ Or.inr (Or.inr (Or.inr (Or.inl ⟨_, rfl⟩)))⟩
theorem fl_Census_31 : FL "TreeTongues$Census" 31 1 10 := ⟨_, _, cK1, by decide, mg 274 (by decide +kernel) (by decide +kernel), rfl, Or.inl rfl, fun t h => h ▸ Or.inl rfl⟩
theorem fl_Census_41 : FLr "TreeTongues$Census" 41 1 6 := ⟨_, _, cK1, by decide, mg 269 (by decide +kernel) (by decide +kernel), rfl, fun t h => h ▸ Or.inr (Or.inr (Or.inr (Or.inr ⟨_, rfl⟩)))⟩
theorem fl_Census_55 : FL "TreeTongues$Census" 55 4 4 := ⟨_, _, cK4, by decide, mg 139 (by decide +kernel) (by decide +kernel), rfl, Or.inl rfl, fun t h => h ▸ Or.inl rfl⟩
theorem fl_Census_72 : FL "TreeTongues$Census" 72 1 13 := ⟨_, _, cK1, by decide, mg 283 (by decide +kernel) (by decide +kernel), rfl, Or.inl rfl, fun t h => h ▸ Or.inr (Or.inr (Or.inl rfl))⟩
theorem fl_Census_86 : FL "TreeTongues$Census" 86 5 2 := ⟨_, _, cK5, by decide, mg 115 (by decide +kernel) (by decide +kernel), rfl, Or.inl rfl, fun t h => h ▸ Or.inr (Or.inr (Or.inl rfl))⟩
theorem fl_Census_94 : FL "TreeTongues$Census" 94 5 1 := ⟨_, _, cK5, by decide, mg 110 (by decide +kernel) (by decide +kernel), rfl, Or.inl rfl, fun t h => h ▸ Or.inl rfl⟩
theorem fl_Census_140 : FLr "TreeTongues$Census" 140 4 2 := ⟨_, _, cK4, by decide, mg 135 (by decide +kernel) (by decide +kernel), rfl, fun t h => h ▸ Or.inr (Or.inr (Or.inr (Or.inr ⟨_, rfl⟩)))⟩
theorem fl_Census_144 : FLr "TreeTongues$Census" 144 4 1 := ⟨_, _, cK4, by decide, mg 133 (by decide +kernel) (by decide +kernel), rfl, fun t h => h ▸ Or.inr (Or.inr (Or.inr (Or.inr ⟨_, rfl⟩)))⟩
theorem fl_Census_147 : FLr "TreeTongues$Census" 147 4 3 := ⟨_, _, cK4, by decide, mg 137 (by decide +kernel) (by decide +kernel), rfl, fun t h => h ▸ Or.inr (Or.inr (Or.inr (Or.inr ⟨_, rfl⟩)))⟩
theorem fl_Machine_9 : FL "TreeTongues$Machine" 9 1 1 := ⟨_, _, cK1, by decide, mg 259 (by decide +kernel) (by decide +kernel), rfl, Or.inr rfl, fun t h => h ▸ Or.inr (Or.inr (Or.inr (Or.inr ⟨_, rfl⟩)))⟩
theorem fl_Machine_15 : FL "TreeTongues$Machine" 15 1 2 := ⟨_, _, cK1, by decide, mg 260 (by decide +kernel) (by decide +kernel), rfl, Or.inr rfl, fun t h => h ▸ Or.inr (Or.inr (Or.inr (Or.inr ⟨_, rfl⟩)))⟩
theorem fl_Machine_18 : FL "TreeTongues$Machine" 18 1 3 := ⟨_, _, cK1, by decide, mg 262 (by decide +kernel) (by decide +kernel), rfl, Or.inr rfl, fun t h => h ▸ Or.inr (Or.inr (Or.inr (Or.inr ⟨_, rfl⟩)))⟩
theorem fl_Machine_21 : FL "TreeTongues$Machine" 21 1 4 := ⟨_, _, cK1, by decide, mg 264 (by decide +kernel) (by decide +kernel), rfl, Or.inr rfl, fun t h => h ▸ Or.inr (Or.inr (Or.inr (Or.inr ⟨_, rfl⟩)))⟩
theorem fl_Machine_24 : FL "TreeTongues$Machine" 24 1 5 := ⟨_, _, cK1, by decide, mg 266 (by decide +kernel) (by decide +kernel), rfl, Or.inr rfl, fun t h => h ▸ Or.inr (Or.inr (Or.inr (Or.inr ⟨_, rfl⟩)))⟩
theorem fl_Machine_27 : FL "TreeTongues$Machine" 27 1 6 := ⟨_, _, cK1, by decide, mg 268 (by decide +kernel) (by decide +kernel), rfl, Or.inr rfl, fun t h => h ▸ Or.inr (Or.inr (Or.inr (Or.inr ⟨_, rfl⟩)))⟩
theorem fl_Machine_31 : FL "TreeTongues$Machine" 31 1 7 := ⟨_, _, cK1, by decide, mg 270 (by decide +kernel) (by decide +kernel), rfl, Or.inr rfl, fun t h => h ▸ Or.inr (Or.inr (Or.inr (Or.inr ⟨_, rfl⟩)))⟩
theorem fl_Machine_34 : FL "TreeTongues$Machine" 34 1 8 := ⟨_, _, cK1, by decide, mg 271 (by decide +kernel) (by decide +kernel), rfl, Or.inr rfl, fun t h => h ▸ Or.inr (Or.inr (Or.inr (Or.inr ⟨_, rfl⟩)))⟩
theorem fl_Machine_37 : FL "TreeTongues$Machine" 37 1 9 := ⟨_, _, cK1, by decide, mg 272 (by decide +kernel) (by decide +kernel), rfl, Or.inr rfl, fun t h => h ▸ Or.inr (Or.inr (Or.inr (Or.inr ⟨_, rfl⟩)))⟩
theorem fl_Machine_40 : FL "TreeTongues$Machine" 40 1 10 := ⟨_, _, cK1, by decide, mg 273 (by decide +kernel) (by decide +kernel), rfl, Or.inl rfl, fun t h => h ▸ Or.inl rfl⟩
theorem fl_Machine_44 : FL "TreeTongues$Machine" 44 1 11 := ⟨_, _, cK1, by decide, mg 277 (by decide +kernel) (by decide +kernel), rfl, Or.inl rfl, fun t h => h ▸ Or.inl rfl⟩
theorem fl_Machine_47 : FL "TreeTongues$Machine" 47 1 12 := ⟨_, _, cK1, by decide, mg 280 (by decide +kernel) (by decide +kernel), rfl, Or.inl rfl, fun t h => h ▸ Or.inr (Or.inr (Or.inl rfl))⟩
theorem fl_Machine_51 : FL "TreeTongues$Machine" 51 1 13 := ⟨_, _, cK1, by decide, mg 282 (by decide +kernel) (by decide +kernel), rfl, Or.inl rfl, fun t h => h ▸ Or.inr (Or.inr (Or.inl rfl))⟩
theorem fl_Machine_54 : FL "TreeTongues$Machine" 54 1 0 := ⟨_, _, cK1, by decide, mg 258 (by decide +kernel) (by decide +kernel), rfl, Or.inr rfl, fun t h => h ▸ Or.inr (Or.inr (Or.inr (Or.inl ⟨_, rfl⟩)))⟩
theorem fl_Machine_81 : FL "TreeTongues$Machine" 81 5 1 := ⟨_, _, cK5, by decide, mg 111 (by decide +kernel) (by decide +kernel), rfl, Or.inl rfl, fun t h => h ▸ Or.inl rfl⟩
theorem fl_Net_9 : FL "TreeTongues$Net" 9 2 1 := ⟨_, _, cK2, by decide, mg 161 (by decide +kernel) (by decide +kernel), rfl, Or.inr rfl, fun t h => h ▸ Or.inr (Or.inr (Or.inr (Or.inr ⟨_, rfl⟩)))⟩
theorem fl_Net_15 : FL "TreeTongues$Net" 15 2 2 := ⟨_, _, cK2, by decide, mg 162 (by decide +kernel) (by decide +kernel), rfl, Or.inl rfl, fun t h => h ▸ Or.inl rfl⟩
theorem fl_Net_19 : FL "TreeTongues$Net" 19 2 3 := ⟨_, _, cK2, by decide, mg 164 (by decide +kernel) (by decide +kernel), rfl, Or.inl rfl, fun t h => h ▸ Or.inl rfl⟩
theorem fl_Net_22 : FL "TreeTongues$Net" 22 2 4 := ⟨_, _, cK2, by decide, mg 165 (by decide +kernel) (by decide +kernel), rfl, Or.inl rfl, fun t h => h ▸ Or.inl rfl⟩
theorem fl_Net_25 : FL "TreeTongues$Net" 25 2 5 := ⟨_, _, cK2, by decide, mg 166 (by decide +kernel) (by decide +kernel), rfl, Or.inl rfl, fun t h => h ▸ Or.inl rfl⟩
theorem fl_Net_28 : FL "TreeTongues$Net" 28 2 0 := ⟨_, _, cK2, by decide, mg 160 (by decide +kernel) (by decide +kernel), rfl, Or.inr rfl, fun t h => h ▸ Or.inr (Or.inr (Or.inr (Or.inl ⟨_, rfl⟩)))⟩
theorem fl_Net_44 : FL "TreeTongues$Net" 44 1 10 := ⟨_, _, cK1, by decide, mg 275 (by decide +kernel) (by decide +kernel), rfl, Or.inl rfl, fun t h => h ▸ Or.inl rfl⟩
theorem fl_Net_60 : FL "TreeTongues$Net" 60 7 3 := ⟨_, _, cK7, by decide, mg 414 (by decide +kernel) (by decide +kernel), rfl, Or.inl rfl, fun t h => h ▸ Or.inl rfl⟩
theorem fl_Net_63 : FL "TreeTongues$Net" 63 7 5 := ⟨_, _, cK7, by decide, mg 418 (by decide +kernel) (by decide +kernel), rfl, Or.inl rfl, fun t h => h ▸ Or.inl rfl⟩
theorem fl_Net_70 : FL "TreeTongues$Net" 70 5 1 := ⟨_, _, cK5, by decide, mg 113 (by decide +kernel) (by decide +kernel), rfl, Or.inl rfl, fun t h => h ▸ Or.inl rfl⟩
theorem fl_Net_80 : FL "TreeTongues$Net" 80 1 11 := ⟨_, _, cK1, by decide, mg 278 (by decide +kernel) (by decide +kernel), rfl, Or.inl rfl, fun t h => h ▸ Or.inl rfl⟩
theorem fl_Reducer_9 : FL "TreeTongues$Reducer" 9 3 2 := ⟨_, _, cK3, by decide, mg 202 (by decide +kernel) (by decide +kernel), rfl, Or.inr rfl, fun t h => h ▸ Or.inr (Or.inr (Or.inr (Or.inr ⟨_, rfl⟩)))⟩
theorem fl_Reducer_15 : FL "TreeTongues$Reducer" 15 3 3 := ⟨_, _, cK3, by decide, mg 203 (by decide +kernel) (by decide +kernel), rfl, Or.inr rfl, fun t h => h ▸ Or.inr (Or.inr (Or.inr (Or.inr ⟨_, rfl⟩)))⟩
theorem fl_Reducer_18 : FL "TreeTongues$Reducer" 18 3 4 := ⟨_, _, cK3, by decide, mg 204 (by decide +kernel) (by decide +kernel), rfl, Or.inr rfl, fun t h => h ▸ Or.inr (Or.inr (Or.inr (Or.inr ⟨_, rfl⟩)))⟩
theorem fl_Reducer_21 : FL "TreeTongues$Reducer" 21 3 5 := ⟨_, _, cK3, by decide, mg 205 (by decide +kernel) (by decide +kernel), rfl, Or.inr rfl, fun t h => h ▸ Or.inr (Or.inr (Or.inr (Or.inr ⟨_, rfl⟩)))⟩
theorem fl_Reducer_24 : FL "TreeTongues$Reducer" 24 3 6 := ⟨_, _, cK3, by decide, mg 206 (by decide +kernel) (by decide +kernel), rfl, Or.inl rfl, fun t h => h ▸ Or.inl rfl⟩
theorem fl_Reducer_28 : FL "TreeTongues$Reducer" 28 3 7 := ⟨_, _, cK3, by decide, mg 207 (by decide +kernel) (by decide +kernel), rfl, Or.inr rfl, fun t h => h ▸ Or.inr (Or.inr (Or.inr (Or.inr ⟨_, rfl⟩)))⟩
theorem fl_Reducer_31 : FL "TreeTongues$Reducer" 31 3 8 := ⟨_, _, cK3, by decide, mg 208 (by decide +kernel) (by decide +kernel), rfl, Or.inr rfl, fun t h => h ▸ Or.inr (Or.inr (Or.inr (Or.inr ⟨_, rfl⟩)))⟩
theorem fl_Reducer_34 : FL "TreeTongues$Reducer" 34 3 9 := ⟨_, _, cK3, by decide, mg 209 (by decide +kernel) (by decide +kernel), rfl, Or.inr rfl, fun t h => h ▸ Or.inr (Or.inr (Or.inr (Or.inr ⟨_, rfl⟩)))⟩
theorem fl_Reducer_37 : FL "TreeTongues$Reducer" 37 3 10 := ⟨_, _, cK3, by decide, mg 210 (by decide +kernel) (by decide +kernel), rfl, Or.inl rfl, fun t h => h ▸ Or.inl rfl⟩
theorem fl_Reducer_40 : FL "TreeTongues$Reducer" 40 3 11 := ⟨_, _, cK3, by decide, mg 211 (by decide +kernel) (by decide +kernel), rfl, Or.inl rfl, fun t h => h ▸ Or.inr (Or.inr (Or.inl rfl))⟩
theorem fl_Reducer_46 : FL "TreeTongues$Reducer" 46 3 12 := ⟨_, _, cK3, by decide, mg 212 (by decide +kernel) (by decide +kernel), rfl, Or.inr rfl, fun t h => h ▸ Or.inr (Or.inr (Or.inr (Or.inr ⟨_, rfl⟩)))⟩
theorem fl_Reducer_50 : FL "TreeTongues$Reducer" 50 3 13 := ⟨_, _, cK3, by decide, mg 213 (by decide +kernel) (by decide +kernel), rfl, Or.inr rfl, fun t h => h ▸ Or.inr (Or.inr (Or.inr (Or.inr ⟨_, rfl⟩)))⟩
theorem fl_Reducer_53 : FL "TreeTongues$Reducer" 53 3 14 := ⟨_, _, cK3, by decide, mg 214 (by decide +kernel) (by decide +kernel), rfl, Or.inl rfl, fun t h => h ▸ Or.inl rfl⟩
theorem fl_Reducer_57 : FL "TreeTongues$Reducer" 57 3 15 := ⟨_, _, cK3, by decide, mg 215 (by decide +kernel) (by decide +kernel), rfl, Or.inr rfl, fun t h => h ▸ Or.inr (Or.inr (Or.inr (Or.inl ⟨_, rfl⟩)))⟩
theorem fl_Reducer_61 : FL "TreeTongues$Reducer" 61 3 16 := ⟨_, _, cK3, by decide, mg 216 (by decide +kernel) (by decide +kernel), rfl, Or.inr rfl, fun t h => h ▸ Or.inr (Or.inr (Or.inr (Or.inl ⟨_, rfl⟩)))⟩
theorem fl_Reducer_64 : FL "TreeTongues$Reducer" 64 3 0 := ⟨_, _, cK3, by decide, mg 200 (by decide +kernel) (by decide +kernel), rfl, Or.inr rfl, fun t h => h ▸ Or.inr (Or.inr (Or.inr (Or.inl ⟨_, rfl⟩)))⟩
theorem fl_Reducer_68 : FL "TreeTongues$Reducer" 68 3 1 := ⟨_, _, cK3, by decide, mg 201 (by decide +kernel) (by decide +kernel), rfl, Or.inr rfl, fun t h => h ▸ Or.inr (Or.inr (Or.inr (Or.inl ⟨_, rfl⟩)))⟩
theorem fl_Reducer_121 : FL "TreeTongues$Reducer" 121 5 1 := ⟨_, _, cK5, by decide, mg 112 (by decide +kernel) (by decide +kernel), rfl, Or.inl rfl, fun t h => h ▸ Or.inl rfl⟩
theorem fl_Row_9 : FL "TreeTongues$Row" 9 4 1 := ⟨_, _, cK4, by decide, mg 131 (by decide +kernel) (by decide +kernel), rfl, Or.inr rfl, fun t h => h ▸ Or.inr (Or.inr (Or.inr (Or.inr ⟨_, rfl⟩)))⟩
theorem fl_Row_15 : FL "TreeTongues$Row" 15 4 2 := ⟨_, _, cK4, by decide, mg 134 (by decide +kernel) (by decide +kernel), rfl, Or.inr rfl, fun t h => h ▸ Or.inr (Or.inr (Or.inr (Or.inr ⟨_, rfl⟩)))⟩
theorem fl_Row_18 : FL "TreeTongues$Row" 18 4 3 := ⟨_, _, cK4, by decide, mg 136 (by decide +kernel) (by decide +kernel), rfl, Or.inr rfl, fun t h => h ▸ Or.inr (Or.inr (Or.inr (Or.inr ⟨_, rfl⟩)))⟩
theorem fl_Row_21 : FL "TreeTongues$Row" 21 4 4 := ⟨_, _, cK4, by decide, mg 138 (by decide +kernel) (by decide +kernel), rfl, Or.inl rfl, fun t h => h ▸ Or.inl rfl⟩
theorem fl_Row_25 : FL "TreeTongues$Row" 25 4 0 := ⟨_, _, cK4, by decide, mg 130 (by decide +kernel) (by decide +kernel), rfl, Or.inr rfl, fun t h => h ▸ Or.inr (Or.inr (Or.inr (Or.inl ⟨_, rfl⟩)))⟩
theorem fl_Row_55 : FLr "TreeTongues$Row" 55 1 2 := ⟨_, _, cK1, by decide, mg 261 (by decide +kernel) (by decide +kernel), rfl, fun t h => h ▸ Or.inr (Or.inr (Or.inr (Or.inr ⟨_, rfl⟩)))⟩
theorem fl_Row_62 : FLr "TreeTongues$Row" 62 1 3 := ⟨_, _, cK1, by decide, mg 263 (by decide +kernel) (by decide +kernel), rfl, fun t h => h ▸ Or.inr (Or.inr (Or.inr (Or.inr ⟨_, rfl⟩)))⟩
theorem fl_Row_65 : FLr "TreeTongues$Row" 65 1 4 := ⟨_, _, cK1, by decide, mg 265 (by decide +kernel) (by decide +kernel), rfl, fun t h => h ▸ Or.inr (Or.inr (Or.inr (Or.inr ⟨_, rfl⟩)))⟩
theorem fl_Signs_9 : FL "TreeTongues$Signs" 9 5 0 := ⟨_, _, cK5, by decide, mg 107 (by decide +kernel) (by decide +kernel), rfl, Or.inr rfl, fun t h => h ▸ Or.inr (Or.inr (Or.inr (Or.inr ⟨_, rfl⟩)))⟩
theorem fl_Signs_15 : FL "TreeTongues$Signs" 15 5 1 := ⟨_, _, cK5, by decide, mg 108 (by decide +kernel) (by decide +kernel), rfl, Or.inl rfl, fun t h => h ▸ Or.inl rfl⟩
theorem fl_Signs_19 : FL "TreeTongues$Signs" 19 5 2 := ⟨_, _, cK5, by decide, mg 114 (by decide +kernel) (by decide +kernel), rfl, Or.inl rfl, fun t h => h ▸ Or.inr (Or.inr (Or.inl rfl))⟩
theorem fl_Step_9 : FL "TreeTongues$Step" 9 6 0 := ⟨_, _, cK6, by decide, mg 193 (by decide +kernel) (by decide +kernel), rfl, Or.inr rfl, fun t h => h ▸ Or.inr (Or.inr (Or.inr (Or.inr ⟨_, rfl⟩)))⟩
theorem fl_Step_15 : FL "TreeTongues$Step" 15 6 1 := ⟨_, _, cK6, by decide, mg 194 (by decide +kernel) (by decide +kernel), rfl, Or.inr rfl, fun t h => h ▸ Or.inr (Or.inr (Or.inr (Or.inr ⟨_, rfl⟩)))⟩
theorem fl_Step_18 : FL "TreeTongues$Step" 18 2 2 := ⟨_, _, cK2, by decide, mg 163 (by decide +kernel) (by decide +kernel), rfl, Or.inl rfl, fun t h => h ▸ Or.inl rfl⟩
theorem fl_Tongue_9 : FL "TreeTongues$Tongue" 9 7 2 := ⟨_, _, cK7, by decide, mg 412 (by decide +kernel) (by decide +kernel), rfl, Or.inr rfl, fun t h => h ▸ Or.inr (Or.inr (Or.inr (Or.inr ⟨_, rfl⟩)))⟩
theorem fl_Tongue_15 : FL "TreeTongues$Tongue" 15 7 3 := ⟨_, _, cK7, by decide, mg 413 (by decide +kernel) (by decide +kernel), rfl, Or.inl rfl, fun t h => h ▸ Or.inl rfl⟩
theorem fl_Tongue_19 : FL "TreeTongues$Tongue" 19 7 4 := ⟨_, _, cK7, by decide, mg 415 (by decide +kernel) (by decide +kernel), rfl, Or.inl rfl, fun t h => h ▸ Or.inl rfl⟩
theorem fl_Tongue_22 : FL "TreeTongues$Tongue" 22 7 5 := ⟨_, _, cK7, by decide, mg 417 (by decide +kernel) (by decide +kernel), rfl, Or.inl rfl, fun t h => h ▸ Or.inl rfl⟩
theorem fl_Tongue_25 : FL "TreeTongues$Tongue" 25 7 6 := ⟨_, _, cK7, by decide, mg 419 (by decide +kernel) (by decide +kernel), rfl, Or.inl rfl, fun t h => h ▸ Or.inr (Or.inr (Or.inl rfl))⟩
theorem fl_Tongue_29 : FL "TreeTongues$Tongue" 29 7 7 := ⟨_, _, cK7, by decide, mg 421 (by decide +kernel) (by decide +kernel), rfl, Or.inl rfl, fun t h => h ▸ Or.inr (Or.inr (Or.inl rfl))⟩
theorem fl_Tongue_32 : FL "TreeTongues$Tongue" 32 7 0 := ⟨_, _, cK7, by decide, mg 409 (by decide +kernel) (by decide +kernel), rfl, Or.inr rfl, fun t h => h ▸ Or.inr (Or.inr (Or.inr (Or.inl ⟨_, rfl⟩)))⟩
theorem fl_Tongue_41 : FL "TreeTongues$Tongue" 41 7 1 := ⟨_, _, cK7, by decide, mg 410 (by decide +kernel) (by decide +kernel), rfl, Or.inr rfl, fun t h => h ▸ Or.inr (Or.inr (Or.inr (Or.inl ⟨_, rfl⟩)))⟩
theorem fl_M_7 : FL "TreeTonguesModel" 7 9 1 := ⟨_, _, cK9, by decide, mg 894 (by decide +kernel) (by decide +kernel), rfl, Or.inr rfl, fun t h => h ▸ Or.inr (Or.inr (Or.inr (Or.inr ⟨_, rfl⟩)))⟩
theorem fl_M_13 : FL "TreeTonguesModel" 13 9 2 := ⟨_, _, cK9, by decide, mg 895 (by decide +kernel) (by decide +kernel), rfl, Or.inr rfl, fun t h => h ▸ Or.inr (Or.inr (Or.inr (Or.inr ⟨_, rfl⟩)))⟩
theorem fl_M_16 : FL "TreeTonguesModel" 16 9 5 := ⟨_, _, cK9, by decide, mg 898 (by decide +kernel) (by decide +kernel), rfl, Or.inr rfl, fun t h => h ▸ Or.inr (Or.inr (Or.inr (Or.inr ⟨_, rfl⟩)))⟩
theorem fl_M_20 : FL "TreeTonguesModel" 20 9 6 := ⟨_, _, cK9, by decide, mg 899 (by decide +kernel) (by decide +kernel), rfl, Or.inr rfl, fun t h => h ▸ Or.inr (Or.inr (Or.inr (Or.inr ⟨_, rfl⟩)))⟩
theorem fl_M_23 : FL "TreeTonguesModel" 23 9 7 := ⟨_, _, cK9, by decide, mg 900 (by decide +kernel) (by decide +kernel), rfl, Or.inr rfl, fun t h => h ▸ Or.inr (Or.inr (Or.inr (Or.inr ⟨_, rfl⟩)))⟩
theorem fl_M_26 : FL "TreeTonguesModel" 26 9 8 := ⟨_, _, cK9, by decide, mg 901 (by decide +kernel) (by decide +kernel), rfl, Or.inr rfl, fun t h => h ▸ Or.inr (Or.inr (Or.inr (Or.inr ⟨_, rfl⟩)))⟩
theorem fl_M_29 : FL "TreeTonguesModel" 29 9 9 := ⟨_, _, cK9, by decide, mg 902 (by decide +kernel) (by decide +kernel), rfl, Or.inr rfl, fun t h => h ▸ Or.inr (Or.inr (Or.inr (Or.inr ⟨_, rfl⟩)))⟩
theorem fl_M_32 : FL "TreeTonguesModel" 32 9 10 := ⟨_, _, cK9, by decide, mg 903 (by decide +kernel) (by decide +kernel), rfl, Or.inr rfl, fun t h => h ▸ Or.inr (Or.inr (Or.inr (Or.inr ⟨_, rfl⟩)))⟩
theorem fl_M_35 : FL "TreeTonguesModel" 35 9 11 := ⟨_, _, cK9, by decide, mg 904 (by decide +kernel) (by decide +kernel), rfl, Or.inr rfl, fun t h => h ▸ Or.inr (Or.inr (Or.inr (Or.inr ⟨_, rfl⟩)))⟩
theorem fl_M_38 : FL "TreeTonguesModel" 38 9 12 := ⟨_, _, cK9, by decide, mg 905 (by decide +kernel) (by decide +kernel), rfl, Or.inr rfl, fun t h => h ▸ Or.inr (Or.inr (Or.inr (Or.inr ⟨_, rfl⟩)))⟩
theorem fl_M_41 : FL "TreeTonguesModel" 41 9 13 := ⟨_, _, cK9, by decide, mg 906 (by decide +kernel) (by decide +kernel), rfl, Or.inr rfl, fun t h => h ▸ Or.inr (Or.inr (Or.inr (Or.inr ⟨_, rfl⟩)))⟩
theorem fl_M_44 : FL "TreeTonguesModel" 44 9 14 := ⟨_, _, cK9, by decide, mg 907 (by decide +kernel) (by decide +kernel), rfl, Or.inr rfl, fun t h => h ▸ Or.inr (Or.inr (Or.inr (Or.inr ⟨_, rfl⟩)))⟩
theorem fl_M_47 : FL "TreeTonguesModel" 47 9 15 := ⟨_, _, cK9, by decide, mg 908 (by decide +kernel) (by decide +kernel), rfl, Or.inr rfl, fun t h => h ▸ Or.inr (Or.inr (Or.inr (Or.inr ⟨_, rfl⟩)))⟩
theorem fl_M_50 : FL "TreeTonguesModel" 50 9 16 := ⟨_, _, cK9, by decide, mg 909 (by decide +kernel) (by decide +kernel), rfl, Or.inr rfl, fun t h => h ▸ Or.inr (Or.inr (Or.inr (Or.inr ⟨_, rfl⟩)))⟩
theorem fl_M_53 : FL "TreeTonguesModel" 53 9 17 := ⟨_, _, cK9, by decide, mg 910 (by decide +kernel) (by decide +kernel), rfl, Or.inr rfl, fun t h => h ▸ Or.inr (Or.inr (Or.inr (Or.inr ⟨_, rfl⟩)))⟩
theorem fl_M_56 : FL "TreeTonguesModel" 56 9 18 := ⟨_, _, cK9, by decide, mg 911 (by decide +kernel) (by decide +kernel), rfl, Or.inr rfl, fun t h => h ▸ Or.inr (Or.inr (Or.inr (Or.inr ⟨_, rfl⟩)))⟩
theorem fl_M_59 : FL "TreeTonguesModel" 59 9 19 := ⟨_, _, cK9, by decide, mg 912 (by decide +kernel) (by decide +kernel), rfl, Or.inr rfl, fun t h => h ▸ Or.inr (Or.inr (Or.inr (Or.inr ⟨_, rfl⟩)))⟩
theorem fl_M_62 : FL "TreeTonguesModel" 62 9 27 := ⟨_, _, cK9, by decide, mg 920 (by decide +kernel) (by decide +kernel), rfl, Or.inr rfl, fun t h => h ▸ Or.inr (Or.inr (Or.inr (Or.inr ⟨_, rfl⟩)))⟩
theorem fl_M_65 : FL "TreeTonguesModel" 65 9 28 := ⟨_, _, cK9, by decide, mg 921 (by decide +kernel) (by decide +kernel), rfl, Or.inr rfl, fun t h => h ▸ Or.inr (Or.inr (Or.inr (Or.inr ⟨_, rfl⟩)))⟩
theorem fl_M_68 : FL "TreeTonguesModel" 68 9 29 := ⟨_, _, cK9, by decide, mg 922 (by decide +kernel) (by decide +kernel), rfl, Or.inr rfl, fun t h => h ▸ Or.inr (Or.inr (Or.inr (Or.inr ⟨_, rfl⟩)))⟩
theorem fl_M_71 : FL "TreeTonguesModel" 71 9 30 := ⟨_, _, cK9, by decide, mg 923 (by decide +kernel) (by decide +kernel), rfl, Or.inr rfl, fun t h => h ▸ Or.inr (Or.inr (Or.inr (Or.inr ⟨_, rfl⟩)))⟩
theorem fl_M_74 : FL "TreeTonguesModel" 74 9 31 := ⟨_, _, cK9, by decide, mg 924 (by decide +kernel) (by decide +kernel), rfl, Or.inr rfl, fun t h => h ▸ Or.inr (Or.inr (Or.inr (Or.inr ⟨_, rfl⟩)))⟩
theorem fl_M_78 : FL "TreeTonguesModel" 78 9 32 := ⟨_, _, cK9, by decide, mg 925 (by decide +kernel) (by decide +kernel), rfl, Or.inr rfl, fun t h => h ▸ Or.inr (Or.inr (Or.inr (Or.inr ⟨_, rfl⟩)))⟩
theorem fl_M_81 : FL "TreeTonguesModel" 81 9 33 := ⟨_, _, cK9, by decide, mg 926 (by decide +kernel) (by decide +kernel), rfl, Or.inr rfl, fun t h => h ▸ Or.inr (Or.inr (Or.inr (Or.inr ⟨_, rfl⟩)))⟩
theorem fl_M_84 : FL "TreeTonguesModel" 84 9 39 := ⟨_, _, cK9, by decide, mg 932 (by decide +kernel) (by decide +kernel), rfl, Or.inr rfl, fun t h => h ▸ Or.inr (Or.inr (Or.inr (Or.inr ⟨_, rfl⟩)))⟩
theorem fl_M_87 : FL "TreeTonguesModel" 87 9 40 := ⟨_, _, cK9, by decide, mg 933 (by decide +kernel) (by decide +kernel), rfl, Or.inr rfl, fun t h => h ▸ Or.inr (Or.inr (Or.inr (Or.inr ⟨_, rfl⟩)))⟩
theorem fl_M_90 : FL "TreeTonguesModel" 90 9 41 := ⟨_, _, cK9, by decide, mg 934 (by decide +kernel) (by decide +kernel), rfl, Or.inr rfl, fun t h => h ▸ Or.inr (Or.inr (Or.inr (Or.inr ⟨_, rfl⟩)))⟩
theorem fl_M_93 : FL "TreeTonguesModel" 93 9 42 := ⟨_, _, cK9, by decide, mg 935 (by decide +kernel) (by decide +kernel), rfl, Or.inr rfl, fun t h => h ▸ Or.inr (Or.inr (Or.inr (Or.inr ⟨_, rfl⟩)))⟩
theorem fl_M_96 : FL "TreeTonguesModel" 96 9 43 := ⟨_, _, cK9, by decide, mg 936 (by decide +kernel) (by decide +kernel), rfl, Or.inr rfl, fun t h => h ▸ Or.inr (Or.inr (Or.inr (Or.inr ⟨_, rfl⟩)))⟩
theorem fl_M_99 : FL "TreeTonguesModel" 99 9 44 := ⟨_, _, cK9, by decide, mg 937 (by decide +kernel) (by decide +kernel), rfl, Or.inr rfl, fun t h => h ▸ Or.inr (Or.inr (Or.inr (Or.inr ⟨_, rfl⟩)))⟩
theorem fl_M_102 : FL "TreeTonguesModel" 102 9 45 := ⟨_, _, cK9, by decide, mg 938 (by decide +kernel) (by decide +kernel), rfl, Or.inr rfl, fun t h => h ▸ Or.inr (Or.inr (Or.inr (Or.inr ⟨_, rfl⟩)))⟩
theorem fl_M_106 : FL "TreeTonguesModel" 106 9 46 := ⟨_, _, cK9, by decide, mg 939 (by decide +kernel) (by decide +kernel), rfl, Or.inr rfl, fun t h => h ▸ Or.inr (Or.inr (Or.inr (Or.inr ⟨_, rfl⟩)))⟩
theorem fl_M_109 : FL "TreeTonguesModel" 109 9 47 := ⟨_, _, cK9, by decide, mg 940 (by decide +kernel) (by decide +kernel), rfl, Or.inr rfl, fun t h => h ▸ Or.inr (Or.inr (Or.inr (Or.inr ⟨_, rfl⟩)))⟩
theorem fl_M_112 : FL "TreeTonguesModel" 112 9 48 := ⟨_, _, cK9, by decide, mg 941 (by decide +kernel) (by decide +kernel), rfl, Or.inr rfl, fun t h => h ▸ Or.inr (Or.inr (Or.inr (Or.inr ⟨_, rfl⟩)))⟩
theorem fl_M_115 : FL "TreeTonguesModel" 115 9 49 := ⟨_, _, cK9, by decide, mg 942 (by decide +kernel) (by decide +kernel), rfl, Or.inr rfl, fun t h => h ▸ Or.inr (Or.inr (Or.inr (Or.inr ⟨_, rfl⟩)))⟩
theorem fl_M_118 : FL "TreeTonguesModel" 118 9 50 := ⟨_, _, cK9, by decide, mg 943 (by decide +kernel) (by decide +kernel), rfl, Or.inr rfl, fun t h => h ▸ Or.inr (Or.inr (Or.inr (Or.inr ⟨_, rfl⟩)))⟩
theorem fl_M_121 : FL "TreeTonguesModel" 121 9 51 := ⟨_, _, cK9, by decide, mg 944 (by decide +kernel) (by decide +kernel), rfl, Or.inr rfl, fun t h => h ▸ Or.inr (Or.inr (Or.inr (Or.inr ⟨_, rfl⟩)))⟩
theorem fl_M_124 : FL "TreeTonguesModel" 124 9 0 := ⟨_, _, cK9, by decide, mg 893 (by decide +kernel) (by decide +kernel), rfl, Or.inl rfl, fun t h => h ▸ Or.inl rfl⟩
theorem fl_M_132 : FL "TreeTonguesModel" 132 9 4 := ⟨_, _, cK9, by decide, mg 897 (by decide +kernel) (by decide +kernel), rfl, Or.inl rfl, fun t h => h ▸ Or.inl rfl⟩
theorem fl_M_141 : FL "TreeTonguesModel" 141 9 3 := ⟨_, _, cK9, by decide, mg 896 (by decide +kernel) (by decide +kernel), rfl, Or.inl rfl, fun t h => h ▸ Or.inl rfl⟩
theorem fl_M_149 : FL "TreeTonguesModel" 149 9 23 := ⟨_, _, cK9, by decide, mg 916 (by decide +kernel) (by decide +kernel), rfl, Or.inl rfl, fun t h => h ▸ Or.inl rfl⟩
theorem fl_M_152 : FL "TreeTonguesModel" 152 9 22 := ⟨_, _, cK9, by decide, mg 915 (by decide +kernel) (by decide +kernel), rfl, Or.inl rfl, fun t h => h ▸ Or.inl rfl⟩
theorem fl_M_167 : FL "TreeTonguesModel" 167 9 24 := ⟨_, _, cK9, by decide, mg 917 (by decide +kernel) (by decide +kernel), rfl, Or.inl rfl, fun t h => h ▸ Or.inl rfl⟩
theorem fl_M_170 : FL "TreeTonguesModel" 170 9 20 := ⟨_, _, cK9, by decide, mg 913 (by decide +kernel) (by decide +kernel), rfl, Or.inl rfl, fun t h => h ▸ Or.inl rfl⟩
theorem fl_M_185 : FL "TreeTonguesModel" 185 9 21 := ⟨_, _, cK9, by decide, mg 914 (by decide +kernel) (by decide +kernel), rfl, Or.inl rfl, fun t h => h ▸ Or.inl rfl⟩
theorem fl_M_192 : FL "TreeTonguesModel" 192 9 25 := ⟨_, _, cK9, by decide, mg 918 (by decide +kernel) (by decide +kernel), rfl, Or.inl rfl, fun t h => h ▸ Or.inl rfl⟩
theorem fl_M_201 : FL "TreeTonguesModel" 201 9 26 := ⟨_, _, cK9, by decide, mg 919 (by decide +kernel) (by decide +kernel), rfl, Or.inl rfl, fun t h => h ▸ Or.inl rfl⟩
theorem fl_M_219 : FL "TreeTonguesModel" 219 9 34 := ⟨_, _, cK9, by decide, mg 927 (by decide +kernel) (by decide +kernel), rfl, Or.inl rfl, fun t h => h ▸ Or.inl rfl⟩
theorem fl_M_222 : FL "TreeTonguesModel" 222 9 35 := ⟨_, _, cK9, by decide, mg 928 (by decide +kernel) (by decide +kernel), rfl, Or.inl rfl, fun t h => h ▸ Or.inl rfl⟩
theorem fl_M_225 : FL "TreeTonguesModel" 225 9 36 := ⟨_, _, cK9, by decide, mg 929 (by decide +kernel) (by decide +kernel), rfl, Or.inl rfl, fun t h => h ▸ Or.inl rfl⟩
theorem fl_M_228 : FL "TreeTonguesModel" 228 9 37 := ⟨_, _, cK9, by decide, mg 930 (by decide +kernel) (by decide +kernel), rfl, Or.inl rfl, fun t h => h ▸ Or.inl rfl⟩
theorem fl_M_231 : FL "TreeTonguesModel" 231 9 38 := ⟨_, _, cK9, by decide, mg 931 (by decide +kernel) (by decide +kernel), rfl, Or.inl rfl, fun t h => h ▸ Or.inl rfl⟩
theorem fl_M_318 : FL "TreeTonguesModel" 318 9 52 := ⟨_, _, cK9, by decide, mg 945 (by decide +kernel) (by decide +kernel), rfl, Or.inl rfl, fun t h => h ▸ Or.inr (Or.inl rfl)⟩
theorem fl_M_328 : FL "TreeTonguesModel" 328 9 53 := ⟨_, _, cK9, by decide, mg 946 (by decide +kernel) (by decide +kernel), rfl, Or.inl rfl, fun t h => h ▸ Or.inl rfl⟩
