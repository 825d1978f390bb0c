/-! TreeTonguesModel.<init>()V -/
noncomputable def D_M_init (a0 : Int) (M : Mem) : Option (Mem) := (ck M a0 9 54).bind fun _ => (na M 10 6).bind fun x7 => (pf x7.2 a0 9 54 1 x7.1).bind fun m9 => (na m9 10 120).bind fun x15 => (pf x15.2 a0 9 54 2 x15.1).bind fun m17 => (na m17 12 16).bind fun x23 => (pf x23.2 a0 9 54 5 x23.1).bind fun m25 => (na m25 10 16).bind fun x31 => (pf x31.2 a0 9 54 6 x31.1).bind fun m33 => (na m33 10 16).bind fun x39 => (pf x39.2 a0 9 54 7 x39.1).bind fun m41 => (na m41 10 16).bind fun x47 => (pf x47.2 a0 9 54 8 x47.1).bind fun m49 => (na m49 10 640).bind fun x56 => (pf x56.2 a0 9 54 9 x56.1).bind fun m58 => (na m58 10 640).bind fun x65 => (pf x65.2 a0 9 54 10 x65.1).bind fun m67 => (na m67 10 640).bind fun x74 => (pf x74.2 a0 9 54 11 x74.1).bind fun m76 => (na m76 10 640).bind fun x83 => (pf x83.2 a0 9 54 12 x83.1).bind fun m85 => (na m85 10 19).bind fun x91 => (pf x91.2 a0 9 54 13 x91.1).bind fun m93 => (na m93 10 4104).bind fun x100 => (pf x100.2 a0 9 54 14 x100.1).bind fun m102 => (na m102 12 114).bind fun x108 => (pf x108.2 a0 9 54 15 x108.1).bind fun m110 => (na m110 10 114).bind fun x116 => (pf x116.2 a0 9 54 16 x116.1).bind fun m118 => (na m118 10 114).bind fun x124 => (pf x124.2 a0 9 54 17 x124.1).bind fun m126 => (na m126 10 114).bind fun x132 => (pf x132.2 a0 9 54 18 x132.1).bind fun m134 => (na m134 10 114).bind fun x140 => (pf x140.2 a0 9 54 19 x140.1).bind fun m142 => (na m142 10 512).bind fun x149 => (pf x149.2 a0 9 54 27 x149.1).bind fun m151 => (na m151 10 512).bind fun x158 => (pf x158.2 a0 9 54 28 x158.1).bind fun m160 => (na m160 10 512).bind fun x167 => (pf x167.2 a0 9 54 29 x167.1).bind fun m169 => (na m169 10 512).bind fun x176 => (pf x176.2 a0 9 54 30 x176.1).bind fun m178 => (na m178 10 512).bind fun x185 => (pf x185.2 a0 9 54 31 x185.1).bind fun m187 => (na m187 10 1572864).bind fun x193 => (pf x193.2 a0 9 54 32 x193.1).bind fun m195 => (na m195 10 6).bind fun x201 => (pf x201.2 a0 9 54 33 x201.1).bind fun m203 => (na m203 10 6).bind fun x209 => (pf x209.2 a0 9 54 39 x209.1).bind fun m211 => (na m211 12 6).bind fun x217 => (pf x217.2 a0 9 54 40 x217.1).bind fun m219 => (na m219 10 216).bind fun x226 => (pf x226.2 a0 9 54 41 x226.1).bind fun m228 => (na m228 10 120).bind fun x234 => (pf x234.2 a0 9 54 42 x234.1).bind fun m236 => (na m236 10 120).bind fun x242 => (pf x242.2 a0 9 54 43 x242.1).bind fun m244 => (na m244 10 120).bind fun x250 => (pf x250.2 a0 9 54 44 x250.1).bind fun m252 => (na m252 11 246).bind fun x259 => (pf x259.2 a0 9 54 45 x259.1).bind fun m261 => (na m261 11 726).bind fun x268 => (pf x268.2 a0 9 54 46 x268.1).bind fun m270 => (na m270 10 42).bind fun x276 => (pf x276.2 a0 9 54 47 x276.1).bind fun m278 => (na m278 10 42).bind fun x284 => (pf x284.2 a0 9 54 48 x284.1).bind fun m286 => (na m286 10 42).bind fun x292 => (pf x292.2 a0 9 54 49 x292.1).bind fun m294 => (na m294 10 42).bind fun x300 => (pf x300.2 a0 9 54 50 x300.1).bind fun m302 => (na m302 10 42).bind fun x308 => (pf x308.2 a0 9 54 51 x308.1).bind fun m310 => some m310
theorem c_M_init {d : Nat} (hd : 1 ≤ d) {a0 : Int} {M : Mem} {x : Mem} (h : D_M_init a0 M = some x) : Ct d Y_M_init [(2, a0)] M (none, x) 37 1584643 := by
  refine ct_of yk_M_init (Nat.le_of_ble_eq_true rfl) ?_
  rw [D_M_init] at h
  show Rn Y_M_init d 37 1584643 0 0 (none, x) 0 [(0, (2, a0))] [] M
  refine r_aload_n (pc := 0) 0 (n := 0) (by decide +kernel) rfl rfl ?_
  obtain ⟨_, q1c, h⟩ := bnd h
  refine r_objinit (pc := 1) (i := 1) (by decide +kernel) (mg 891 (by decide +kernel) (by decide +kernel)) (by decide) q1c (by omega) (Nat.le_of_ble_eq_true rfl) ?_
  refine r_aload_n (pc := 4) 0 (n := 0) (by decide +kernel) rfl rfl ?_
  refine r_bipush (pc := 5) (z := 6) (by decide +kernel) ⟨by decide, by decide⟩ ?_
  obtain ⟨x7, q7, h⟩ := bnd h
  refine r_newa (pc := 7) (kd := 10) (ty := .int) (sl' := 6) (by decide) (by decide +kernel) q7 (Nat.le_of_ble_eq_true rfl) rfl (Nat.le_of_ble_eq_true rfl) ?_
  obtain ⟨m9, q9, h⟩ := bnd h
  refine r_put (pc := 9) (by decide +kernel) fl_M_7 (by decide) (Or.inl rfl) rfl (fun h3 => by cases h3) q9 ?_
  refine r_aload_n (pc := 12) 0 (n := 0) (by decide +kernel) rfl rfl ?_
  refine r_bipush (pc := 13) (z := 120) (by decide +kernel) ⟨by decide, by decide⟩ ?_
  obtain ⟨x15, q15, h⟩ := bnd h
  refine r_newa (pc := 15) (kd := 10) (ty := .int) (sl' := 120) (by decide) (by decide +kernel) q15 (Nat.le_of_ble_eq_true rfl) rfl (Nat.le_of_ble_eq_true rfl) ?_
  obtain ⟨m17, q17, h⟩ := bnd h
  refine r_put (pc := 17) (by decide +kernel) fl_M_13 (by decide) (Or.inl rfl) rfl (fun h3 => by cases h3) q17 ?_
  refine r_aload_n (pc := 20) 0 (n := 0) (by decide +kernel) rfl rfl ?_
  refine r_bipush (pc := 21) (z := 16) (by decide +kernel) ⟨by decide, by decide⟩ ?_
  obtain ⟨x23, q23, h⟩ := bnd h
  refine r_newa (pc := 23) (kd := 12) (ty := .boolean) (sl' := 16) (by decide) (by decide +kernel) q23 (Nat.le_of_ble_eq_true rfl) rfl (Nat.le_of_ble_eq_true rfl) ?_
  obtain ⟨m25, q25, h⟩ := bnd h
  refine r_put (pc := 25) (by decide +kernel) fl_M_16 (by decide) (Or.inl rfl) rfl (fun h3 => by cases h3) q25 ?_
  refine r_aload_n (pc := 28) 0 (n := 0) (by decide +kernel) rfl rfl ?_
  refine r_bipush (pc := 29) (z := 16) (by decide +kernel) ⟨by decide, by decide⟩ ?_
  obtain ⟨x31, q31, h⟩ := bnd h
  refine r_newa (pc := 31) (kd := 10) (ty := .int) (sl' := 16) (by decide) (by decide +kernel) q31 (Nat.le_of_ble_eq_true rfl) rfl (Nat.le_of_ble_eq_true rfl) ?_
  obtain ⟨m33, q33, h⟩ := bnd h
  refine r_put (pc := 33) (by decide +kernel) fl_M_20 (by decide) (Or.inl rfl) rfl (fun h3 => by cases h3) q33 ?_
  refine r_aload_n (pc := 36) 0 (n := 0) (by decide +kernel) rfl rfl ?_
  refine r_bipush (pc := 37) (z := 16) (by decide +kernel) ⟨by decide, by decide⟩ ?_
  obtain ⟨x39, q39, h⟩ := bnd h
  refine r_newa (pc := 39) (kd := 10) (ty := .int) (sl' := 16) (by decide) (by decide +kernel) q39 (Nat.le_of_ble_eq_true rfl) rfl (Nat.le_of_ble_eq_true rfl) ?_
  obtain ⟨m41, q41, h⟩ := bnd h
  refine r_put (pc := 41) (by decide +kernel) fl_M_23 (by decide) (Or.inl rfl) rfl (fun h3 => by cases h3) q41 ?_
  refine r_aload_n (pc := 44) 0 (n := 0) (by decide +kernel) rfl rfl ?_
  refine r_bipush (pc := 45) (z := 16) (by decide +kernel) ⟨by decide, by decide⟩ ?_
  obtain ⟨x47, q47, h⟩ := bnd h
  refine r_newa (pc := 47) (kd := 10) (ty := .int) (sl' := 16) (by decide) (by decide +kernel) q47 (Nat.le_of_ble_eq_true rfl) rfl (Nat.le_of_ble_eq_true rfl) ?_
  obtain ⟨m49, q49, h⟩ := bnd h
  refine r_put (pc := 49) (by decide +kernel) fl_M_26 (by decide) (Or.inl rfl) rfl (fun h3 => by cases h3) q49 ?_
  refine r_aload_n (pc := 52) 0 (n := 0) (by decide +kernel) rfl rfl ?_
  refine r_sipush (pc := 53) (z := 640) (by decide +kernel) ⟨by decide, by decide⟩ ?_
  obtain ⟨x56, q56, h⟩ := bnd h
  refine r_newa (pc := 56) (kd := 10) (ty := .int) (sl' := 640) (by decide) (by decide +kernel) q56 (Nat.le_of_ble_eq_true rfl) rfl (Nat.le_of_ble_eq_true rfl) ?_
  obtain ⟨m58, q58, h⟩ := bnd h
  refine r_put (pc := 58) (by decide +kernel) fl_M_29 (by decide) (Or.inl rfl) rfl (fun h3 => by cases h3) q58 ?_
  refine r_aload_n (pc := 61) 0 (n := 0) (by decide +kernel) rfl rfl ?_
  refine r_sipush (pc := 62) (z := 640) (by decide +kernel) ⟨by decide, by decide⟩ ?_
  obtain ⟨x65, q65, h⟩ := bnd h
  refine r_newa (pc := 65) (kd := 10) (ty := .int) (sl' := 640) (by decide) (by decide +kernel) q65 (Nat.le_of_ble_eq_true rfl) rfl (Nat.le_of_ble_eq_true rfl) ?_
  obtain ⟨m67, q67, h⟩ := bnd h
  refine r_put (pc := 67) (by decide +kernel) fl_M_32 (by decide) (Or.inl rfl) rfl (fun h3 => by cases h3) q67 ?_
  refine r_aload_n (pc := 70) 0 (n := 0) (by decide +kernel) rfl rfl ?_
  refine r_sipush (pc := 71) (z := 640) (by decide +kernel) ⟨by decide, by decide⟩ ?_
  obtain ⟨x74, q74, h⟩ := bnd h
  refine r_newa (pc := 74) (kd := 10) (ty := .int) (sl' := 640) (by decide) (by decide +kernel) q74 (Nat.le_of_ble_eq_true rfl) rfl (Nat.le_of_ble_eq_true rfl) ?_
  obtain ⟨m76, q76, h⟩ := bnd h
  refine r_put (pc := 76) (by decide +kernel) fl_M_35 (by decide) (Or.inl rfl) rfl (fun h3 => by cases h3) q76 ?_
  refine r_aload_n (pc := 79) 0 (n := 0) (by decide +kernel) rfl rfl ?_
  refine r_sipush (pc := 80) (z := 640) (by decide +kernel) ⟨by decide, by decide⟩ ?_
  obtain ⟨x83, q83, h⟩ := bnd h
  refine r_newa (pc := 83) (kd := 10) (ty := .int) (sl' := 640) (by decide) (by decide +kernel) q83 (Nat.le_of_ble_eq_true rfl) rfl (Nat.le_of_ble_eq_true rfl) ?_
  obtain ⟨m85, q85, h⟩ := bnd h
  refine r_put (pc := 85) (by decide +kernel) fl_M_38 (by decide) (Or.inl rfl) rfl (fun h3 => by cases h3) q85 ?_
  refine r_aload_n (pc := 88) 0 (n := 0) (by decide +kernel) rfl rfl ?_
  refine r_bipush (pc := 89) (z := 19) (by decide +kernel) ⟨by decide, by decide⟩ ?_
  obtain ⟨x91, q91, h⟩ := bnd h
  refine r_newa (pc := 91) (kd := 10) (ty := .int) (sl' := 19) (by decide) (by decide +kernel) q91 (Nat.le_of_ble_eq_true rfl) rfl (Nat.le_of_ble_eq_true rfl) ?_
  obtain ⟨m93, q93, h⟩ := bnd h
  refine r_put (pc := 93) (by decide +kernel) fl_M_41 (by decide) (Or.inl rfl) rfl (fun h3 => by cases h3) q93 ?_
  refine r_aload_n (pc := 96) 0 (n := 0) (by decide +kernel) rfl rfl ?_
  refine r_sipush (pc := 97) (z := 4104) (by decide +kernel) ⟨by decide, by decide⟩ ?_
  obtain ⟨x100, q100, h⟩ := bnd h
  refine r_newa (pc := 100) (kd := 10) (ty := .int) (sl' := 4104) (by decide) (by decide +kernel) q100 (Nat.le_of_ble_eq_true rfl) rfl (Nat.le_of_ble_eq_true rfl) ?_
  obtain ⟨m102, q102, h⟩ := bnd h
  refine r_put (pc := 102) (by decide +kernel) fl_M_44 (by decide) (Or.inl rfl) rfl (fun h3 => by cases h3) q102 ?_
  refine r_aload_n (pc := 105) 0 (n := 0) (by decide +kernel) rfl rfl ?_
  refine r_bipush (pc := 106) (z := 114) (by decide +kernel) ⟨by decide, by decide⟩ ?_
  obtain ⟨x108, q108, h⟩ := bnd h
  refine r_newa (pc := 108) (kd := 12) (ty := .boolean) (sl' := 114) (by decide) (by decide +kernel) q108 (Nat.le_of_ble_eq_true rfl) rfl (Nat.le_of_ble_eq_true rfl) ?_
  obtain ⟨m110, q110, h⟩ := bnd h
  refine r_put (pc := 110) (by decide +kernel) fl_M_47 (by decide) (Or.inl rfl) rfl (fun h3 => by cases h3) q110 ?_
  refine r_aload_n (pc := 113) 0 (n := 0) (by decide +kernel) rfl rfl ?_
  refine r_bipush (pc := 114) (z := 114) (by decide +kernel) ⟨by decide, by decide⟩ ?_
  obtain ⟨x116, q116, h⟩ := bnd h
  refine r_newa (pc := 116) (kd := 10) (ty := .int) (sl' := 114) (by decide) (by decide +kernel) q116 (Nat.le_of_ble_eq_true rfl) rfl (Nat.le_of_ble_eq_true rfl) ?_
  obtain ⟨m118, q118, h⟩ := bnd h
  refine r_put (pc := 118) (by decide +kernel) fl_M_50 (by decide) (Or.inl rfl) rfl (fun h3 => by cases h3) q118 ?_
  refine r_aload_n (pc := 121) 0 (n := 0) (by decide +kernel) rfl rfl ?_
  refine r_bipush (pc := 122) (z := 114) (by decide +kernel) ⟨by decide, by decide⟩ ?_
  obtain ⟨x124, q124, h⟩ := bnd h
  refine r_newa (pc := 124) (kd := 10) (ty := .int) (sl' := 114) (by decide) (by decide +kernel) q124 (Nat.le_of_ble_eq_true rfl) rfl (Nat.le_of_ble_eq_true rfl) ?_
  obtain ⟨m126, q126, h⟩ := bnd h
  refine r_put (pc := 126) (by decide +kernel) fl_M_53 (by decide) (Or.inl rfl) rfl (fun h3 => by cases h3) q126 ?_
  refine r_aload_n (pc := 129) 0 (n := 0) (by decide +kernel) rfl rfl ?_
  refine r_bipush (pc := 130) (z := 114) (by decide +kernel) ⟨by decide, by decide⟩ ?_
  obtain ⟨x132, q132, h⟩ := bnd h
  refine r_newa (pc := 132) (kd := 10) (ty := .int) (sl' := 114) (by decide) (by decide +kernel) q132 (Nat.le_of_ble_eq_true rfl) rfl (Nat.le_of_ble_eq_true rfl) ?_
  obtain ⟨m134, q134, h⟩ := bnd h
  refine r_put (pc := 134) (by decide +kernel) fl_M_56 (by decide) (Or.inl rfl) rfl (fun h3 => by cases h3) q134 ?_
  refine r_aload_n (pc := 137) 0 (n := 0) (by decide +kernel) rfl rfl ?_
  refine r_bipush (pc := 138) (z := 114) (by decide +kernel) ⟨by decide, by decide⟩ ?_
  obtain ⟨x140, q140, h⟩ := bnd h
  refine r_newa (pc := 140) (kd := 10) (ty := .int) (sl' := 114) (by decide) (by decide +kernel) q140 (Nat.le_of_ble_eq_true rfl) rfl (Nat.le_of_ble_eq_true rfl) ?_
  obtain ⟨m142, q142, h⟩ := bnd h
  refine r_put (pc := 142) (by decide +kernel) fl_M_59 (by decide) (Or.inl rfl) rfl (fun h3 => by cases h3) q142 ?_
  refine r_aload_n (pc := 145) 0 (n := 0) (by decide +kernel) rfl rfl ?_
  refine r_sipush (pc := 146) (z := 512) (by decide +kernel) ⟨by decide, by decide⟩ ?_
  obtain ⟨x149, q149, h⟩ := bnd h
  refine r_newa (pc := 149) (kd := 10) (ty := .int) (sl' := 512) (by decide) (by decide +kernel) q149 (Nat.le_of_ble_eq_true rfl) rfl (Nat.le_of_ble_eq_true rfl) ?_
  obtain ⟨m151, q151, h⟩ := bnd h
  refine r_put (pc := 151) (by decide +kernel) fl_M_62 (by decide) (Or.inl rfl) rfl (fun h3 => by cases h3) q151 ?_
  refine r_aload_n (pc := 154) 0 (n := 0) (by decide +kernel) rfl rfl ?_
  refine r_sipush (pc := 155) (z := 512) (by decide +kernel) ⟨by decide, by decide⟩ ?_
  obtain ⟨x158, q158, h⟩ := bnd h
  refine r_newa (pc := 158) (kd := 10) (ty := .int) (sl' := 512) (by decide) (by decide +kernel) q158 (Nat.le_of_ble_eq_true rfl) rfl (Nat.le_of_ble_eq_true rfl) ?_
  obtain ⟨m160, q160, h⟩ := bnd h
  refine r_put (pc := 160) (by decide +kernel) fl_M_65 (by decide) (Or.inl rfl) rfl (fun h3 => by cases h3) q160 ?_
  refine r_aload_n (pc := 163) 0 (n := 0) (by decide +kernel) rfl rfl ?_
  refine r_sipush (pc := 164) (z := 512) (by decide +kernel) ⟨by decide, by decide⟩ ?_
  obtain ⟨x167, q167, h⟩ := bnd h
  refine r_newa (pc := 167) (kd := 10) (ty := .int) (sl' := 512) (by decide) (by decide +kernel) q167 (Nat.le_of_ble_eq_true rfl) rfl (Nat.le_of_ble_eq_true rfl) ?_
  obtain ⟨m169, q169, h⟩ := bnd h
  refine r_put (pc := 169) (by decide +kernel) fl_M_68 (by decide) (Or.inl rfl) rfl (fun h3 => by cases h3) q169 ?_
  refine r_aload_n (pc := 172) 0 (n := 0) (by decide +kernel) rfl rfl ?_
  refine r_sipush (pc := 173) (z := 512) (by decide +kernel) ⟨by decide, by decide⟩ ?_
  obtain ⟨x176, q176, h⟩ := bnd h
  refine r_newa (pc := 176) (kd := 10) (ty := .int) (sl' := 512) (by decide) (by decide +kernel) q176 (Nat.le_of_ble_eq_true rfl) rfl (Nat.le_of_ble_eq_true rfl) ?_
  obtain ⟨m178, q178, h⟩ := bnd h
  refine r_put (pc := 178) (by decide +kernel) fl_M_71 (by decide) (Or.inl rfl) rfl (fun h3 => by cases h3) q178 ?_
  refine r_aload_n (pc := 181) 0 (n := 0) (by decide +kernel) rfl rfl ?_
  refine r_sipush (pc := 182) (z := 512) (by decide +kernel) ⟨by decide, by decide⟩ ?_
  obtain ⟨x185, q185, h⟩ := bnd h
  refine r_newa (pc := 185) (kd := 10) (ty := .int) (sl' := 512) (by decide) (by decide +kernel) q185 (Nat.le_of_ble_eq_true rfl) rfl (Nat.le_of_ble_eq_true rfl) ?_
  obtain ⟨m187, q187, h⟩ := bnd h
  refine r_put (pc := 187) (by decide +kernel) fl_M_74 (by decide) (Or.inl rfl) rfl (fun h3 => by cases h3) q187 ?_
  refine r_aload_n (pc := 190) 0 (n := 0) (by decide +kernel) rfl rfl ?_
  refine r_ldc (pc := 191) (i := 77) (z := 1572864) (by decide +kernel) (mg 892 (by decide +kernel) (by decide +kernel)) ⟨by decide, by decide⟩ ?_
  obtain ⟨x193, q193, h⟩ := bnd h
  refine r_newa (pc := 193) (kd := 10) (ty := .int) (sl' := 1572864) (by decide) (by decide +kernel) q193 (Nat.le_of_ble_eq_true rfl) rfl (Nat.le_of_ble_eq_true rfl) ?_
  obtain ⟨m195, q195, h⟩ := bnd h
  refine r_put (pc := 195) (by decide +kernel) fl_M_78 (by decide) (Or.inl rfl) rfl (fun h3 => by cases h3) q195 ?_
  refine r_aload_n (pc := 198) 0 (n := 0) (by decide +kernel) rfl rfl ?_
  refine r_bipush (pc := 199) (z := 6) (by decide +kernel) ⟨by decide, by decide⟩ ?_
  obtain ⟨x201, q201, h⟩ := bnd h
  refine r_newa (pc := 201) (kd := 10) (ty := .int) (sl' := 6) (by decide) (by decide +kernel) q201 (Nat.le_of_ble_eq_true rfl) rfl (Nat.le_of_ble_eq_true rfl) ?_
  obtain ⟨m203, q203, h⟩ := bnd h
  refine r_put (pc := 203) (by decide +kernel) fl_M_81 (by decide) (Or.inl rfl) rfl (fun h3 => by cases h3) q203 ?_
  refine r_aload_n (pc := 206) 0 (n := 0) (by decide +kernel) rfl rfl ?_
  refine r_bipush (pc := 207) (z := 6) (by decide +kernel) ⟨by decide, by decide⟩ ?_
  obtain ⟨x209, q209, h⟩ := bnd h
  refine r_newa (pc := 209) (kd := 10) (ty := .int) (sl' := 6) (by decide) (by decide +kernel) q209 (Nat.le_of_ble_eq_true rfl) rfl (Nat.le_of_ble_eq_true rfl) ?_
  obtain ⟨m211, q211, h⟩ := bnd h
  refine r_put (pc := 211) (by decide +kernel) fl_M_84 (by decide) (Or.inl rfl) rfl (fun h3 => by cases h3) q211 ?_
  refine r_aload_n (pc := 214) 0 (n := 0) (by decide +kernel) rfl rfl ?_
  refine r_bipush (pc := 215) (z := 6) (by decide +kernel) ⟨by decide, by decide⟩ ?_
  obtain ⟨x217, q217, h⟩ := bnd h
  refine r_newa (pc := 217) (kd := 12) (ty := .boolean) (sl' := 6) (by decide) (by decide +kernel) q217 (Nat.le_of_ble_eq_true rfl) rfl (Nat.le_of_ble_eq_true rfl) ?_
  obtain ⟨m219, q219, h⟩ := bnd h
  refine r_put (pc := 219) (by decide +kernel) fl_M_87 (by decide) (Or.inl rfl) rfl (fun h3 => by cases h3) q219 ?_
  refine r_aload_n (pc := 222) 0 (n := 0) (by decide +kernel) rfl rfl ?_
  refine r_sipush (pc := 223) (z := 216) (by decide +kernel) ⟨by decide, by decide⟩ ?_
  obtain ⟨x226, q226, h⟩ := bnd h
  refine r_newa (pc := 226) (kd := 10) (ty := .int) (sl' := 216) (by decide) (by decide +kernel) q226 (Nat.le_of_ble_eq_true rfl) rfl (Nat.le_of_ble_eq_true rfl) ?_
  obtain ⟨m228, q228, h⟩ := bnd h
  refine r_put (pc := 228) (by decide +kernel) fl_M_90 (by decide) (Or.inl rfl) rfl (fun h3 => by cases h3) q228 ?_
  refine r_aload_n (pc := 231) 0 (n := 0) (by decide +kernel) rfl rfl ?_
  refine r_bipush (pc := 232) (z := 120) (by decide +kernel) ⟨by decide, by decide⟩ ?_
  obtain ⟨x234, q234, h⟩ := bnd h
  refine r_newa (pc := 234) (kd := 10) (ty := .int) (sl' := 120) (by decide) (by decide +kernel) q234 (Nat.le_of_ble_eq_true rfl) rfl (Nat.le_of_ble_eq_true rfl) ?_
  obtain ⟨m236, q236, h⟩ := bnd h
  refine r_put (pc := 236) (by decide +kernel) fl_M_93 (by decide) (Or.inl rfl) rfl (fun h3 => by cases h3) q236 ?_
  refine r_aload_n (pc := 239) 0 (n := 0) (by decide +kernel) rfl rfl ?_
  refine r_bipush (pc := 240) (z := 120) (by decide +kernel) ⟨by decide, by decide⟩ ?_
  obtain ⟨x242, q242, h⟩ := bnd h
  refine r_newa (pc := 242) (kd := 10) (ty := .int) (sl' := 120) (by decide) (by decide +kernel) q242 (Nat.le_of_ble_eq_true rfl) rfl (Nat.le_of_ble_eq_true rfl) ?_
  obtain ⟨m244, q244, h⟩ := bnd h
  refine r_put (pc := 244) (by decide +kernel) fl_M_96 (by decide) (Or.inl rfl) rfl (fun h3 => by cases h3) q244 ?_
  refine r_aload_n (pc := 247) 0 (n := 0) (by decide +kernel) rfl rfl ?_
  refine r_bipush (pc := 248) (z := 120) (by decide +kernel) ⟨by decide, by decide⟩ ?_
  obtain ⟨x250, q250, h⟩ := bnd h
  refine r_newa (pc := 250) (kd := 10) (ty := .int) (sl' := 120) (by decide) (by decide +kernel) q250 (Nat.le_of_ble_eq_true rfl) rfl (Nat.le_of_ble_eq_true rfl) ?_
  obtain ⟨m252, q252, h⟩ := bnd h
  refine r_put (pc := 252) (by decide +kernel) fl_M_99 (by decide) (Or.inl rfl) rfl (fun h3 => by cases h3) q252 ?_
  refine r_aload_n (pc := 255) 0 (n := 0) (by decide +kernel) rfl rfl ?_
  refine r_sipush (pc := 256) (z := 246) (by decide +kernel) ⟨by decide, by decide⟩ ?_
  obtain ⟨x259, q259, h⟩ := bnd h
  refine r_newa (pc := 259) (kd := 11) (ty := .long) (sl' := 246) (by decide) (by decide +kernel) q259 (Nat.le_of_ble_eq_true rfl) rfl (Nat.le_of_ble_eq_true rfl) ?_
  obtain ⟨m261, q261, h⟩ := bnd h
  refine r_put (pc := 261) (by decide +kernel) fl_M_102 (by decide) (Or.inl rfl) rfl (fun h3 => by cases h3) q261 ?_
  refine r_aload_n (pc := 264) 0 (n := 0) (by decide +kernel) rfl rfl ?_
  refine r_sipush (pc := 265) (z := 726) (by decide +kernel) ⟨by decide, by decide⟩ ?_
  obtain ⟨x268, q268, h⟩ := bnd h
  refine r_newa (pc := 268) (kd := 11) (ty := .long) (sl' := 726) (by decide) (by decide +kernel) q268 (Nat.le_of_ble_eq_true rfl) rfl (Nat.le_of_ble_eq_true rfl) ?_
  obtain ⟨m270, q270, h⟩ := bnd h
  refine r_put (pc := 270) (by decide +kernel) fl_M_106 (by decide) (Or.inl rfl) rfl (fun h3 => by cases h3) q270 ?_
  refine r_aload_n (pc := 273) 0 (n := 0) (by decide +kernel) rfl rfl ?_
  refine r_bipush (pc := 274) (z := 42) (by decide +kernel) ⟨by decide, by decide⟩ ?_
  obtain ⟨x276, q276, h⟩ := bnd h
  refine r_newa (pc := 276) (kd := 10) (ty := .int) (sl' := 42) (by decide) (by decide +kernel) q276 (Nat.le_of_ble_eq_true rfl) rfl (Nat.le_of_ble_eq_true rfl) ?_
  obtain ⟨m278, q278, h⟩ := bnd h
  refine r_put (pc := 278) (by decide +kernel) fl_M_109 (by decide) (Or.inl rfl) rfl (fun h3 => by cases h3) q278 ?_
  refine r_aload_n (pc := 281) 0 (n := 0) (by decide +kernel) rfl rfl ?_
  refine r_bipush (pc := 282) (z := 42) (by decide +kernel) ⟨by decide, by decide⟩ ?_
  obtain ⟨x284, q284, h⟩ := bnd h
  refine r_newa (pc := 284) (kd := 10) (ty := .int) (sl' := 42) (by decide) (by decide +kernel) q284 (Nat.le_of_ble_eq_true rfl) rfl (Nat.le_of_ble_eq_true rfl) ?_
  obtain ⟨m286, q286, h⟩ := bnd h
  refine r_put (pc := 286) (by decide +kernel) fl_M_112 (by decide) (Or.inl rfl) rfl (fun h3 => by cases h3) q286 ?_
  refine r_aload_n (pc := 289) 0 (n := 0) (by decide +kernel) rfl rfl ?_
  refine r_bipush (pc := 290) (z := 42) (by decide +kernel) ⟨by decide, by decide⟩ ?_
  obtain ⟨x292, q292, h⟩ := bnd h
  refine r_newa (pc := 292) (kd := 10) (ty := .int) (sl' := 42) (by decide) (by decide +kernel) q292 (Nat.le_of_ble_eq_true rfl) rfl (Nat.le_of_ble_eq_true rfl) ?_
  obtain ⟨m294, q294, h⟩ := bnd h
  refine r_put (pc := 294) (by decide +kernel) fl_M_115 (by decide) (Or.inl rfl) rfl (fun h3 => by cases h3) q294 ?_
  refine r_aload_n (pc := 297) 0 (n := 0) (by decide +kernel) rfl rfl ?_
  refine r_bipush (pc := 298) (z := 42) (by decide +kernel) ⟨by decide, by decide⟩ ?_
  obtain ⟨x300, q300, h⟩ := bnd h
  refine r_newa (pc := 300) (kd := 10) (ty := .int) (sl' := 42) (by decide) (by decide +kernel) q300 (Nat.le_of_ble_eq_true rfl) rfl (Nat.le_of_ble_eq_true rfl) ?_
  obtain ⟨m302, q302, h⟩ := bnd h
  refine r_put (pc := 302) (by decide +kernel) fl_M_118 (by decide) (Or.inl rfl) rfl (fun h3 => by cases h3) q302 ?_
  refine r_aload_n (pc := 305) 0 (n := 0) (by decide +kernel) rfl rfl ?_
  refine r_bipush (pc := 306) (z := 42) (by decide +kernel) ⟨by decide, by decide⟩ ?_
  obtain ⟨x308, q308, h⟩ := bnd h
  refine r_newa (pc := 308) (kd := 10) (ty := .int) (sl' := 42) (by decide) (by decide +kernel) q308 (Nat.le_of_ble_eq_true rfl) rfl (Nat.le_of_ble_eq_true rfl) ?_
  obtain ⟨m310, q310, h⟩ := bnd h
  refine r_put (pc := 310) (by decide +kernel) fl_M_121 (by decide) (Or.inl rfl) rfl (fun h3 => by cases h3) q310 ?_
  obtain rfl := Option.some.inj h
  exact r_ret (pc := 313) (r := none) (by decide +kernel) rfl trivial (Nat.le_of_ble_eq_true rfl) (Nat.le_of_ble_eq_true rfl)

/-! TreeTonguesModel.in(JJJ)Z -/
noncomputable def D_M_in (a0 a1 a2 : Int) (M : Mem) : Option (Int × Mem) := if (lc a0 a1) < 0 then (some (0, M)) else (if 0 < (lc a0 a2) then (some (0, M)) else (some (1, M)))
theorem c_M_in {d : Nat} (hd : 1 ≤ d) {a0 a1 a2 : Int} {M : Mem} {x : Int × Mem} (h : D_M_in a0 a1 a2 M = some x) : Ct d Y_M_in [(1, a0), (1, a1), (1, a2)] M (some (0, x.1), x.2) 0 0 := by
  refine ct_of yk_M_in (Nat.le_of_ble_eq_true rfl) ?_
  rw [D_M_in] at h
  show Rn Y_M_in d 0 0 0 0 (some (0, x.1), x.2) 0 [(0, (1, a0)), (2, (1, a1)), (4, (1, a2))] [] M
  refine r_lload_n (pc := 0) 0 (n := 0) (by decide +kernel) rfl rfl ?_
  refine r_lload_n (pc := 1) 1 (n := 2) (by decide +kernel) rfl rfl ?_
  refine r_lcmp (pc := 2) (by decide +kernel) ?_
  refine r_if_lt (pc := 3) (off := 14) (tgt := 17) (by decide +kernel) (by decide) (fun c3 => ?_) (fun c3 => ?_)
  · have h := ite_t c3 h
    refine r_iconst (pc := 17) (z := 0) (by decide +kernel) ⟨by decide, by decide⟩ ?_
    obtain rfl := Option.some.inj h
    exact r_ret (pc := 18) (r := some (0, 0)) (by decide +kernel) rfl (Or.inl rfl) (Nat.le_of_ble_eq_true rfl) (Nat.le_of_ble_eq_true rfl)
  · have h := ite_f c3 h
    refine r_lload_n (pc := 6) 0 (n := 0) (by decide +kernel) rfl rfl ?_
    refine r_lload (pc := 7) 2 (by decide +kernel) rfl ?_
    refine r_lcmp (pc := 9) (by decide +kernel) ?_
    refine r_if_gt (pc := 10) (off := 7) (tgt := 17) (by decide +kernel) (by decide) (fun c10 => ?_) (fun c10 => ?_)
    · have h := ite_t c10 h
      refine r_iconst (pc := 17) (z := 0) (by decide +kernel) ⟨by decide, by decide⟩ ?_
      obtain rfl := Option.some.inj h
      exact r_ret (pc := 18) (r := some (0, 0)) (by decide +kernel) rfl (Or.inl rfl) (Nat.le_of_ble_eq_true rfl) (Nat.le_of_ble_eq_true rfl)
    · have h := ite_f c10 h
      refine r_iconst (pc := 13) (z := 1) (by decide +kernel) ⟨by decide, by decide⟩ ?_
      refine r_goto (pc := 14) (off := 4) (tgt := 18) (by decide +kernel) (by decide) ?_
      obtain rfl := Option.some.inj h
      exact r_ret (pc := 18) (r := some (0, 1)) (by decide +kernel) rfl (Or.inr rfl) (Nat.le_of_ble_eq_true rfl) (Nat.le_of_ble_eq_true rfl)

/-! TreeTonguesModel.sign(I)I -/
noncomputable def D_M_sign (a0 a1 : Int) (M : Mem) : Option (Int × Mem) := (D_M_in a1 0 2 M).bind fun x6 => if x6.1 = 0 then (some ((-2), x6.2)) else ((gf x6.2 a0 9 54 4).bind fun g16 => if g16 ≤ 0 then ((gf x6.2 a0 9 54 0).bind fun g26 => if g26 = 6 then (some ((-4), x6.2)) else ((gf x6.2 a0 9 54 1).bind fun g38 => (gf x6.2 a0 9 54 0).bind fun g42 => (wt x6.2 10 g38 g42 a1).bind fun m46 => (gf m46 a0 9 54 0).bind fun g49 => (pf m46 a0 9 54 0 (wr (g49 + 1))).bind fun m54 => (gf m54 a0 9 54 0).bind fun g58 => some (wr (g58 - 1), m54))) else (some ((-3), x6.2)))
theorem c_M_sign {d : Nat} (hd : 2 ≤ d) {a0 a1 : Int} {M : Mem} {x : Int × Mem} (h : D_M_sign a0 a1 M = some x) : Ct d Y_M_sign [(2, a0), (0, a1)] M (some (0, x.1), x.2) 0 0 := by
  refine ct_of yk_M_sign (Nat.le_of_ble_eq_true rfl) ?_
  rw [D_M_sign] at h
  show Rn Y_M_sign d 0 0 0 0 (some (0, x.1), x.2) 0 [(0, (2, a0)), (1, (0, a1))] [] M
  refine r_iload_n (pc := 0) 1 (n := 1) (by decide +kernel) rfl rfl ?_
  refine r_i2l (pc := 1) (by decide +kernel) ?_
  refine r_lconst (pc := 2) (n := 0) (z := 0) (by decide +kernel) rfl ?_
  refine r_ldc2 (pc := 3) (i := 135) (z := 2) (by decide +kernel) (mg 1061 (by decide +kernel) (by decide +kernel)) ⟨by decide, by decide⟩ ?_
  obtain ⟨x6, q6, h⟩ := bnd h
  refine r_callS (pc := 6) (i := 128) (d2 := d - 1) (As := [(1, a1), (1, 0), (1, 2)]) (st := []) (st1 := [(1, 2), (1, 0), (1, a1)]) (by decide +kernel) yk_M_in ⟨ml_M_128, sk_M_in⟩ np_M_in rfl (by omega) (c_M_in (d := d - 1) (by omega) q6) (Nat.le_of_ble_eq_true rfl) (Nat.le_of_ble_eq_true rfl) (Nat.le_of_ble_eq_true rfl) rfl ?_
  show Rn _ d _ _ 0 0 _ 9 [(0, (2, a0)), (1, (0, a1))] [(0, x6.1)] x6.2
  refine r_if_ne (pc := 9) (off := 6) (tgt := 15) (by decide +kernel) (by decide) (fun c9 => ?_) (fun c9 => ?_)
  · have h := ite_f c9 h
    refine r_aload_n (pc := 15) 0 (n := 0) (by decide +kernel) rfl rfl ?_
    obtain ⟨g16, q16, h⟩ := bnd h
    refine r_get (pc := 16) (by decide +kernel) fl_M_132.r (by decide) rfl q16 ?_
    refine r_if_le (pc := 19) (off := 6) (tgt := 25) (by decide +kernel) (by decide) (fun c19 => ?_) (fun c19 => ?_)
    · have h := ite_t c19 h
      refine r_aload_n (pc := 25) 0 (n := 0) (by decide +kernel) rfl rfl ?_
      obtain ⟨g26, q26, h⟩ := bnd h
      refine r_get (pc := 26) (by decide +kernel) fl_M_124.r (by decide) rfl q26 ?_
      refine r_bipush (pc := 29) (z := 6) (by decide +kernel) ⟨by decide, by decide⟩ ?_
      refine r_icmp_ne (pc := 31) (off := 6) (tgt := 37) (by decide +kernel) (by decide) (fun c31 => ?_) (fun c31 => ?_)
      · have h := ite_f c31 h
        refine r_aload_n (pc := 37) 0 (n := 0) (by decide +kernel) rfl rfl ?_
        obtain ⟨g38, q38, h⟩ := bnd h
        refine r_get (pc := 38) (by decide +kernel) fl_M_7.r (by decide) rfl q38 ?_
        refine r_aload_n (pc := 41) 0 (n := 0) (by decide +kernel) rfl rfl ?_
        obtain ⟨g42, q42, h⟩ := bnd h
        refine r_get (pc := 42) (by decide +kernel) fl_M_124.r (by decide) rfl q42 ?_
        refine r_iload_n (pc := 45) 1 (n := 1) (by decide +kernel) rfl rfl ?_
        obtain ⟨m46, q46, h⟩ := bnd h
        refine r_iast (pc := 46) (by decide +kernel) q46 ?_
        refine r_aload_n (pc := 47) 0 (n := 0) (by decide +kernel) rfl rfl ?_
        refine r_dup (pc := 48) (by decide +kernel) rfl ?_
        obtain ⟨g49, q49, h⟩ := bnd h
        refine r_get (pc := 49) (by decide +kernel) fl_M_124.r (by decide) rfl q49 ?_
        refine r_iconst (pc := 52) (z := 1) (by decide +kernel) ⟨by decide, by decide⟩ ?_
        refine r_iadd (pc := 53) (by decide +kernel) ?_
        obtain ⟨m54, q54, h⟩ := bnd h
        refine r_put (pc := 54) (by decide +kernel) fl_M_124 (by decide) (Or.inr nf_9_0) rfl (fun h3 => by cases h3) q54 ?_
        refine r_aload_n (pc := 57) 0 (n := 0) (by decide +kernel) rfl rfl ?_
        obtain ⟨g58, q58, h⟩ := bnd h
        refine r_get (pc := 58) (by decide +kernel) fl_M_124.r (by decide) rfl q58 ?_
        refine r_iconst (pc := 61) (z := 1) (by decide +kernel) ⟨by decide, by decide⟩ ?_
        refine r_isub (pc := 62) (by decide +kernel) ?_
        obtain rfl := Option.some.inj h
        exact r_ret (pc := 63) (r := some (0, wr (g58 - 1))) (by decide +kernel) rfl trivial (Nat.le_of_ble_eq_true rfl) (Nat.le_of_ble_eq_true rfl)
      · have h := ite_t c31 h
        refine r_bipush (pc := 34) (z := (-4)) (by decide +kernel) ⟨by decide, by decide⟩ ?_
        obtain rfl := Option.some.inj h
        exact r_ret (pc := 36) (r := some (0, (-4))) (by decide +kernel) rfl trivial (Nat.le_of_ble_eq_true rfl) (Nat.le_of_ble_eq_true rfl)
    · have h := ite_f c19 h
      refine r_bipush (pc := 22) (z := (-3)) (by decide +kernel) ⟨by decide, by decide⟩ ?_
      obtain rfl := Option.some.inj h
      exact r_ret (pc := 24) (r := some (0, (-3))) (by decide +kernel) rfl trivial (Nat.le_of_ble_eq_true rfl) (Nat.le_of_ble_eq_true rfl)
  · have h := ite_t c9 h
    refine r_bipush (pc := 12) (z := (-2)) (by decide +kernel) ⟨by decide, by decide⟩ ?_
    obtain rfl := Option.some.inj h
    exact r_ret (pc := 14) (r := some (0, (-2))) (by decide +kernel) rfl trivial (Nat.le_of_ble_eq_true rfl) (Nat.le_of_ble_eq_true rfl)

/-! TreeTonguesModel.isSign(I)Z -/
noncomputable def D_M_isSign (a0 a1 : Int) (M : Mem) : Option (Int × Mem) := (gf M a0 9 54 0).bind fun g4 => (D_M_in a1 0 (wr (g4 - 1)) M).bind fun x10 => (bz x10.1).bind fun _ => some (x10.1, x10.2)
theorem c_M_isSign {d : Nat} (hd : 2 ≤ d) {a0 a1 : Int} {M : Mem} {x : Int × Mem} (h : D_M_isSign a0 a1 M = some x) : Ct d Y_M_isSign [(2, a0), (0, a1)] M (some (0, x.1), x.2) 0 0 := by
  refine ct_of yk_M_isSign (Nat.le_of_ble_eq_true rfl) ?_
  rw [D_M_isSign] at h
  show Rn Y_M_isSign d 0 0 0 0 (some (0, x.1), x.2) 0 [(0, (2, a0)), (1, (0, a1))] [] M
  refine r_iload_n (pc := 0) 1 (n := 1) (by decide +kernel) rfl rfl ?_
  refine r_i2l (pc := 1) (by decide +kernel) ?_
  refine r_lconst (pc := 2) (n := 0) (z := 0) (by decide +kernel) rfl ?_
  refine r_aload_n (pc := 3) 0 (n := 0) (by decide +kernel) rfl rfl ?_
  obtain ⟨g4, q4, h⟩ := bnd h
  refine r_get (pc := 4) (by decide +kernel) fl_M_124.r (by decide) rfl q4 ?_
  refine r_iconst (pc := 7) (z := 1) (by decide +kernel) ⟨by decide, by decide⟩ ?_
  refine r_isub (pc := 8) (by decide +kernel) ?_
  refine r_i2l (pc := 9) (by decide +kernel) ?_
  obtain ⟨x10, q10, h⟩ := bnd h
  refine r_callS (pc := 10) (i := 128) (d2 := d - 1) (As := [(1, a1), (1, 0), (1, wr (g4 - 1))]) (st := []) (st1 := [(1, wr (g4 - 1)), (1, 0), (1, a1)]) (by decide +kernel) yk_M_in ⟨ml_M_128, sk_M_in⟩ np_M_in rfl (by omega) (c_M_in (d := d - 1) (by omega) q10) (Nat.le_of_ble_eq_true rfl) (Nat.le_of_ble_eq_true rfl) (Nat.le_of_ble_eq_true rfl) rfl ?_
  show Rn _ d _ _ 0 0 _ 13 [(0, (2, a0)), (1, (0, a1))] [(0, x10.1)] x10.2
  obtain ⟨_, qz, h⟩ := bnd h
  obtain rfl := Option.some.inj h
  exact r_ret (pc := 13) (r := some (0, x10.1)) (by decide +kernel) rfl (bz_s qz) (Nat.le_of_ble_eq_true rfl) (Nat.le_of_ble_eq_true rfl)

/-! TreeTonguesModel.rank(I)I -/
noncomputable def D_M_rank (a0 a1 : Int) (M : Mem) : Option (Int × Mem) := (ck M a0 9 54).bind fun _ => (D_M_isSign a0 a1 M).bind fun x2 => if x2.1 = 0 then (some ((-2), x2.2)) else ((gf x2.2 a0 9 54 1).bind fun g9 => (rd x2.2 10 g9 a1).bind fun e13 => some (e13, x2.2))
theorem c_M_rank {d : Nat} (hd : 3 ≤ d) {a0 a1 : Int} {M : Mem} {x : Int × Mem} (h : D_M_rank a0 a1 M = some x) : Ct d Y_M_rank [(2, a0), (0, a1)] M (some (0, x.1), x.2) 0 0 := by
  refine ct_of yk_M_rank (Nat.le_of_ble_eq_true rfl) ?_
  rw [D_M_rank] at h
  show Rn Y_M_rank d 0 0 0 0 (some (0, x.1), x.2) 0 [(0, (2, a0)), (1, (0, a1))] [] M
  refine r_aload_n (pc := 0) 0 (n := 0) (by decide +kernel) rfl rfl ?_
  refine r_iload_n (pc := 1) 1 (n := 1) (by decide +kernel) rfl rfl ?_
  obtain ⟨_, q2c, h⟩ := bnd h
  obtain ⟨x2, q2, h⟩ := bnd h
  refine r_callV (pc := 2) (i := 137) (d2 := d - 1) (As := [(0, a1)]) (st := []) (st1 := [(0, a1), (2, a0)]) (by decide +kernel) yk_M_isSign (by decide) rfl ⟨ml_M_137, vk_M_isSign⟩ np_M_isSign rfl (by omega) q2c (c_M_isSign (d := d - 1) (by omega) q2) (Nat.le_of_ble_eq_true rfl) (Nat.le_of_ble_eq_true rfl) (Nat.le_of_ble_eq_true rfl) rfl ?_
  show Rn _ d _ _ 0 0 _ 5 [(0, (2, a0)), (1, (0, a1))] [(0, x2.1)] x2.2
  refine r_if_eq (pc := 5) (off := 12) (tgt := 17) (by decide +kernel) (by decide) (fun c5 => ?_) (fun c5 => ?_)
  · have h := ite_t c5 h
    refine r_bipush (pc := 17) (z := (-2)) (by decide +kernel) ⟨by decide, by decide⟩ ?_
    obtain rfl := Option.some.inj h
    exact r_ret (pc := 19) (r := some (0, (-2))) (by decide +kernel) rfl trivial (Nat.le_of_ble_eq_true rfl) (Nat.le_of_ble_eq_true rfl)
  · have h := ite_f c5 h
    refine r_aload_n (pc := 8) 0 (n := 0) (by decide +kernel) rfl rfl ?_
    obtain ⟨g9, q9, h⟩ := bnd h
    refine r_get (pc := 9) (by decide +kernel) fl_M_7.r (by decide) rfl q9 ?_
    refine r_iload_n (pc := 12) 1 (n := 1) (by decide +kernel) rfl rfl ?_
    obtain ⟨e13, q13, h⟩ := bnd h
    refine r_iald (pc := 13) (by decide +kernel) q13 ?_
    refine r_goto (pc := 14) (off := 5) (tgt := 19) (by decide +kernel) (by decide) ?_
    obtain rfl := Option.some.inj h
    exact r_ret (pc := 19) (r := some (0, e13)) (by decide +kernel) rfl trivial (Nat.le_of_ble_eq_true rfl) (Nat.le_of_ble_eq_true rfl)

/-! TreeTonguesModel.put(I)I -/
noncomputable def D_M_put (a0 a1 : Int) (M : Mem) : Option (Int × Mem) := (ck M a0 9 54).bind fun _ => (D_M_isSign a0 a1 M).bind fun x2 => if x2.1 = 0 then (some ((-2), x2.2)) else ((gf x2.2 a0 9 54 3).bind fun g12 => if g12 = 120 then (some ((-4), x2.2)) else ((gf x2.2 a0 9 54 2).bind fun g24 => (gf x2.2 a0 9 54 3).bind fun g28 => (wt x2.2 10 g24 g28 a1).bind fun m32 => (gf m32 a0 9 54 3).bind fun g35 => (pf m32 a0 9 54 3 (wr (g35 + 1))).bind fun m40 => (gf m40 a0 9 54 3).bind fun g44 => some (g44, m40)))
theorem c_M_put {d : Nat} (hd : 3 ≤ d) {a0 a1 : Int} {M : Mem} {x : Int × Mem} (h : D_M_put a0 a1 M = some x) : Ct d Y_M_put [(2, a0), (0, a1)] M (some (0, x.1), x.2) 0 0 := by
  refine ct_of yk_M_put (Nat.le_of_ble_eq_true rfl) ?_
  rw [D_M_put] at h
  show Rn Y_M_put d 0 0 0 0 (some (0, x.1), x.2) 0 [(0, (2, a0)), (1, (0, a1))] [] M
  refine r_aload_n (pc := 0) 0 (n := 0) (by decide +kernel) rfl rfl ?_
  refine r_iload_n (pc := 1) 1 (n := 1) (by decide +kernel) rfl rfl ?_
  obtain ⟨_, q2c, h⟩ := bnd h
  obtain ⟨x2, q2, h⟩ := bnd h
  refine r_callV (pc := 2) (i := 137) (d2 := d - 1) (As := [(0, a1)]) (st := []) (st1 := [(0, a1), (2, a0)]) (by decide +kernel) yk_M_isSign (by decide) rfl ⟨ml_M_137, vk_M_isSign⟩ np_M_isSign rfl (by omega) q2c (c_M_isSign (d := d - 1) (by omega) q2) (Nat.le_of_ble_eq_true rfl) (Nat.le_of_ble_eq_true rfl) (Nat.le_of_ble_eq_true rfl) rfl ?_
  show Rn _ d _ _ 0 0 _ 5 [(0, (2, a0)), (1, (0, a1))] [(0, x2.1)] x2.2
  refine r_if_ne (pc := 5) (off := 6) (tgt := 11) (by decide +kernel) (by decide) (fun c5 => ?_) (fun c5 => ?_)
  · have h := ite_f c5 h
    refine r_aload_n (pc := 11) 0 (n := 0) (by decide +kernel) rfl rfl ?_
    obtain ⟨g12, q12, h⟩ := bnd h
    refine r_get (pc := 12) (by decide +kernel) fl_M_141.r (by decide) rfl q12 ?_
    refine r_bipush (pc := 15) (z := 120) (by decide +kernel) ⟨by decide, by decide⟩ ?_
    refine r_icmp_ne (pc := 17) (off := 6) (tgt := 23) (by decide +kernel) (by decide) (fun c17 => ?_) (fun c17 => ?_)
    · have h := ite_f c17 h
      refine r_aload_n (pc := 23) 0 (n := 0) (by decide +kernel) rfl rfl ?_
      obtain ⟨g24, q24, h⟩ := bnd h
      refine r_get (pc := 24) (by decide +kernel) fl_M_13.r (by decide) rfl q24 ?_
      refine r_aload_n (pc := 27) 0 (n := 0) (by decide +kernel) rfl rfl ?_
      obtain ⟨g28, q28, h⟩ := bnd h
      refine r_get (pc := 28) (by decide +kernel) fl_M_141.r (by decide) rfl q28 ?_
      refine r_iload_n (pc := 31) 1 (n := 1) (by decide +kernel) rfl rfl ?_
      obtain ⟨m32, q32, h⟩ := bnd h
      refine r_iast (pc := 32) (by decide +kernel) q32 ?_
      refine r_aload_n (pc := 33) 0 (n := 0) (by decide +kernel) rfl rfl ?_
      refine r_dup (pc := 34) (by decide +kernel) rfl ?_
      obtain ⟨g35, q35, h⟩ := bnd h
      refine r_get (pc := 35) (by decide +kernel) fl_M_141.r (by decide) rfl q35 ?_
      refine r_iconst (pc := 38) (z := 1) (by decide +kernel) ⟨by decide, by decide⟩ ?_
      refine r_iadd (pc := 39) (by decide +kernel) ?_
      obtain ⟨m40, q40, h⟩ := bnd h
      refine r_put (pc := 40) (by decide +kernel) fl_M_141 (by decide) (Or.inr nf_9_3) rfl (fun h3 => by cases h3) q40 ?_
      refine r_aload_n (pc := 43) 0 (n := 0) (by decide +kernel) rfl rfl ?_
      obtain ⟨g44, q44, h⟩ := bnd h
      refine r_get (pc := 44) (by decide +kernel) fl_M_141.r (by decide) rfl q44 ?_
      obtain rfl := Option.some.inj h
      exact r_ret (pc := 47) (r := some (0, g44)) (by decide +kernel) rfl trivial (Nat.le_of_ble_eq_true rfl) (Nat.le_of_ble_eq_true rfl)
    · have h := ite_t c17 h
      refine r_bipush (pc := 20) (z := (-4)) (by decide +kernel) ⟨by decide, by decide⟩ ?_
      obtain rfl := Option.some.inj h
      exact r_ret (pc := 22) (r := some (0, (-4))) (by decide +kernel) rfl trivial (Nat.le_of_ble_eq_true rfl) (Nat.le_of_ble_eq_true rfl)
  · have h := ite_t c5 h
    refine r_bipush (pc := 8) (z := (-2)) (by decide +kernel) ⟨by decide, by decide⟩ ?_
    obtain rfl := Option.some.inj h
    exact r_ret (pc := 10) (r := some (0, (-2))) (by decide +kernel) rfl trivial (Nat.le_of_ble_eq_true rfl) (Nat.le_of_ble_eq_true rfl)

/-! TreeTonguesModel.drop()I -/
noncomputable def D_M_drop (a0 : Int) (M : Mem) : Option (Int × Mem) := (gf M a0 9 54 3).bind fun g1 => (pf M a0 9 54 3 0).bind fun m7 => some (g1, m7)
theorem c_M_drop {d : Nat} (hd : 1 ≤ d) {a0 : Int} {M : Mem} {x : Int × Mem} (h : D_M_drop a0 M = some x) : Ct d Y_M_drop [(2, a0)] M (some (0, x.1), x.2) 0 0 := by
  refine ct_of yk_M_drop (Nat.le_of_ble_eq_true rfl) ?_
  rw [D_M_drop] at h
  show Rn Y_M_drop d 0 0 0 0 (some (0, x.1), x.2) 0 [(0, (2, a0))] [] M
  refine r_aload_n (pc := 0) 0 (n := 0) (by decide +kernel) rfl rfl ?_
  obtain ⟨g1, q1, h⟩ := bnd h
  refine r_get (pc := 1) (by decide +kernel) fl_M_141.r (by decide) rfl q1 ?_
  refine r_istore_n (pc := 4) (n := 1) (lv' := [(1, (0, g1)), (0, (2, a0))]) (by decide +kernel) rfl (Nat.le_of_ble_eq_true rfl) rfl ?_
  refine r_aload_n (pc := 5) 1 (n := 0) (by decide +kernel) rfl rfl ?_
  refine r_iconst (pc := 6) (z := 0) (by decide +kernel) ⟨by decide, by decide⟩ ?_
  obtain ⟨m7, q7, h⟩ := bnd h
  refine r_put (pc := 7) (by decide +kernel) fl_M_141 (by decide) (Or.inr nf_9_3) rfl (fun h3 => by cases h3) q7 ?_
  refine r_iload_n (pc := 10) 0 (n := 1) (by decide +kernel) rfl rfl ?_
  obtain rfl := Option.some.inj h
  exact r_ret (pc := 11) (r := some (0, g1)) (by decide +kernel) rfl trivial (Nat.le_of_ble_eq_true rfl) (Nat.le_of_ble_eq_true rfl)

/-! TreeTonguesModel.at(I)I -/
noncomputable def D_M_at (a0 a1 : Int) (M : Mem) : Option (Int × Mem) := (gf M a0 9 54 3).bind fun g4 => (D_M_in a1 0 (wr (g4 - 1)) M).bind fun x10 => if x10.1 = 0 then (some ((-2), x10.2)) else ((gf x10.2 a0 9 54 2).bind fun g17 => (rd x10.2 10 g17 a1).bind fun e21 => some (e21, x10.2))
theorem c_M_at {d : Nat} (hd : 2 ≤ d) {a0 a1 : Int} {M : Mem} {x : Int × Mem} (h : D_M_at a0 a1 M = some x) : Ct d Y_M_at [(2, a0), (0, a1)] M (some (0, x.1), x.2) 0 0 := by
  refine ct_of yk_M_at (Nat.le_of_ble_eq_true rfl) ?_
  rw [D_M_at] at h
  show Rn Y_M_at d 0 0 0 0 (some (0, x.1), x.2) 0 [(0, (2, a0)), (1, (0, a1))] [] M
  refine r_iload_n (pc := 0) 1 (n := 1) (by decide +kernel) rfl rfl ?_
  refine r_i2l (pc := 1) (by decide +kernel) ?_
  refine r_lconst (pc := 2) (n := 0) (z := 0) (by decide +kernel) rfl ?_
  refine r_aload_n (pc := 3) 0 (n := 0) (by decide +kernel) rfl rfl ?_
  obtain ⟨g4, q4, h⟩ := bnd h
  refine r_get (pc := 4) (by decide +kernel) fl_M_141.r (by decide) rfl q4 ?_
  refine r_iconst (pc := 7) (z := 1) (by decide +kernel) ⟨by decide, by decide⟩ ?_
  refine r_isub (pc := 8) (by decide +kernel) ?_
  refine r_i2l (pc := 9) (by decide +kernel) ?_
  obtain ⟨x10, q10, h⟩ := bnd h
  refine r_callS (pc := 10) (i := 128) (d2 := d - 1) (As := [(1, a1), (1, 0), (1, wr (g4 - 1))]) (st := []) (st1 := [(1, wr (g4 - 1)), (1, 0), (1, a1)]) (by decide +kernel) yk_M_in ⟨ml_M_128, sk_M_in⟩ np_M_in rfl (by omega) (c_M_in (d := d - 1) (by omega) q10) (Nat.le_of_ble_eq_true rfl) (Nat.le_of_ble_eq_true rfl) (Nat.le_of_ble_eq_true rfl) rfl ?_
  show Rn _ d _ _ 0 0 _ 13 [(0, (2, a0)), (1, (0, a1))] [(0, x10.1)] x10.2
  refine r_if_eq (pc := 13) (off := 12) (tgt := 25) (by decide +kernel) (by decide) (fun c13 => ?_) (fun c13 => ?_)
  · have h := ite_t c13 h
    refine r_bipush (pc := 25) (z := (-2)) (by decide +kernel) ⟨by decide, by decide⟩ ?_
    obtain rfl := Option.some.inj h
    exact r_ret (pc := 27) (r := some (0, (-2))) (by decide +kernel) rfl trivial (Nat.le_of_ble_eq_true rfl) (Nat.le_of_ble_eq_true rfl)
  · have h := ite_f c13 h
    refine r_aload_n (pc := 16) 0 (n := 0) (by decide +kernel) rfl rfl ?_
    obtain ⟨g17, q17, h⟩ := bnd h
    refine r_get (pc := 17) (by decide +kernel) fl_M_13.r (by decide) rfl q17 ?_
    refine r_iload_n (pc := 20) 1 (n := 1) (by decide +kernel) rfl rfl ?_
    obtain ⟨e21, q21, h⟩ := bnd h
    refine r_iald (pc := 21) (by decide +kernel) q21 ?_
    refine r_goto (pc := 22) (off := 5) (tgt := 27) (by decide +kernel) (by decide) ?_
    obtain rfl := Option.some.inj h
    exact r_ret (pc := 27) (r := some (0, e21)) (by decide +kernel) rfl trivial (Nat.le_of_ble_eq_true rfl) (Nat.le_of_ble_eq_true rfl)

/-! TreeTonguesModel.tongue(I)I -/
noncomputable def D_M_tongue (a0 a1 : Int) (M : Mem) : Option (Int × Mem) := (D_M_in a1 1 5 M).bind fun x6 => if x6.1 = 0 then (some ((-2), x6.2)) else ((gf x6.2 a0 9 54 4).bind fun g16 => if g16 = 16 then (some ((-4), x6.2)) else ((gf x6.2 a0 9 54 5).bind fun g28 => (gf x6.2 a0 9 54 4).bind fun g32 => (wt x6.2 12 g28 g32 1).bind fun m36 => (gf m36 a0 9 54 6).bind fun g38 => (gf m36 a0 9 54 4).bind fun g42 => (wt m36 10 g38 g42 a1).bind fun m46 => (gf m46 a0 9 54 7).bind fun g48 => (gf m46 a0 9 54 4).bind fun g52 => (wt m46 10 g48 g52 0).bind fun m56 => (gf m56 a0 9 54 8).bind fun g58 => (gf m56 a0 9 54 4).bind fun g62 => (wt m56 10 g58 g62 0).bind fun m66 => (gf m66 a0 9 54 4).bind fun g69 => (pf m66 a0 9 54 4 (wr (g69 + 1))).bind fun m74 => (gf m74 a0 9 54 4).bind fun g78 => some (wr (g78 - 1), m74)))
theorem c_M_tongue {d : Nat} (hd : 2 ≤ d) {a0 a1 : Int} {M : Mem} {x : Int × Mem} (h : D_M_tongue a0 a1 M = some x) : Ct d Y_M_tongue [(2, a0), (0, a1)] M (some (0, x.1), x.2) 0 0 := by
  refine ct_of yk_M_tongue (Nat.le_of_ble_eq_true rfl) ?_
  rw [D_M_tongue] at h
  show Rn Y_M_tongue d 0 0 0 0 (some (0, x.1), x.2) 0 [(0, (2, a0)), (1, (0, a1))] [] M
  refine r_iload_n (pc := 0) 1 (n := 1) (by decide +kernel) rfl rfl ?_
  refine r_i2l (pc := 1) (by decide +kernel) ?_
  refine r_lconst (pc := 2) (n := 1) (z := 1) (by decide +kernel) rfl ?_
  refine r_ldc2 (pc := 3) (i := 144) (z := 5) (by decide +kernel) (mg 1089 (by decide +kernel) (by decide +kernel)) ⟨by decide, by decide⟩ ?_
  obtain ⟨x6, q6, h⟩ := bnd h
  refine r_callS (pc := 6) (i := 128) (d2 := d - 1) (As := [(1, a1), (1, 1), (1, 5)]) (st := []) (st1 := [(1, 5), (1, 1), (1, a1)]) (by decide +kernel) yk_M_in ⟨ml_M_128, sk_M_in⟩ np_M_in rfl (by omega) (c_M_in (d := d - 1) (by omega) q6) (Nat.le_of_ble_eq_true rfl) (Nat.le_of_ble_eq_true rfl) (Nat.le_of_ble_eq_true rfl) rfl ?_
  show Rn _ d _ _ 0 0 _ 9 [(0, (2, a0)), (1, (0, a1))] [(0, x6.1)] x6.2
  refine r_if_ne (pc := 9) (off := 6) (tgt := 15) (by decide +kernel) (by decide) (fun c9 => ?_) (fun c9 => ?_)
  · have h := ite_f c9 h
    refine r_aload_n (pc := 15) 0 (n := 0) (by decide +kernel) rfl rfl ?_
    obtain ⟨g16, q16, h⟩ := bnd h
    refine r_get (pc := 16) (by decide +kernel) fl_M_132.r (by decide) rfl q16 ?_
    refine r_bipush (pc := 19) (z := 16) (by decide +kernel) ⟨by decide, by decide⟩ ?_
    refine r_icmp_ne (pc := 21) (off := 6) (tgt := 27) (by decide +kernel) (by decide) (fun c21 => ?_) (fun c21 => ?_)
    · have h := ite_f c21 h
      refine r_aload_n (pc := 27) 0 (n := 0) (by decide +kernel) rfl rfl ?_
      obtain ⟨g28, q28, h⟩ := bnd h
      refine r_get (pc := 28) (by decide +kernel) fl_M_16.r (by decide) rfl q28 ?_
      refine r_aload_n (pc := 31) 0 (n := 0) (by decide +kernel) rfl rfl ?_
      obtain ⟨g32, q32, h⟩ := bnd h
      refine r_get (pc := 32) (by decide +kernel) fl_M_132.r (by decide) rfl q32 ?_
      refine r_iconst (pc := 35) (z := 1) (by decide +kernel) ⟨by decide, by decide⟩ ?_
      obtain ⟨m36, q36, h⟩ := bnd h
      refine r_zast (pc := 36) (by decide +kernel) (Or.inr rfl) q36 ?_
      refine r_aload_n (pc := 37) 0 (n := 0) (by decide +kernel) rfl rfl ?_
      obtain ⟨g38, q38, h⟩ := bnd h
      refine r_get (pc := 38) (by decide +kernel) fl_M_20.r (by decide) rfl q38 ?_
      refine r_aload_n (pc := 41) 0 (n := 0) (by decide +kernel) rfl rfl ?_
      obtain ⟨g42, q42, h⟩ := bnd h
      refine r_get (pc := 42) (by decide +kernel) fl_M_132.r (by decide) rfl q42 ?_
      refine r_iload_n (pc := 45) 1 (n := 1) (by decide +kernel) rfl rfl ?_
      obtain ⟨m46, q46, h⟩ := bnd h
      refine r_iast (pc := 46) (by decide +kernel) q46 ?_
      refine r_aload_n (pc := 47) 0 (n := 0) (by decide +kernel) rfl rfl ?_
      obtain ⟨g48, q48, h⟩ := bnd h
      refine r_get (pc := 48) (by decide +kernel) fl_M_23.r (by decide) rfl q48 ?_
      refine r_aload_n (pc := 51) 0 (n := 0) (by decide +kernel) rfl rfl ?_
      obtain ⟨g52, q52, h⟩ := bnd h
      refine r_get (pc := 52) (by decide +kernel) fl_M_132.r (by decide) rfl q52 ?_
      refine r_iconst (pc := 55) (z := 0) (by decide +kernel) ⟨by decide, by decide⟩ ?_
      obtain ⟨m56, q56, h⟩ := bnd h
      refine r_iast (pc := 56) (by decide +kernel) q56 ?_
      refine r_aload_n (pc := 57) 0 (n := 0) (by decide +kernel) rfl rfl ?_
      obtain ⟨g58, q58, h⟩ := bnd h
      refine r_get (pc := 58) (by decide +kernel) fl_M_26.r (by decide) rfl q58 ?_
      refine r_aload_n (pc := 61) 0 (n := 0) (by decide +kernel) rfl rfl ?_
      obtain ⟨g62, q62, h⟩ := bnd h
      refine r_get (pc := 62) (by decide +kernel) fl_M_132.r (by decide) rfl q62 ?_
      refine r_iconst (pc := 65) (z := 0) (by decide +kernel) ⟨by decide, by decide⟩ ?_
      obtain ⟨m66, q66, h⟩ := bnd h
      refine r_iast (pc := 66) (by decide +kernel) q66 ?_
      refine r_aload_n (pc := 67) 0 (n := 0) (by decide +kernel) rfl rfl ?_
      refine r_dup (pc := 68) (by decide +kernel) rfl ?_
      obtain ⟨g69, q69, h⟩ := bnd h
      refine r_get (pc := 69) (by decide +kernel) fl_M_132.r (by decide) rfl q69 ?_
      refine r_iconst (pc := 72) (z := 1) (by decide +kernel) ⟨by decide, by decide⟩ ?_
      refine r_iadd (pc := 73) (by decide +kernel) ?_
      obtain ⟨m74, q74, h⟩ := bnd h
      refine r_put (pc := 74) (by decide +kernel) fl_M_132 (by decide) (Or.inr nf_9_4) rfl (fun h3 => by cases h3) q74 ?_
      refine r_aload_n (pc := 77) 0 (n := 0) (by decide +kernel) rfl rfl ?_
      obtain ⟨g78, q78, h⟩ := bnd h
      refine r_get (pc := 78) (by decide +kernel) fl_M_132.r (by decide) rfl q78 ?_
      refine r_iconst (pc := 81) (z := 1) (by decide +kernel) ⟨by decide, by decide⟩ ?_
      refine r_isub (pc := 82) (by decide +kernel) ?_
      obtain rfl := Option.some.inj h
      exact r_ret (pc := 83) (r := some (0, wr (g78 - 1))) (by decide +kernel) rfl trivial (Nat.le_of_ble_eq_true rfl) (Nat.le_of_ble_eq_true rfl)
    · have h := ite_t c21 h
      refine r_bipush (pc := 24) (z := (-4)) (by decide +kernel) ⟨by decide, by decide⟩ ?_
      obtain rfl := Option.some.inj h
      exact r_ret (pc := 26) (r := some (0, (-4))) (by decide +kernel) rfl trivial (Nat.le_of_ble_eq_true rfl) (Nat.le_of_ble_eq_true rfl)
  · have h := ite_t c9 h
    refine r_bipush (pc := 12) (z := (-2)) (by decide +kernel) ⟨by decide, by decide⟩ ?_
    obtain rfl := Option.some.inj h
    exact r_ret (pc := 14) (r := some (0, (-2))) (by decide +kernel) rfl trivial (Nat.le_of_ble_eq_true rfl) (Nat.le_of_ble_eq_true rfl)

/-! TreeTonguesModel.isTongue(I)Z -/
noncomputable def D_M_isTongue (a0 a1 : Int) (M : Mem) : Option (Int × Mem) := (gf M a0 9 54 4).bind fun g4 => (D_M_in a1 0 (wr (g4 - 1)) M).bind fun x10 => (bz x10.1).bind fun _ => some (x10.1, x10.2)
theorem c_M_isTongue {d : Nat} (hd : 2 ≤ d) {a0 a1 : Int} {M : Mem} {x : Int × Mem} (h : D_M_isTongue a0 a1 M = some x) : Ct d Y_M_isTongue [(2, a0), (0, a1)] M (some (0, x.1), x.2) 0 0 := by
  refine ct_of yk_M_isTongue (Nat.le_of_ble_eq_true rfl) ?_
  rw [D_M_isTongue] at h
  show Rn Y_M_isTongue d 0 0 0 0 (some (0, x.1), x.2) 0 [(0, (2, a0)), (1, (0, a1))] [] M
  refine r_iload_n (pc := 0) 1 (n := 1) (by decide +kernel) rfl rfl ?_
  refine r_i2l (pc := 1) (by decide +kernel) ?_
  refine r_lconst (pc := 2) (n := 0) (z := 0) (by decide +kernel) rfl ?_
  refine r_aload_n (pc := 3) 0 (n := 0) (by decide +kernel) rfl rfl ?_
  obtain ⟨g4, q4, h⟩ := bnd h
  refine r_get (pc := 4) (by decide +kernel) fl_M_132.r (by decide) rfl q4 ?_
  refine r_iconst (pc := 7) (z := 1) (by decide +kernel) ⟨by decide, by decide⟩ ?_
  refine r_isub (pc := 8) (by decide +kernel) ?_
  refine r_i2l (pc := 9) (by decide +kernel) ?_
  obtain ⟨x10, q10, h⟩ := bnd h
  refine r_callS (pc := 10) (i := 128) (d2 := d - 1) (As := [(1, a1), (1, 0), (1, wr (g4 - 1))]) (st := []) (st1 := [(1, wr (g4 - 1)), (1, 0), (1, a1)]) (by decide +kernel) yk_M_in ⟨ml_M_128, sk_M_in⟩ np_M_in rfl (by omega) (c_M_in (d := d - 1) (by omega) q10) (Nat.le_of_ble_eq_true rfl) (Nat.le_of_ble_eq_true rfl) (Nat.le_of_ble_eq_true rfl) rfl ?_
  show Rn _ d _ _ 0 0 _ 13 [(0, (2, a0)), (1, (0, a1))] [(0, x10.1)] x10.2
  obtain ⟨_, qz, h⟩ := bnd h
  obtain rfl := Option.some.inj h
  exact r_ret (pc := 13) (r := some (0, x10.1)) (by decide +kernel) rfl (bz_s qz) (Nat.le_of_ble_eq_true rfl) (Nat.le_of_ble_eq_true rfl)

/-! TreeTonguesModel.rule(IIIII)I -/
noncomputable def D_M_rule (a0 a1 a2 a3 a4 a5 : Int) (M : Mem) : Option (Int × Mem) := (ck M a0 9 54).bind fun _ => (D_M_isTongue a0 a1 M).bind fun x2 => if x2.1 = 0 then (some ((-2), x2.2)) else ((ck x2.2 a0 9 54).bind fun _ => (D_M_isSign a0 a2 x2.2).bind fun x10 => if x10.1 = 0 then (some ((-2), x10.2)) else ((gf x10.2 a0 9 54 5).bind fun g20 => (rd x10.2 12 g20 a1).bind fun e24 => if e24 = 0 then (some ((-3), x10.2)) else ((gf x10.2 a0 9 54 6).bind fun g32 => (rd x10.2 10 g32 a1).bind fun e36 => lt (wr (e36 - 1)) fun u6_39 => (gf x10.2 a0 9 54 1).bind fun g42 => (rd x10.2 10 g42 a2).bind fun e46 => (if e46 ≤ 0 then (some (0, x10.2)) else ((D_M_in a3 0 u6_39 x10.2).bind fun x56 => if x56.1 = 0 then (some (1, x56.2)) else (some (0, x56.2)))).bind fun (t47 : Int × Mem) => if t47.1 = 0 then ((gf t47.2 a0 9 54 1).bind fun g63 => (rd t47.2 10 g63 a2).bind fun e67 => (if e67 ≤ 1 then (some (0, t47.2)) else ((D_M_in a4 0 u6_39 t47.2).bind fun x79 => if x79.1 = 0 then (some (1, x79.2)) else (some (0, x79.2)))).bind fun (t69 : Int × Mem) => if t69.1 = 0 then ((D_M_in a5 0 u6_39 t69.2).bind fun x92 => if x92.1 = 0 then (some ((-2), x92.2)) else ((gf x92.2 a0 9 54 8).bind fun g102 => (rd x92.2 10 g102 a1).bind fun e106 => if e106 = 40 then (some ((-4), x92.2)) else ((gf x92.2 a0 9 54 8).bind fun g120 => (rd x92.2 10 g120 a1).bind fun e124 => lt (wr ((wr (40 * a1)) + e124)) fun u7_126 => (gf x92.2 a0 9 54 9).bind fun g129 => (wt x92.2 10 g129 u7_126 a2).bind fun m135 => (gf m135 a0 9 54 10).bind fun g137 => (wt m135 10 g137 u7_126 a3).bind fun m143 => (gf m143 a0 9 54 11).bind fun g145 => (wt m143 10 g145 u7_126 a4).bind fun m152 => (gf m152 a0 9 54 12).bind fun g154 => (wt m152 10 g154 u7_126 a5).bind fun m161 => (gf m161 a0 9 54 8).bind fun g163 => (rd m161 10 g163 a1).bind fun e168 => (wt m161 10 g163 a1 (wr (e168 + 1))).bind fun m171 => (gf m171 a0 9 54 8).bind fun g173 => (rd m171 10 g173 a1).bind fun e177 => some (e177, m171)))) else (some ((-2), t69.2))) else (some ((-2), t47.2)))))
theorem c_M_rule {d : Nat} (hd : 3 ≤ d) {a0 a1 a2 a3 a4 a5 : Int} {M : Mem} {x : Int × Mem} (h : D_M_rule a0 a1 a2 a3 a4 a5 M = some x) : Ct d Y_M_rule [(2, a0), (0, a1), (0, a2), (0, a3), (0, a4), (0, a5)] M (some (0, x.1), x.2) 0 0 := by
  refine ct_of yk_M_rule (Nat.le_of_ble_eq_true rfl) ?_
  rw [D_M_rule] at h
  show Rn Y_M_rule d 0 0 0 0 (some (0, x.1), x.2) 0 [(0, (2, a0)), (1, (0, a1)), (2, (0, a2)), (3, (0, a3)), (4, (0, a4)), (5, (0, a5))] [] M
  refine r_aload_n (pc := 0) 0 (n := 0) (by decide +kernel) rfl rfl ?_
  refine r_iload_n (pc := 1) 1 (n := 1) (by decide +kernel) rfl rfl ?_
  obtain ⟨_, q2c, h⟩ := bnd h
  obtain ⟨x2, q2, h⟩ := bnd h
  refine r_callV (pc := 2) (i := 146) (d2 := d - 1) (As := [(0, a1)]) (st := []) (st1 := [(0, a1), (2, a0)]) (by decide +kernel) yk_M_isTongue (by decide) rfl ⟨ml_M_146, vk_M_isTongue⟩ np_M_isTongue rfl (by omega) q2c (c_M_isTongue (d := d - 1) (by omega) q2) (Nat.le_of_ble_eq_true rfl) (Nat.le_of_ble_eq_true rfl) (Nat.le_of_ble_eq_true rfl) rfl ?_
  show Rn _ d _ _ 0 0 _ 5 [(0, (2, a0)), (1, (0, a1)), (2, (0, a2)), (3, (0, a3)), (4, (0, a4)), (5, (0, a5))] [(0, x2.1)] x2.2
  refine r_if_eq (pc := 5) (off := 11) (tgt := 16) (by decide +kernel) (by decide) (fun c5 => ?_) (fun c5 => ?_)
  · have h := ite_t c5 h
    refine r_bipush (pc := 16) (z := (-2)) (by decide +kernel) ⟨by decide, by decide⟩ ?_
    obtain rfl := Option.some.inj h
    exact r_ret (pc := 18) (r := some (0, (-2))) (by decide +kernel) rfl trivial (Nat.le_of_ble_eq_true rfl) (Nat.le_of_ble_eq_true rfl)
  · have h := ite_f c5 h
    refine r_aload_n (pc := 8) 0 (n := 0) (by decide +kernel) rfl rfl ?_
    refine r_iload_n (pc := 9) 2 (n := 2) (by decide +kernel) rfl rfl ?_
    obtain ⟨_, q10c, h⟩ := bnd h
    obtain ⟨x10, q10, h⟩ := bnd h
    refine r_callV (pc := 10) (i := 137) (d2 := d - 1) (As := [(0, a2)]) (st := []) (st1 := [(0, a2), (2, a0)]) (by decide +kernel) yk_M_isSign (by decide) rfl ⟨ml_M_137, vk_M_isSign⟩ np_M_isSign rfl (by omega) q10c (c_M_isSign (d := d - 1) (by omega) q10) (Nat.le_of_ble_eq_true rfl) (Nat.le_of_ble_eq_true rfl) (Nat.le_of_ble_eq_true rfl) rfl ?_
    show Rn _ d _ _ 0 0 _ 13 [(0, (2, a0)), (1, (0, a1)), (2, (0, a2)), (3, (0, a3)), (4, (0, a4)), (5, (0, a5))] [(0, x10.1)] x10.2
    refine r_if_ne (pc := 13) (off := 6) (tgt := 19) (by decide +kernel) (by decide) (fun c13 => ?_) (fun c13 => ?_)
    · have h := ite_f c13 h
      refine r_aload_n (pc := 19) 0 (n := 0) (by decide +kernel) rfl rfl ?_
      obtain ⟨g20, q20, h⟩ := bnd h
      refine r_get (pc := 20) (by decide +kernel) fl_M_16.r (by decide) rfl q20 ?_
      refine r_iload_n (pc := 23) 1 (n := 1) (by decide +kernel) rfl rfl ?_
      obtain ⟨e24, q24, h⟩ := bnd h
      refine r_zald (pc := 24) (by decide +kernel) q24 ?_
      refine r_if_ne (pc := 25) (off := 6) (tgt := 31) (by decide +kernel) (by decide) (fun c25 => ?_) (fun c25 => ?_)
      · have h := ite_f c25 h
        refine r_aload_n (pc := 31) 0 (n := 0) (by decide +kernel) rfl rfl ?_
        obtain ⟨g32, q32, h⟩ := bnd h
        refine r_get (pc := 32) (by decide +kernel) fl_M_20.r (by decide) rfl q32 ?_
        refine r_iload_n (pc := 35) 1 (n := 1) (by decide +kernel) rfl rfl ?_
        obtain ⟨e36, q36, h⟩ := bnd h
        refine r_iald (pc := 36) (by decide +kernel) q36 ?_
        refine r_iconst (pc := 37) (z := 1) (by decide +kernel) ⟨by decide, by decide⟩ ?_
        refine r_isub (pc := 38) (by decide +kernel) ?_
        obtain ⟨u6_39, q39, h⟩ := lt_o h
        refine r_eq q39 ?_
        refine r_istore (pc := 39) (lv' := [(6, (0, u6_39)), (0, (2, a0)), (1, (0, a1)), (2, (0, a2)), (3, (0, a3)), (4, (0, a4)), (5, (0, a5))]) (by decide +kernel) (Nat.le_of_ble_eq_true rfl) rfl ?_
        refine r_aload_n (pc := 41) 1 (n := 0) (by decide +kernel) rfl rfl ?_
        obtain ⟨g42, q42, h⟩ := bnd h
        refine r_get (pc := 42) (by decide +kernel) fl_M_7.r (by decide) rfl q42 ?_
        refine r_iload_n (pc := 45) 3 (n := 2) (by decide +kernel) rfl rfl ?_
        obtain ⟨e46, q46, h⟩ := bnd h
        refine r_iald (pc := 46) (by decide +kernel) q46 ?_
        obtain ⟨t47, ht47, h⟩ := bnd h
        have E47_0 : t47.1 = 0 → Rn Y_M_rule d 0 0 0 0 (some (0, x.1), x.2) 62 [(0, (2, a0)), (1, (0, a1)), (2, (0, a2)), (3, (0, a3)), (4, (0, a4)), (5, (0, a5)), (6, (0, u6_39))] [] t47.2 := by
          intro y0
          have h := ite_t y0 h
          refine r_aload_n (pc := 62) 0 (n := 0) (by decide +kernel) rfl rfl ?_
          obtain ⟨g63, q63, h⟩ := bnd h
          refine r_get (pc := 63) (by decide +kernel) fl_M_7.r (by decide) rfl q63 ?_
          refine r_iload_n (pc := 66) 2 (n := 2) (by decide +kernel) rfl rfl ?_
          obtain ⟨e67, q67, h⟩ := bnd h
          refine r_iald (pc := 67) (by decide +kernel) q67 ?_
          refine r_iconst (pc := 68) (z := 1) (by decide +kernel) ⟨by decide, by decide⟩ ?_
          obtain ⟨t69, ht69, h⟩ := bnd h
          have E69_0 : t69.1 = 0 → Rn Y_M_rule d 0 0 0 0 (some (0, x.1), x.2) 85 [(0, (2, a0)), (1, (0, a1)), (2, (0, a2)), (3, (0, a3)), (4, (0, a4)), (5, (0, a5)), (6, (0, u6_39))] [] t69.2 := by
            intro y0
            have h := ite_t y0 h
            refine r_iload (pc := 85) 5 (by decide +kernel) rfl ?_
            refine r_i2l (pc := 87) (by decide +kernel) ?_
            refine r_lconst (pc := 88) (n := 0) (z := 0) (by decide +kernel) rfl ?_
            refine r_iload (pc := 89) 6 (by decide +kernel) rfl ?_
            refine r_i2l (pc := 91) (by decide +kernel) ?_
            obtain ⟨x92, q92, h⟩ := bnd h
            refine r_callS (pc := 92) (i := 128) (d2 := d - 1) (As := [(1, a5), (1, 0), (1, u6_39)]) (st := []) (st1 := [(1, u6_39), (1, 0), (1, a5)]) (by decide +kernel) yk_M_in ⟨ml_M_128, sk_M_in⟩ np_M_in rfl (by omega) (c_M_in (d := d - 1) (by omega) q92) (Nat.le_of_ble_eq_true rfl) (Nat.le_of_ble_eq_true rfl) (Nat.le_of_ble_eq_true rfl) rfl ?_
            show Rn _ d _ _ 0 0 _ 95 [(0, (2, a0)), (1, (0, a1)), (2, (0, a2)), (3, (0, a3)), (4, (0, a4)), (5, (0, a5)), (6, (0, u6_39))] [(0, x92.1)] x92.2
            refine r_if_ne (pc := 95) (off := 6) (tgt := 101) (by decide +kernel) (by decide) (fun c95 => ?_) (fun c95 => ?_)
            · have h := ite_f c95 h
              refine r_aload_n (pc := 101) 0 (n := 0) (by decide +kernel) rfl rfl ?_
              obtain ⟨g102, q102, h⟩ := bnd h
              refine r_get (pc := 102) (by decide +kernel) fl_M_26.r (by decide) rfl q102 ?_
              refine r_iload_n (pc := 105) 1 (n := 1) (by decide +kernel) rfl rfl ?_
              obtain ⟨e106, q106, h⟩ := bnd h
              refine r_iald (pc := 106) (by decide +kernel) q106 ?_
              refine r_bipush (pc := 107) (z := 40) (by decide +kernel) ⟨by decide, by decide⟩ ?_
              refine r_icmp_ne (pc := 109) (off := 6) (tgt := 115) (by decide +kernel) (by decide) (fun c109 => ?_) (fun c109 => ?_)
              · have h := ite_f c109 h
                refine r_bipush (pc := 115) (z := 40) (by decide +kernel) ⟨by decide, by decide⟩ ?_
                refine r_iload_n (pc := 117) 1 (n := 1) (by decide +kernel) rfl rfl ?_
                refine r_imul (pc := 118) (by decide +kernel) ?_
                refine r_aload_n (pc := 119) 0 (n := 0) (by decide +kernel) rfl rfl ?_
                obtain ⟨g120, q120, h⟩ := bnd h
                refine r_get (pc := 120) (by decide +kernel) fl_M_26.r (by decide) rfl q120 ?_
                refine r_iload_n (pc := 123) 1 (n := 1) (by decide +kernel) rfl rfl ?_
                obtain ⟨e124, q124, h⟩ := bnd h
                refine r_iald (pc := 124) (by decide +kernel) q124 ?_
                refine r_iadd (pc := 125) (by decide +kernel) ?_
                obtain ⟨u7_126, q126, h⟩ := lt_o h
                refine r_eq q126 ?_
                refine r_istore (pc := 126) (lv' := [(7, (0, u7_126)), (0, (2, a0)), (1, (0, a1)), (2, (0, a2)), (3, (0, a3)), (4, (0, a4)), (5, (0, a5)), (6, (0, u6_39))]) (by decide +kernel) (Nat.le_of_ble_eq_true rfl) rfl ?_
                refine r_aload_n (pc := 128) 1 (n := 0) (by decide +kernel) rfl rfl ?_
                obtain ⟨g129, q129, h⟩ := bnd h
                refine r_get (pc := 129) (by decide +kernel) fl_M_29.r (by decide) rfl q129 ?_
                refine r_iload (pc := 132) 0 (by decide +kernel) rfl ?_
                refine r_iload_n (pc := 134) 3 (n := 2) (by decide +kernel) rfl rfl ?_
                obtain ⟨m135, q135, h⟩ := bnd h
                refine r_iast (pc := 135) (by decide +kernel) q135 ?_
                refine r_aload_n (pc := 136) 1 (n := 0) (by decide +kernel) rfl rfl ?_
                obtain ⟨g137, q137, h⟩ := bnd h
                refine r_get (pc := 137) (by decide +kernel) fl_M_32.r (by decide) rfl q137 ?_
                refine r_iload (pc := 140) 0 (by decide +kernel) rfl ?_
                refine r_iload_n (pc := 142) 4 (n := 3) (by decide +kernel) rfl rfl ?_
                obtain ⟨m143, q143, h⟩ := bnd h
                refine r_iast (pc := 143) (by decide +kernel) q143 ?_
                refine r_aload_n (pc := 144) 1 (n := 0) (by decide +kernel) rfl rfl ?_
                obtain ⟨g145, q145, h⟩ := bnd h
                refine r_get (pc := 145) (by decide +kernel) fl_M_35.r (by decide) rfl q145 ?_
                refine r_iload (pc := 148) 0 (by decide +kernel) rfl ?_
                refine r_iload (pc := 150) 5 (by decide +kernel) rfl ?_
                obtain ⟨m152, q152, h⟩ := bnd h
                refine r_iast (pc := 152) (by decide +kernel) q152 ?_
                refine r_aload_n (pc := 153) 1 (n := 0) (by decide +kernel) rfl rfl ?_
                obtain ⟨g154, q154, h⟩ := bnd h
                refine r_get (pc := 154) (by decide +kernel) fl_M_38.r (by decide) rfl q154 ?_
                refine r_iload (pc := 157) 0 (by decide +kernel) rfl ?_
                refine r_iload (pc := 159) 6 (by decide +kernel) rfl ?_
                obtain ⟨m161, q161, h⟩ := bnd h
                refine r_iast (pc := 161) (by decide +kernel) q161 ?_
                refine r_aload_n (pc := 162) 1 (n := 0) (by decide +kernel) rfl rfl ?_
                obtain ⟨g163, q163, h⟩ := bnd h
                refine r_get (pc := 163) (by decide +kernel) fl_M_26.r (by decide) rfl q163 ?_
                refine r_iload_n (pc := 166) 2 (n := 1) (by decide +kernel) rfl rfl ?_
                refine r_dup2 (pc := 167) (by decide +kernel) rfl rfl ?_
                obtain ⟨e168, q168, h⟩ := bnd h
                refine r_iald (pc := 168) (by decide +kernel) q168 ?_
                refine r_iconst (pc := 169) (z := 1) (by decide +kernel) ⟨by decide, by decide⟩ ?_
                refine r_iadd (pc := 170) (by decide +kernel) ?_
                obtain ⟨m171, q171, h⟩ := bnd h
                refine r_iast (pc := 171) (by decide +kernel) q171 ?_
                refine r_aload_n (pc := 172) 1 (n := 0) (by decide +kernel) rfl rfl ?_
                obtain ⟨g173, q173, h⟩ := bnd h
                refine r_get (pc := 173) (by decide +kernel) fl_M_26.r (by decide) rfl q173 ?_
                refine r_iload_n (pc := 176) 2 (n := 1) (by decide +kernel) rfl rfl ?_
                obtain ⟨e177, q177, h⟩ := bnd h
                refine r_iald (pc := 177) (by decide +kernel) q177 ?_
                obtain rfl := Option.some.inj h
                exact r_ret (pc := 178) (r := some (0, e177)) (by decide +kernel) rfl trivial (Nat.le_of_ble_eq_true rfl) (Nat.le_of_ble_eq_true rfl)
              · have h := ite_t c109 h
                refine r_bipush (pc := 112) (z := (-4)) (by decide +kernel) ⟨by decide, by decide⟩ ?_
                obtain rfl := Option.some.inj h
                exact r_ret (pc := 114) (r := some (0, (-4))) (by decide +kernel) rfl trivial (Nat.le_of_ble_eq_true rfl) (Nat.le_of_ble_eq_true rfl)
            · have h := ite_t c95 h
              refine r_bipush (pc := 98) (z := (-2)) (by decide +kernel) ⟨by decide, by decide⟩ ?_
              obtain rfl := Option.some.inj h
              exact r_ret (pc := 100) (r := some (0, (-2))) (by decide +kernel) rfl trivial (Nat.le_of_ble_eq_true rfl) (Nat.le_of_ble_eq_true rfl)
          have E69_1 : ¬ t69.1 = 0 → Rn Y_M_rule d 0 0 0 0 (some (0, x.1), x.2) 98 [] [] t69.2 := by
            intro n0
            have h := ite_f n0 h
            refine r_bipush (pc := 98) (z := (-2)) (by decide +kernel) ⟨by decide, by decide⟩ ?_
            obtain rfl := Option.some.inj h
            exact r_ret (pc := 100) (r := some (0, (-2))) (by decide +kernel) rfl trivial (Nat.le_of_ble_eq_true rfl) (Nat.le_of_ble_eq_true rfl)
          refine r_icmp_le (pc := 69) (off := 16) (tgt := 85) (by decide +kernel) (by decide) (fun c69 => ?_) (fun c69 => ?_)
          · have ht69 := ite_t c69 ht69
            obtain rfl := Option.some.inj ht69
            exact E69_0 rfl
          · have ht69 := ite_f c69 ht69
            refine r_iload (pc := 72) 4 (by decide +kernel) rfl ?_
            refine r_i2l (pc := 74) (by decide +kernel) ?_
            refine r_lconst (pc := 75) (n := 0) (z := 0) (by decide +kernel) rfl ?_
            refine r_iload (pc := 76) 6 (by decide +kernel) rfl ?_
            refine r_i2l (pc := 78) (by decide +kernel) ?_
            obtain ⟨x79, q79, ht69⟩ := bnd ht69
            refine r_callS (pc := 79) (i := 128) (d2 := d - 1) (As := [(1, a4), (1, 0), (1, u6_39)]) (st := []) (st1 := [(1, u6_39), (1, 0), (1, a4)]) (by decide +kernel) yk_M_in ⟨ml_M_128, sk_M_in⟩ np_M_in rfl (by omega) (c_M_in (d := d - 1) (by omega) q79) (Nat.le_of_ble_eq_true rfl) (Nat.le_of_ble_eq_true rfl) (Nat.le_of_ble_eq_true rfl) rfl ?_
            show Rn _ d _ _ 0 0 _ 82 [(0, (2, a0)), (1, (0, a1)), (2, (0, a2)), (3, (0, a3)), (4, (0, a4)), (5, (0, a5)), (6, (0, u6_39))] [(0, x79.1)] x79.2
            refine r_if_eq (pc := 82) (off := 16) (tgt := 98) (by decide +kernel) (by decide) (fun c82 => ?_) (fun c82 => ?_)
            · have ht69 := ite_t c82 ht69
              obtain rfl := Option.some.inj ht69
              refine r_lv [] rfl ?_
              exact E69_1 (show ¬ (1 : Int) = 0 by decide)
            · have ht69 := ite_f c82 ht69
              obtain rfl := Option.some.inj ht69
              exact E69_0 rfl
        have E47_1 : ¬ t47.1 = 0 → Rn Y_M_rule d 0 0 0 0 (some (0, x.1), x.2) 98 [] [] t47.2 := by
          intro n0
          have h := ite_f n0 h
          refine r_bipush (pc := 98) (z := (-2)) (by decide +kernel) ⟨by decide, by decide⟩ ?_
          obtain rfl := Option.some.inj h
          exact r_ret (pc := 100) (r := some (0, (-2))) (by decide +kernel) rfl trivial (Nat.le_of_ble_eq_true rfl) (Nat.le_of_ble_eq_true rfl)
        refine r_if_le (pc := 47) (off := 15) (tgt := 62) (by decide +kernel) (by decide) (fun c47 => ?_) (fun c47 => ?_)
        · have ht47 := ite_t c47 ht47
          obtain rfl := Option.some.inj ht47
          refine r_lv [1, 2, 3, 4, 5, 6, 0] rfl ?_
          exact E47_0 rfl
        · have ht47 := ite_f c47 ht47
          refine r_iload_n (pc := 50) 4 (n := 3) (by decide +kernel) rfl rfl ?_
          refine r_i2l (pc := 51) (by decide +kernel) ?_
          refine r_lconst (pc := 52) (n := 0) (z := 0) (by decide +kernel) rfl ?_
          refine r_iload (pc := 53) 0 (by decide +kernel) rfl ?_
          refine r_i2l (pc := 55) (by decide +kernel) ?_
          obtain ⟨x56, q56, ht47⟩ := bnd ht47
          refine r_callS (pc := 56) (i := 128) (d2 := d - 1) (As := [(1, a3), (1, 0), (1, u6_39)]) (st := []) (st1 := [(1, u6_39), (1, 0), (1, a3)]) (by decide +kernel) yk_M_in ⟨ml_M_128, sk_M_in⟩ np_M_in rfl (by omega) (c_M_in (d := d - 1) (by omega) q56) (Nat.le_of_ble_eq_true rfl) (Nat.le_of_ble_eq_true rfl) (Nat.le_of_ble_eq_true rfl) rfl ?_
          show Rn _ d _ _ 0 0 _ 59 [(6, (0, u6_39)), (0, (2, a0)), (1, (0, a1)), (2, (0, a2)), (3, (0, a3)), (4, (0, a4)), (5, (0, a5))] [(0, x56.1)] x56.2
          refine r_if_eq (pc := 59) (off := 39) (tgt := 98) (by decide +kernel) (by decide) (fun c59 => ?_) (fun c59 => ?_)
          · have ht47 := ite_t c59 ht47
            obtain rfl := Option.some.inj ht47
            refine r_lv [] rfl ?_
            exact E47_1 (show ¬ (1 : Int) = 0 by decide)
          · have ht47 := ite_f c59 ht47
            obtain rfl := Option.some.inj ht47
            refine r_lv [1, 2, 3, 4, 5, 6, 0] rfl ?_
            exact E47_0 rfl
      · have h := ite_t c25 h
        refine r_bipush (pc := 28) (z := (-3)) (by decide +kernel) ⟨by decide, by decide⟩ ?_
        obtain rfl := Option.some.inj h
        exact r_ret (pc := 30) (r := some (0, (-3))) (by decide +kernel) rfl trivial (Nat.le_of_ble_eq_true rfl) (Nat.le_of_ble_eq_true rfl)
    · have h := ite_t c13 h
      refine r_bipush (pc := 16) (z := (-2)) (by decide +kernel) ⟨by decide, by decide⟩ ?_
      obtain rfl := Option.some.inj h
      exact r_ret (pc := 18) (r := some (0, (-2))) (by decide +kernel) rfl trivial (Nat.le_of_ble_eq_true rfl) (Nat.le_of_ble_eq_true rfl)

/-! TreeTonguesModel.last(IIZ)I -/
noncomputable def D_M_last (a0 a1 a2 a3 : Int) (M : Mem) : Option (Int × Mem) := (ck M a0 9 54).bind fun _ => (D_M_isTongue a0 a1 M).bind fun x2 => if x2.1 = 0 then (some ((-2), x2.2)) else ((gf x2.2 a0 9 54 5).bind fun g12 => (rd x2.2 12 g12 a1).bind fun e16 => if e16 = 0 then (some ((-3), x2.2)) else ((gf x2.2 a0 9 54 6).bind fun g27 => (rd x2.2 10 g27 a1).bind fun e31 => (D_M_in a2 0 (wr (e31 - 1)) x2.2).bind fun x35 => if x35.1 = 0 then (some ((-2), x35.2)) else ((gf x35.2 a0 9 54 7).bind fun g45 => (rd x35.2 10 g45 a1).bind fun e49 => lt (iand (ishr e49 a2) 1) fun u4_54 => (gf x35.2 a0 9 54 7).bind fun g57 => (if a3 = 0 then ((gf x35.2 a0 9 54 7).bind fun g79 => (rd x35.2 10 g79 a1).bind fun e83 => some (iand e83 (ixor (ishl 1 a2) (-1)))) else ((gf x35.2 a0 9 54 7).bind fun g66 => (rd x35.2 10 g66 a1).bind fun e70 => some (ior e70 (ishl 1 a2)))).bind fun (t62 : Int) => (wt x35.2 10 g57 a1 t62).bind fun m90 => some (u4_54, m90))))
theorem c_M_last {d : Nat} (hd : 3 ≤ d) {a0 a1 a2 a3 : Int} {M : Mem} {x : Int × Mem} (h : D_M_last a0 a1 a2 a3 M = some x) : Ct d Y_M_last [(2, a0), (0, a1), (0, a2), (0, a3)] M (some (0, x.1), x.2) 0 0 := by
  refine ct_of yk_M_last (Nat.le_of_ble_eq_true rfl) ?_
  rw [D_M_last] at h
  show Rn Y_M_last d 0 0 0 0 (some (0, x.1), x.2) 0 [(0, (2, a0)), (1, (0, a1)), (2, (0, a2)), (3, (0, a3))] [] M
  refine r_aload_n (pc := 0) 0 (n := 0) (by decide +kernel) rfl rfl ?_
  refine r_iload_n (pc := 1) 1 (n := 1) (by decide +kernel) rfl rfl ?_
  obtain ⟨_, q2c, h⟩ := bnd h
  obtain ⟨x2, q2, h⟩ := bnd h
  refine r_callV (pc := 2) (i := 146) (d2 := d - 1) (As := [(0, a1)]) (st := []) (st1 := [(0, a1), (2, a0)]) (by decide +kernel) yk_M_isTongue (by decide) rfl ⟨ml_M_146, vk_M_isTongue⟩ np_M_isTongue rfl (by omega) q2c (c_M_isTongue (d := d - 1) (by omega) q2) (Nat.le_of_ble_eq_true rfl) (Nat.le_of_ble_eq_true rfl) (Nat.le_of_ble_eq_true rfl) rfl ?_
  show Rn _ d _ _ 0 0 _ 5 [(0, (2, a0)), (1, (0, a1)), (2, (0, a2)), (3, (0, a3))] [(0, x2.1)] x2.2
  refine r_if_ne (pc := 5) (off := 6) (tgt := 11) (by decide +kernel) (by decide) (fun c5 => ?_) (fun c5 => ?_)
  · have h := ite_f c5 h
    refine r_aload_n (pc := 11) 0 (n := 0) (by decide +kernel) rfl rfl ?_
    obtain ⟨g12, q12, h⟩ := bnd h
    refine r_get (pc := 12) (by decide +kernel) fl_M_16.r (by decide) rfl q12 ?_
    refine r_iload_n (pc := 15) 1 (n := 1) (by decide +kernel) rfl rfl ?_
    obtain ⟨e16, q16, h⟩ := bnd h
    refine r_zald (pc := 16) (by decide +kernel) q16 ?_
    refine r_if_ne (pc := 17) (off := 6) (tgt := 23) (by decide +kernel) (by decide) (fun c17 => ?_) (fun c17 => ?_)
    · have h := ite_f c17 h
      refine r_iload_n (pc := 23) 2 (n := 2) (by decide +kernel) rfl rfl ?_
      refine r_i2l (pc := 24) (by decide +kernel) ?_
      refine r_lconst (pc := 25) (n := 0) (z := 0) (by decide +kernel) rfl ?_
      refine r_aload_n (pc := 26) 0 (n := 0) (by decide +kernel) rfl rfl ?_
      obtain ⟨g27, q27, h⟩ := bnd h
      refine r_get (pc := 27) (by decide +kernel) fl_M_20.r (by decide) rfl q27 ?_
      refine r_iload_n (pc := 30) 1 (n := 1) (by decide +kernel) rfl rfl ?_
      obtain ⟨e31, q31, h⟩ := bnd h
      refine r_iald (pc := 31) (by decide +kernel) q31 ?_
      refine r_iconst (pc := 32) (z := 1) (by decide +kernel) ⟨by decide, by decide⟩ ?_
      refine r_isub (pc := 33) (by decide +kernel) ?_
      refine r_i2l (pc := 34) (by decide +kernel) ?_
      obtain ⟨x35, q35, h⟩ := bnd h
      refine r_callS (pc := 35) (i := 128) (d2 := d - 1) (As := [(1, a2), (1, 0), (1, wr (e31 - 1))]) (st := []) (st1 := [(1, wr (e31 - 1)), (1, 0), (1, a2)]) (by decide +kernel) yk_M_in ⟨ml_M_128, sk_M_in⟩ np_M_in rfl (by omega) (c_M_in (d := d - 1) (by omega) q35) (Nat.le_of_ble_eq_true rfl) (Nat.le_of_ble_eq_true rfl) (Nat.le_of_ble_eq_true rfl) rfl ?_
      show Rn _ d _ _ 0 0 _ 38 [(0, (2, a0)), (1, (0, a1)), (2, (0, a2)), (3, (0, a3))] [(0, x35.1)] x35.2
      refine r_if_ne (pc := 38) (off := 6) (tgt := 44) (by decide +kernel) (by decide) (fun c38 => ?_) (fun c38 => ?_)
      · have h := ite_f c38 h
        refine r_aload_n (pc := 44) 0 (n := 0) (by decide +kernel) rfl rfl ?_
        obtain ⟨g45, q45, h⟩ := bnd h
        refine r_get (pc := 45) (by decide +kernel) fl_M_23.r (by decide) rfl q45 ?_
        refine r_iload_n (pc := 48) 1 (n := 1) (by decide +kernel) rfl rfl ?_
        obtain ⟨e49, q49, h⟩ := bnd h
        refine r_iald (pc := 49) (by decide +kernel) q49 ?_
        refine r_iload_n (pc := 50) 2 (n := 2) (by decide +kernel) rfl rfl ?_
        refine r_ishr (pc := 51) (by decide +kernel) ?_
        refine r_iconst (pc := 52) (z := 1) (by decide +kernel) ⟨by decide, by decide⟩ ?_
        refine r_iand (pc := 53) (by decide +kernel) ?_
        obtain ⟨u4_54, q54, h⟩ := lt_o h
        refine r_eq q54 ?_
        refine r_istore (pc := 54) (lv' := [(4, (0, u4_54)), (0, (2, a0)), (1, (0, a1)), (2, (0, a2)), (3, (0, a3))]) (by decide +kernel) (Nat.le_of_ble_eq_true rfl) rfl ?_
        refine r_aload_n (pc := 56) 1 (n := 0) (by decide +kernel) rfl rfl ?_
        obtain ⟨g57, q57, h⟩ := bnd h
        refine r_get (pc := 57) (by decide +kernel) fl_M_23.r (by decide) rfl q57 ?_
        refine r_iload_n (pc := 60) 2 (n := 1) (by decide +kernel) rfl rfl ?_
        refine r_iload_n (pc := 61) 4 (n := 3) (by decide +kernel) rfl rfl ?_
        obtain ⟨t62, ht62, h⟩ := bnd h
        have E62_0 : Rn Y_M_last d 0 0 0 0 (some (0, x.1), x.2) 90 [(4, (0, u4_54))] [(0, t62), (0, a1), (2, g57)] x35.2 := by
          obtain ⟨m90, q90, h⟩ := bnd h
          refine r_iast (pc := 90) (by decide +kernel) q90 ?_
          refine r_iload (pc := 91) 0 (by decide +kernel) rfl ?_
          obtain rfl := Option.some.inj h
          exact r_ret (pc := 93) (r := some (0, u4_54)) (by decide +kernel) rfl trivial (Nat.le_of_ble_eq_true rfl) (Nat.le_of_ble_eq_true rfl)
        refine r_if_eq (pc := 62) (off := 16) (tgt := 78) (by decide +kernel) (by decide) (fun c62 => ?_) (fun c62 => ?_)
        · have ht62 := ite_t c62 ht62
          refine r_aload_n (pc := 78) 1 (n := 0) (by decide +kernel) rfl rfl ?_
          obtain ⟨g79, q79, ht62⟩ := bnd ht62
          refine r_get (pc := 79) (by decide +kernel) fl_M_23.r (by decide) rfl q79 ?_
          refine r_iload_n (pc := 82) 2 (n := 1) (by decide +kernel) rfl rfl ?_
          obtain ⟨e83, q83, ht62⟩ := bnd ht62
          refine r_iald (pc := 83) (by decide +kernel) q83 ?_
          refine r_iconst (pc := 84) (z := 1) (by decide +kernel) ⟨by decide, by decide⟩ ?_
          refine r_iload_n (pc := 85) 3 (n := 2) (by decide +kernel) rfl rfl ?_
          refine r_ishl (pc := 86) (by decide +kernel) ?_
          refine r_iconst (pc := 87) (z := (-1)) (by decide +kernel) ⟨by decide, by decide⟩ ?_
          refine r_ixor (pc := 88) (by decide +kernel) ?_
          refine r_iand (pc := 89) (by decide +kernel) ?_
          obtain rfl := Option.some.inj ht62
          refine r_lv [0] rfl ?_
          exact E62_0
        · have ht62 := ite_f c62 ht62
          refine r_aload_n (pc := 65) 1 (n := 0) (by decide +kernel) rfl rfl ?_
          obtain ⟨g66, q66, ht62⟩ := bnd ht62
          refine r_get (pc := 66) (by decide +kernel) fl_M_23.r (by decide) rfl q66 ?_
          refine r_iload_n (pc := 69) 2 (n := 1) (by decide +kernel) rfl rfl ?_
          obtain ⟨e70, q70, ht62⟩ := bnd ht62
          refine r_iald (pc := 70) (by decide +kernel) q70 ?_
          refine r_iconst (pc := 71) (z := 1) (by decide +kernel) ⟨by decide, by decide⟩ ?_
          refine r_iload_n (pc := 72) 3 (n := 2) (by decide +kernel) rfl rfl ?_
          refine r_ishl (pc := 73) (by decide +kernel) ?_
          refine r_ior (pc := 74) (by decide +kernel) ?_
          refine r_goto (pc := 75) (off := 15) (tgt := 90) (by decide +kernel) (by decide) ?_
          obtain rfl := Option.some.inj ht62
          refine r_lv [0] rfl ?_
          exact E62_0
      · have h := ite_t c38 h
        refine r_bipush (pc := 41) (z := (-2)) (by decide +kernel) ⟨by decide, by decide⟩ ?_
        obtain rfl := Option.some.inj h
        exact r_ret (pc := 43) (r := some (0, (-2))) (by decide +kernel) rfl trivial (Nat.le_of_ble_eq_true rfl) (Nat.le_of_ble_eq_true rfl)
    · have h := ite_t c17 h
      refine r_bipush (pc := 20) (z := (-3)) (by decide +kernel) ⟨by decide, by decide⟩ ?_
      obtain rfl := Option.some.inj h
      exact r_ret (pc := 22) (r := some (0, (-3))) (by decide +kernel) rfl trivial (Nat.le_of_ble_eq_true rfl) (Nat.le_of_ble_eq_true rfl)
  · have h := ite_t c5 h
    refine r_bipush (pc := 8) (z := (-2)) (by decide +kernel) ⟨by decide, by decide⟩ ?_
    obtain rfl := Option.some.inj h
    exact r_ret (pc := 10) (r := some (0, (-2))) (by decide +kernel) rfl trivial (Nat.le_of_ble_eq_true rfl) (Nat.le_of_ble_eq_true rfl)

/-! TreeTonguesModel.copy(II)V -/
noncomputable def L_M_copy_14 (k : Mem → Option (Mem)) (v0 : Int) (v1 : Int) (v2 : Int) : Nat → Int → Mem → Option (Mem)
  | 0 => fun _ _ => none
  | n + 1 => fun v3 M => if 216 ≤ v3 then (k  M) else ((gf M v0 9 54 14).bind fun g22 => (gf M v0 9 54 14).bind fun g33 => (rd M 10 g33 (wr ((wr (216 * v1)) + v3))).bind fun e43 => (wt M 10 g22 (wr ((wr (216 * v2)) + v3)) e43).bind fun m44 => L_M_copy_14 k v0 v1 v2 n (wr (v3 + 1)) m44)
noncomputable def L_M_copy_53 (k : Mem → Option (Mem)) (v0 : Int) (v1 : Int) (v2 : Int) : Nat → Int → Mem → Option (Mem)
  | 0 => fun _ _ => none
  | n + 1 => fun v3 M => if 6 ≤ v3 then (k  M) else ((gf M v0 9 54 15).bind fun g60 => (gf M v0 9 54 15).bind fun g70 => (rd M 12 g70 (wr ((wr (6 * v1)) + v3))).bind fun e79 => (bz e79).bind fun _ => (wt M 12 g60 (wr ((wr (6 * v2)) + v3)) e79).bind fun m80 => (gf m80 v0 9 54 16).bind fun g82 => (gf m80 v0 9 54 16).bind fun g92 => (rd m80 10 g92 (wr ((wr (6 * v1)) + v3))).bind fun e101 => (wt m80 10 g82 (wr ((wr (6 * v2)) + v3)) e101).bind fun m102 => (gf m102 v0 9 54 17).bind fun g104 => (gf m102 v0 9 54 17).bind fun g114 => (rd m102 10 g114 (wr ((wr (6 * v1)) + v3))).bind fun e123 => (wt m102 10 g104 (wr ((wr (6 * v2)) + v3)) e123).bind fun m124 => (gf m124 v0 9 54 18).bind fun g126 => (gf m124 v0 9 54 18).bind fun g136 => (rd m124 10 g136 (wr ((wr (6 * v1)) + v3))).bind fun e145 => (wt m124 10 g126 (wr ((wr (6 * v2)) + v3)) e145).bind fun m146 => (gf m146 v0 9 54 19).bind fun g148 => (gf m146 v0 9 54 19).bind fun g158 => (rd m146 10 g158 (wr ((wr (6 * v1)) + v3))).bind fun e167 => (wt m146 10 g148 (wr ((wr (6 * v2)) + v3)) e167).bind fun m168 => L_M_copy_53 k v0 v1 v2 n (wr (v3 + 1)) m168)
noncomputable def D_M_copy (a0 a1 a2 : Int) (M : Mem) : Option (Mem) := (gf M a0 9 54 13).bind fun g1 => (gf M a0 9 54 13).bind fun g6 => (rd M 10 g6 a1).bind fun e10 => (wt M 10 g1 a2 e10).bind fun m11 => L_M_copy_14 (fun  m14 => L_M_copy_53 (fun  m53 => some m53) a0 a1 a2 FU 0 m14) a0 a1 a2 FU 0 m11
theorem sL_M_copy_14 {d mc ms : Nat} (hd : 1 ≤ d) {r : Mem} {k : Mem → Option (Mem)} {v0 : Int} {v1 : Int} {v2 : Int} (hk : ∀ (M : Mem), k M = some r → Rn Y_M_copy d mc ms 0 0 (none, r) 51 [(0, (2, v0)), (1, (0, v1)), (2, (0, v2))] [] M) : ∀ (n : Nat) (v3 : Int) (M : Mem), L_M_copy_14 k v0 v1 v2 n v3 M = some r → Rn Y_M_copy d mc ms 0 0 (none, r) 14 [(0, (2, v0)), (1, (0, v1)), (2, (0, v2)), (3, (0, v3))] [] M := by
  intro n
  induction n with
  | zero => intro _ _ h; cases h
  | succ n ih =>
    intro v3 M h
    rw [L_M_copy_14] at h
    refine r_iload_n (pc := 14) 3 (n := 3) (by decide +kernel) rfl rfl ?_
    refine r_sipush (pc := 15) (z := 216) (by decide +kernel) ⟨by decide, by decide⟩ ?_
    refine r_icmp_ge (pc := 18) (off := 33) (tgt := 51) (by decide +kernel) (by decide) (fun c18 => ?_) (fun c18 => ?_)
    · have h := ite_t c18 h
      refine r_lv [0, 1, 2] rfl ?_
      exact hk  M h
    · have h := ite_f c18 h
      refine r_aload_n (pc := 21) 0 (n := 0) (by decide +kernel) rfl rfl ?_
      obtain ⟨g22, q22, h⟩ := bnd h
      refine r_get (pc := 22) (by decide +kernel) fl_M_44.r (by decide) rfl q22 ?_
      refine r_sipush (pc := 25) (z := 216) (by decide +kernel) ⟨by decide, by decide⟩ ?_
      refine r_iload_n (pc := 28) 2 (n := 2) (by decide +kernel) rfl rfl ?_
      refine r_imul (pc := 29) (by decide +kernel) ?_
      refine r_iload_n (pc := 30) 3 (n := 3) (by decide +kernel) rfl rfl ?_
      refine r_iadd (pc := 31) (by decide +kernel) ?_
      refine r_aload_n (pc := 32) 0 (n := 0) (by decide +kernel) rfl rfl ?_
      obtain ⟨g33, q33, h⟩ := bnd h
      refine r_get (pc := 33) (by decide +kernel) fl_M_44.r (by decide) rfl q33 ?_
      refine r_sipush (pc := 36) (z := 216) (by decide +kernel) ⟨by decide, by decide⟩ ?_
      refine r_iload_n (pc := 39) 1 (n := 1) (by decide +kernel) rfl rfl ?_
      refine r_imul (pc := 40) (by decide +kernel) ?_
      refine r_iload_n (pc := 41) 3 (n := 3) (by decide +kernel) rfl rfl ?_
      refine r_iadd (pc := 42) (by decide +kernel) ?_
      obtain ⟨e43, q43, h⟩ := bnd h
      refine r_iald (pc := 43) (by decide +kernel) q43 ?_
      obtain ⟨m44, q44, h⟩ := bnd h
      refine r_iast (pc := 44) (by decide +kernel) q44 ?_
      refine r_iinc (pc := 45) 3 (n := 1) (lv' := [(3, (0, wr (v3 + 1))), (0, (2, v0)), (1, (0, v1)), (2, (0, v2))]) (by decide +kernel) rfl (Nat.le_of_ble_eq_true rfl) rfl ?_
      refine r_goto (pc := 48) (off := (-34)) (tgt := 14) (by decide +kernel) (by decide) ?_
      refine r_lv [1, 2, 3, 0] rfl ?_
      exact ih (wr (v3 + 1)) m44 h
theorem sL_M_copy_53 {d mc ms : Nat} (hd : 1 ≤ d) {r : Mem} {k : Mem → Option (Mem)} {v0 : Int} {v1 : Int} {v2 : Int} (hk : ∀ (M : Mem), k M = some r → Rn Y_M_copy d mc ms 0 0 (none, r) 175 [] [] M) : ∀ (n : Nat) (v3 : Int) (M : Mem), L_M_copy_53 k v0 v1 v2 n v3 M = some r → Rn Y_M_copy d mc ms 0 0 (none, r) 53 [(0, (2, v0)), (1, (0, v1)), (2, (0, v2)), (3, (0, v3))] [] M := by
  intro n
  induction n with
  | zero => intro _ _ h; cases h
  | succ n ih =>
    intro v3 M h
    rw [L_M_copy_53] at h
    refine r_iload_n (pc := 53) 3 (n := 3) (by decide +kernel) rfl rfl ?_
    refine r_bipush (pc := 54) (z := 6) (by decide +kernel) ⟨by decide, by decide⟩ ?_
    refine r_icmp_ge (pc := 56) (off := 119) (tgt := 175) (by decide +kernel) (by decide) (fun c56 => ?_) (fun c56 => ?_)
    · have h := ite_t c56 h
      refine r_lv [] rfl ?_
      exact hk  M h
    · have h := ite_f c56 h
      refine r_aload_n (pc := 59) 0 (n := 0) (by decide +kernel) rfl rfl ?_
      obtain ⟨g60, q60, h⟩ := bnd h
      refine r_get (pc := 60) (by decide +kernel) fl_M_47.r (by decide) rfl q60 ?_
      refine r_bipush (pc := 63) (z := 6) (by decide +kernel) ⟨by decide, by decide⟩ ?_
      refine r_iload_n (pc := 65) 2 (n := 2) (by decide +kernel) rfl rfl ?_
      refine r_imul (pc := 66) (by decide +kernel) ?_
      refine r_iload_n (pc := 67) 3 (n := 3) (by decide +kernel) rfl rfl ?_
      refine r_iadd (pc := 68) (by decide +kernel) ?_
      refine r_aload_n (pc := 69) 0 (n := 0) (by decide +kernel) rfl rfl ?_
      obtain ⟨g70, q70, h⟩ := bnd h
      refine r_get (pc := 70) (by decide +kernel) fl_M_47.r (by decide) rfl q70 ?_
      refine r_bipush (pc := 73) (z := 6) (by decide +kernel) ⟨by decide, by decide⟩ ?_
      refine r_iload_n (pc := 75) 1 (n := 1) (by decide +kernel) rfl rfl ?_
      refine r_imul (pc := 76) (by decide +kernel) ?_
      refine r_iload_n (pc := 77) 3 (n := 3) (by decide +kernel) rfl rfl ?_
      refine r_iadd (pc := 78) (by decide +kernel) ?_
      obtain ⟨e79, q79, h⟩ := bnd h
      refine r_zald (pc := 79) (by decide +kernel) q79 ?_
      obtain ⟨_, q80z, h⟩ := bnd h
      obtain ⟨m80, q80, h⟩ := bnd h
      refine r_zast (pc := 80) (by decide +kernel) (bz_s q80z) q80 ?_
      refine r_aload_n (pc := 81) 0 (n := 0) (by decide +kernel) rfl rfl ?_
      obtain ⟨g82, q82, h⟩ := bnd h
      refine r_get (pc := 82) (by decide +kernel) fl_M_50.r (by decide) rfl q82 ?_
      refine r_bipush (pc := 85) (z := 6) (by decide +kernel) ⟨by decide, by decide⟩ ?_
      refine r_iload_n (pc := 87) 2 (n := 2) (by decide +kernel) rfl rfl ?_
      refine r_imul (pc := 88) (by decide +kernel) ?_
      refine r_iload_n (pc := 89) 3 (n := 3) (by decide +kernel) rfl rfl ?_
      refine r_iadd (pc := 90) (by decide +kernel) ?_
      refine r_aload_n (pc := 91) 0 (n := 0) (by decide +kernel) rfl rfl ?_
      obtain ⟨g92, q92, h⟩ := bnd h
      refine r_get (pc := 92) (by decide +kernel) fl_M_50.r (by decide) rfl q92 ?_
      refine r_bipush (pc := 95) (z := 6) (by decide +kernel) ⟨by decide, by decide⟩ ?_
      refine r_iload_n (pc := 97) 1 (n := 1) (by decide +kernel) rfl rfl ?_
      refine r_imul (pc := 98) (by decide +kernel) ?_
      refine r_iload_n (pc := 99) 3 (n := 3) (by decide +kernel) rfl rfl ?_
      refine r_iadd (pc := 100) (by decide +kernel) ?_
      obtain ⟨e101, q101, h⟩ := bnd h
      refine r_iald (pc := 101) (by decide +kernel) q101 ?_
      obtain ⟨m102, q102, h⟩ := bnd h
      refine r_iast (pc := 102) (by decide +kernel) q102 ?_
      refine r_aload_n (pc := 103) 0 (n := 0) (by decide +kernel) rfl rfl ?_
      obtain ⟨g104, q104, h⟩ := bnd h
      refine r_get (pc := 104) (by decide +kernel) fl_M_53.r (by decide) rfl q104 ?_
      refine r_bipush (pc := 107) (z := 6) (by decide +kernel) ⟨by decide, by decide⟩ ?_
      refine r_iload_n (pc := 109) 2 (n := 2) (by decide +kernel) rfl rfl ?_
      refine r_imul (pc := 110) (by decide +kernel) ?_
      refine r_iload_n (pc := 111) 3 (n := 3) (by decide +kernel) rfl rfl ?_
      refine r_iadd (pc := 112) (by decide +kernel) ?_
      refine r_aload_n (pc := 113) 0 (n := 0) (by decide +kernel) rfl rfl ?_
      obtain ⟨g114, q114, h⟩ := bnd h
      refine r_get (pc := 114) (by decide +kernel) fl_M_53.r (by decide) rfl q114 ?_
      refine r_bipush (pc := 117) (z := 6) (by decide +kernel) ⟨by decide, by decide⟩ ?_
      refine r_iload_n (pc := 119) 1 (n := 1) (by decide +kernel) rfl rfl ?_
      refine r_imul (pc := 120) (by decide +kernel) ?_
      refine r_iload_n (pc := 121) 3 (n := 3) (by decide +kernel) rfl rfl ?_
      refine r_iadd (pc := 122) (by decide +kernel) ?_
      obtain ⟨e123, q123, h⟩ := bnd h
      refine r_iald (pc := 123) (by decide +kernel) q123 ?_
      obtain ⟨m124, q124, h⟩ := bnd h
      refine r_iast (pc := 124) (by decide +kernel) q124 ?_
      refine r_aload_n (pc := 125) 0 (n := 0) (by decide +kernel) rfl rfl ?_
      obtain ⟨g126, q126, h⟩ := bnd h
      refine r_get (pc := 126) (by decide +kernel) fl_M_56.r (by decide) rfl q126 ?_
      refine r_bipush (pc := 129) (z := 6) (by decide +kernel) ⟨by decide, by decide⟩ ?_
      refine r_iload_n (pc := 131) 2 (n := 2) (by decide +kernel) rfl rfl ?_
      refine r_imul (pc := 132) (by decide +kernel) ?_
      refine r_iload_n (pc := 133) 3 (n := 3) (by decide +kernel) rfl rfl ?_
      refine r_iadd (pc := 134) (by decide +kernel) ?_
      refine r_aload_n (pc := 135) 0 (n := 0) (by decide +kernel) rfl rfl ?_
      obtain ⟨g136, q136, h⟩ := bnd h
      refine r_get (pc := 136) (by decide +kernel) fl_M_56.r (by decide) rfl q136 ?_
      refine r_bipush (pc := 139) (z := 6) (by decide +kernel) ⟨by decide, by decide⟩ ?_
      refine r_iload_n (pc := 141) 1 (n := 1) (by decide +kernel) rfl rfl ?_
      refine r_imul (pc := 142) (by decide +kernel) ?_
      refine r_iload_n (pc := 143) 3 (n := 3) (by decide +kernel) rfl rfl ?_
      refine r_iadd (pc := 144) (by decide +kernel) ?_
      obtain ⟨e145, q145, h⟩ := bnd h
      refine r_iald (pc := 145) (by decide +kernel) q145 ?_
      obtain ⟨m146, q146, h⟩ := bnd h
      refine r_iast (pc := 146) (by decide +kernel) q146 ?_
      refine r_aload_n (pc := 147) 0 (n := 0) (by decide +kernel) rfl rfl ?_
      obtain ⟨g148, q148, h⟩ := bnd h
      refine r_get (pc := 148) (by decide +kernel) fl_M_59.r (by decide) rfl q148 ?_
      refine r_bipush (pc := 151) (z := 6) (by decide +kernel) ⟨by decide, by decide⟩ ?_
      refine r_iload_n (pc := 153) 2 (n := 2) (by decide +kernel) rfl rfl ?_
      refine r_imul (pc := 154) (by decide +kernel) ?_
      refine r_iload_n (pc := 155) 3 (n := 3) (by decide +kernel) rfl rfl ?_
      refine r_iadd (pc := 156) (by decide +kernel) ?_
      refine r_aload_n (pc := 157) 0 (n := 0) (by decide +kernel) rfl rfl ?_
      obtain ⟨g158, q158, h⟩ := bnd h
      refine r_get (pc := 158) (by decide +kernel) fl_M_59.r (by decide) rfl q158 ?_
      refine r_bipush (pc := 161) (z := 6) (by decide +kernel) ⟨by decide, by decide⟩ ?_
      refine r_iload_n (pc := 163) 1 (n := 1) (by decide +kernel) rfl rfl ?_
      refine r_imul (pc := 164) (by decide +kernel) ?_
      refine r_iload_n (pc := 165) 3 (n := 3) (by decide +kernel) rfl rfl ?_
      refine r_iadd (pc := 166) (by decide +kernel) ?_
      obtain ⟨e167, q167, h⟩ := bnd h
      refine r_iald (pc := 167) (by decide +kernel) q167 ?_
      obtain ⟨m168, q168, h⟩ := bnd h
      refine r_iast (pc := 168) (by decide +kernel) q168 ?_
      refine r_iinc (pc := 169) 3 (n := 1) (lv' := [(3, (0, wr (v3 + 1))), (0, (2, v0)), (1, (0, v1)), (2, (0, v2))]) (by decide +kernel) rfl (Nat.le_of_ble_eq_true rfl) rfl ?_
      refine r_goto (pc := 172) (off := (-119)) (tgt := 53) (by decide +kernel) (by decide) ?_
      refine r_lv [1, 2, 3, 0] rfl ?_
      exact ih (wr (v3 + 1)) m168 h
theorem c_M_copy {d : Nat} (hd : 1 ≤ d) {a0 a1 a2 : Int} {M : Mem} {x : Mem} (h : D_M_copy a0 a1 a2 M = some x) : Ct d Y_M_copy [(2, a0), (0, a1), (0, a2)] M (none, x) 0 0 := by
  refine ct_of yk_M_copy (Nat.le_of_ble_eq_true rfl) ?_
  rw [D_M_copy] at h
  show Rn Y_M_copy d 0 0 0 0 (none, x) 0 [(0, (2, a0)), (1, (0, a1)), (2, (0, a2))] [] M
  refine r_aload_n (pc := 0) 0 (n := 0) (by decide +kernel) rfl rfl ?_
  obtain ⟨g1, q1, h⟩ := bnd h
  refine r_get (pc := 1) (by decide +kernel) fl_M_41.r (by decide) rfl q1 ?_
  refine r_iload_n (pc := 4) 2 (n := 2) (by decide +kernel) rfl rfl ?_
  refine r_aload_n (pc := 5) 0 (n := 0) (by decide +kernel) rfl rfl ?_
  obtain ⟨g6, q6, h⟩ := bnd h
  refine r_get (pc := 6) (by decide +kernel) fl_M_41.r (by decide) rfl q6 ?_
  refine r_iload_n (pc := 9) 1 (n := 1) (by decide +kernel) rfl rfl ?_
  obtain ⟨e10, q10, h⟩ := bnd h
  refine r_iald (pc := 10) (by decide +kernel) q10 ?_
  obtain ⟨m11, q11, h⟩ := bnd h
  refine r_iast (pc := 11) (by decide +kernel) q11 ?_
  refine r_iconst (pc := 12) (z := 0) (by decide +kernel) ⟨by decide, by decide⟩ ?_
  refine r_istore_n (pc := 13) (n := 3) (lv' := [(3, (0, 0)), (0, (2, a0)), (1, (0, a1)), (2, (0, a2))]) (by decide +kernel) rfl (Nat.le_of_ble_eq_true rfl) rfl ?_
  refine r_lv [1, 2, 3, 0] rfl ?_
  refine sL_M_copy_14 (by omega) ?_ _ _  _ h
  intro m14 h
  refine r_iconst (pc := 51) (z := 0) (by decide +kernel) ⟨by decide, by decide⟩ ?_
  refine r_istore_n (pc := 52) (n := 3) (lv' := [(3, (0, 0)), (0, (2, a0)), (1, (0, a1)), (2, (0, a2))]) (by decide +kernel) rfl (Nat.le_of_ble_eq_true rfl) rfl ?_
  refine r_lv [1, 2, 3, 0] rfl ?_
  refine sL_M_copy_53 (by omega) ?_ _ _  _ h
  intro m53 h
  obtain rfl := Option.some.inj h
  exact r_ret (pc := 175) (r := none) (by decide +kernel) rfl trivial (Nat.le_of_ble_eq_true rfl) (Nat.le_of_ble_eq_true rfl)
