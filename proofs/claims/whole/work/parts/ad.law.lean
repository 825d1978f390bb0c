/-! the loop of the law -/
theorem law_lp {L : Nat} {xs : Int → Int} (hL : L ≤ 3072) (hx : ∀ i, xs i < 2147483648) : ∀ (n : Nat) (v : Int) (M : Mem), Inv L xs M → 0 ≤ v → v ≤ L + 6 → ((L : Int) + 6 - v).toNat < 6 * n → ∃ M', L_law_18 (fun m18 => some (1, m18)) 0 62 n v M = some (1, M') := by
  intro n
  induction n with
  | zero => intro v M _ _ _ h; omega
  | succ n ih =>
    intro v M h v0 v1 hn
    have h' := h
    obtain ⟨tc, hI, -, -, hC⟩ := h'
    have hB := hI.sb
    have ck0 : ck M 0 8 8 = some () := by simp [ck, hB.t_]
    have lenM : (M.2.1 1000001).2 = L := by rw [hC.1]
    have wL : wr ((L : Int) - 6) = (L : Int) - 6 := wr_eq (by omega) (by omega)
    rw [L_law_18]
    dsimp only
    rw [lenM, wL]
    by_cases q : (L : Int) - 6 < v
    · rw [if_pos q]
      exact ⟨M, rfl⟩
    rw [if_neg q]
    have w6 : wr (v + 6) = v + 6 := wr_eq (by omega) (by omega)
    have rdx : ∀ {A : Mem}, SC L xs A → ∀ i : Int, 0 ≤ i → i < (L : Int) → rd A 20 1000001 i = some (xs i) := fun sc i a b => by rw [rd_v sc.1 a b, sc.2]
    have r0 := rdx hC v v0 (by omega)
    have w1 : wr (v + 1) = v + 1 := wr_eq (by omega) (by omega)
    have w2 : wr (v + 2) = v + 2 := wr_eq (by omega) (by omega)
    have w3 : wr (v + 3) = v + 3 := wr_eq (by omega) (by omega)
    have w4 : wr (v + 4) = v + 4 := wr_eq (by omega) (by omega)
    have w5 : wr (v + 5) = v + 5 := wr_eq (by omega) (by omega)
    rw [r0, obs, w6]
    have next : ∀ (M2 : Mem), Inv L xs M2 → ∃ M', L_law_18 (fun m18 => some (1, m18)) 0 62 n (v + 6) M2 = some (1, M') := fun M2 h2 => ih (v + 6) M2 h2 (by omega) (by omega) (by omega)
    have ckm : ∀ {A : Mem}, SB A → ck A 62 9 54 = some () := fun hA => by simp [ck, hA.m_]
    clear ih
    generalize iand (xs v) 31 = c at *
    by_cases qc : c < 0 ∨ 28 < c
    · rw [if_pos qc]
      exact next M h
    rw [if_neg qc]
    have s1 : ∀ {A : Mem}, SC L xs A → rd A 20 1000001 (wr (v + 1)) = some (xs (v + 1)) := fun sc => by rw [w1]; exact rdx sc (v + 1) (by omega) (by omega)
    have s2 : ∀ {A : Mem}, SC L xs A → rd A 20 1000001 (wr (v + 2)) = some (xs (v + 2)) := fun sc => by rw [w2]; exact rdx sc (v + 2) (by omega) (by omega)
    have s3 : ∀ {A : Mem}, SC L xs A → rd A 20 1000001 (wr (v + 3)) = some (xs (v + 3)) := fun sc => by rw [w3]; exact rdx sc (v + 3) (by omega) (by omega)
    have s4 : ∀ {A : Mem}, SC L xs A → rd A 20 1000001 (wr (v + 4)) = some (xs (v + 4)) := fun sc => by rw [w4]; exact rdx sc (v + 4) (by omega) (by omega)
    have s5 : ∀ {A : Mem}, SC L xs A → rd A 20 1000001 (wr (v + 5)) = some (xs (v + 5)) := fun sc => by rw [w5]; exact rdx sc (v + 5) (by omega) (by omega)
    by_cases q0 : c = 0
    · rw [if_pos q0]
      obtain ⟨r, M1, M2, e1, e2, sc1, hI2, hB1⟩ := sign_both h (xs (v + 1))
      rw [s1 hC, obs, ck0, obs, e1, obs]
      dsimp only
      rw [s1 sc1, obs, ckm hB1, obs, e2, obs]
      dsimp only
      rw [if_pos rfl]
      exact next M2 hI2
    rw [if_neg q0]
    by_cases q1 : c = 1
    · rw [if_pos q1]
      obtain ⟨r, M1, M2, e1, e2, sc1, hI2, hB1⟩ := rank_both h (xs (v + 1))
      rw [s1 hC, obs, ck0, obs, e1, obs]
      dsimp only
      rw [s1 sc1, obs, ckm hB1, obs, e2, obs]
      dsimp only
      rw [if_pos rfl]
      exact next M2 hI2
    rw [if_neg q1]
    by_cases q2 : c = 2
    · rw [if_pos q2]
      obtain ⟨r, M1, M2, e1, e2, sc1, hI2, hB1⟩ := put_both h (xs (v + 1))
      rw [s1 hC, obs, ck0, obs, e1, obs]
      dsimp only
      rw [s1 sc1, obs, ckm hB1, obs, e2, obs]
      dsimp only
      rw [if_pos rfl]
      exact next M2 hI2
    rw [if_neg q2]
    by_cases q3 : c = 3
    · rw [if_pos q3]
      obtain ⟨r, M1, M2, e1, e2, sc1, hI2, hB1⟩ := drop_both h 
      rw [ck0, obs, e1, obs]
      dsimp only
      rw [ckm hB1, obs, e2, obs]
      dsimp only
      rw [if_pos rfl]
      exact next M2 hI2
    rw [if_neg q3]
    by_cases q4 : c = 4
    · rw [if_pos q4]
      obtain ⟨r, M1, M2, e1, e2, sc1, hI2, hB1⟩ := at_both h (xs (v + 1))
      rw [s1 hC, obs, ck0, obs, e1, obs]
      dsimp only
      rw [s1 sc1, obs, ckm hB1, obs, e2, obs]
      dsimp only
      rw [if_pos rfl]
      exact next M2 hI2
    rw [if_neg q4]
    by_cases q5 : c = 5
    · rw [if_pos q5]
      obtain ⟨r, M1, M2, e1, e2, sc1, hI2, hB1⟩ := tongue_both h (xs (v + 1))
      rw [s1 hC, obs, ck0, obs, e1, obs]
      dsimp only
      rw [s1 sc1, obs, ckm hB1, obs, e2, obs]
      dsimp only
      rw [if_pos rfl]
      exact next M2 hI2
    rw [if_neg q5]
    by_cases q6 : c = 6
    · rw [if_pos q6]
      obtain ⟨r, M1, M2, e1, e2, sc1, hI2, hB1⟩ := rule_both h (xs (v + 1)) (xs (v + 2)) (xs (v + 3)) (xs (v + 4)) (xs (v + 5))
      rw [s1 hC, obs, s2 hC, obs, s3 hC, obs, s4 hC, obs, s5 hC, obs, ck0, obs, e1, obs]
      dsimp only
      rw [s1 sc1, obs, s2 sc1, obs, s3 sc1, obs, s4 sc1, obs, s5 sc1, obs, ckm hB1, obs, e2, obs]
      dsimp only
      rw [if_pos rfl]
      exact next M2 hI2
    rw [if_neg q6]
    by_cases q7 : c = 7
    · rw [if_pos q7]
      obtain ⟨r, M1, M2, e1, e2, sc1, hI2, hB1⟩ := last_both h (xs (v + 1)) (xs (v + 2)) (if xs (v + 3) = 0 then 0 else 1)
      have t3 : (if xs (v + 3) = 0 then (some 0) else (some 1) : Option Int) = some (if xs (v + 3) = 0 then 0 else 1) := by split <;> rfl
      rw [s1 hC, obs, s2 hC, obs, s3 hC, obs, t3, obs, ck0, obs, e1, obs]
      dsimp only
      rw [s1 sc1, obs, s2 sc1, obs, s3 sc1, obs, t3, obs, ckm hB1, obs, e2, obs]
      dsimp only
      rw [if_pos rfl]
      exact next M2 hI2
    rw [if_neg q7]
    by_cases q8 : c = 8
    · rw [if_pos q8]
      obtain ⟨r, M1, M2, e1, e2, sc1, hI2, hB1⟩ := of_both h (xs (v + 1)) (xs (v + 2)) (xs (v + 3))
      rw [s1 hC, obs, s2 hC, obs, s3 hC, obs, ck0, obs, e1, obs]
      dsimp only
      rw [s1 sc1, obs, s2 sc1, obs, s3 sc1, obs, ckm hB1, obs, e2, obs]
      dsimp only
      rw [if_pos rfl]
      exact next M2 hI2
    rw [if_neg q8]
    by_cases q9 : c = 9
    · rw [if_pos q9]
      obtain ⟨r, M1, M2, e1, e2, sc1, hI2, hB1⟩ := not_both h (xs (v + 1))
      rw [s1 hC, obs, ck0, obs, e1, obs]
      dsimp only
      rw [s1 sc1, obs, ckm hB1, obs, e2, obs]
      dsimp only
      rw [if_pos rfl]
      exact next M2 hI2
    rw [if_neg q9]
    by_cases q10 : c = 10
    · rw [if_pos q10]
      obtain ⟨r, M1, M2, e1, e2, sc1, hI2, hB1⟩ := renamed_both h (xs (v + 1)) (xs (v + 2)) (hx (v + 2))
      rw [s1 hC, obs, s2 hC, obs, ck0, obs, e1, obs]
      dsimp only
      rw [s1 sc1, obs, s2 sc1, obs, ckm hB1, obs, e2, obs]
      dsimp only
      rw [if_pos rfl]
      exact next M2 hI2
    rw [if_neg q10]
    by_cases q11 : c = 11
    · rw [if_pos q11]
      obtain ⟨r, M1, M2, e1, e2, sc1, hI2, hB1⟩ := back_both h (xs (v + 1)) (xs (v + 2)) (hx (v + 2))
      rw [s1 hC, obs, s2 hC, obs, ck0, obs, e1, obs]
      dsimp only
      rw [s1 sc1, obs, s2 sc1, obs, ckm hB1, obs, e2, obs]
      dsimp only
      rw [if_pos rfl]
      exact next M2 hI2
    rw [if_neg q11]
    by_cases q12 : c = 12
    · rw [if_pos q12]
      obtain ⟨r, M1, M2, e1, e2, sc1, hI2, hB1⟩ := parts_both h (xs (v + 1))
      rw [s1 hC, obs, ck0, obs, e1, obs]
      dsimp only
      rw [s1 sc1, obs, ckm hB1, obs, e2, obs]
      dsimp only
      rw [if_pos rfl]
      exact next M2 hI2
    rw [if_neg q12]
    by_cases q13 : c = 13
    · rw [if_pos q13]
      obtain ⟨r, M1, M2, e1, e2, sc1, hI2, hB1⟩ := within_both h (xs (v + 1))
      rw [s1 hC, obs, ck0, obs, e1, obs]
      dsimp only
      rw [s1 sc1, obs, ckm hB1, obs, e2, obs]
      dsimp only
      rw [if_pos rfl]
      exact next M2 hI2
    rw [if_neg q13]
    by_cases q14 : c = 14
    · rw [if_pos q14]
      obtain ⟨r, M1, M2, e1, e2, sc1, hI2, hB1⟩ := grafted_both h (xs (v + 1)) (xs (v + 2)) (xs (v + 3))
      rw [s1 hC, obs, s2 hC, obs, s3 hC, obs, ck0, obs, e1, obs]
      dsimp only
      rw [s1 sc1, obs, s2 sc1, obs, s3 sc1, obs, ckm hB1, obs, e2, obs]
      dsimp only
      rw [if_pos rfl]
      exact next M2 hI2
    rw [if_neg q14]
    by_cases q15 : c = 15
    · rw [if_pos q15]
      obtain ⟨r, M1, M2, e1, e2, sc1, hI2, hB1⟩ := undo_both h 
      rw [ck0, obs, e1, obs]
      dsimp only
      rw [ckm hB1, obs, e2, obs]
      dsimp only
      rw [if_pos rfl]
      exact next M2 hI2
    rw [if_neg q15]
    by_cases q16 : c = 16
    · rw [if_pos q16]
      obtain ⟨r, M1, M2, e1, e2, sc1, hI2, hB1⟩ := classes_both h (xs (v + 1))
      rw [s1 hC, obs, ck0, obs, e1, obs]
      dsimp only
      rw [s1 sc1, obs, ckm hB1, obs, e2, obs]
      dsimp only
      rw [if_pos rfl]
      exact next M2 hI2
    rw [if_neg q16]
    by_cases q17 : c = 17
    · rw [if_pos q17]
      obtain ⟨r, M1, M2, e1, e2, sc1, hI2, hB1⟩ := go_both h (xs (v + 1)) (xs (v + 2)) (xs (v + 3)) (xs (v + 4))
      rw [s1 hC, obs, s2 hC, obs, s3 hC, obs, s4 hC, obs, ck0, obs, e1, obs]
      dsimp only
      rw [s1 sc1, obs, s2 sc1, obs, s3 sc1, obs, s4 sc1, obs, ckm hB1, obs, e2, obs]
      dsimp only
      rw [if_pos rfl]
      exact next M2 hI2
    rw [if_neg q17]
    by_cases q18 : c = 18
    · rw [if_pos q18]
      obtain ⟨r, M1, M2, e1, e2, sc1, hI2, hB1⟩ := isLast_both h (xs (v + 1)) (xs (v + 2))
      rw [s1 hC, obs, s2 hC, obs, ck0, obs, e1, obs]
      dsimp only
      rw [s1 sc1, obs, s2 sc1, obs, ckm hB1, obs, e2, obs]
      dsimp only
      rw [if_pos rfl]
      exact next M2 hI2
    rw [if_neg q18]
    by_cases q19 : c = 19
    · rw [if_pos q19]
      obtain ⟨r, M1, M2, e1, e2, sc1, hI2, hB1⟩ := size_both h (xs (v + 1)) (xs (v + 2))
      rw [s1 hC, obs, s2 hC, obs, ck0, obs, e1, obs]
      dsimp only
      rw [s1 sc1, obs, s2 sc1, obs, ckm hB1, obs, e2, obs]
      dsimp only
      rw [if_pos rfl]
      exact next M2 hI2
    rw [if_neg q19]
    by_cases q20 : c = 20
    · rw [if_pos q20]
      obtain ⟨r, M1, M2, e1, e2, sc1, hI2, hB1⟩ := classOf_both h (xs (v + 1))
      rw [s1 hC, obs, ck0, obs, e1, obs]
      dsimp only
      rw [s1 sc1, obs, ckm hB1, obs, e2, obs]
      dsimp only
      rw [if_pos rfl]
      exact next M2 hI2
    rw [if_neg q20]
    by_cases q21 : c = 21
    · rw [if_pos q21]
      obtain ⟨r, M1, M2, e1, e2, sc1, hI2, hB1⟩ := has_both h (xs (v + 1))
      rw [s1 hC, obs, ck0, obs, e1, obs]
      dsimp only
      rw [s1 sc1, obs, ckm hB1, obs, e2, obs]
      dsimp only
      rw [if_pos rfl]
      exact next M2 hI2
    rw [if_neg q21]
    by_cases q22 : c = 22
    · rw [if_pos q22]
      obtain ⟨r, M1, M2, e1, e2, sc1, hI2, hB1⟩ := least_both h (xs (v + 1))
      rw [s1 hC, obs, ck0, obs, e1, obs]
      dsimp only
      rw [s1 sc1, obs, ckm hB1, obs, e2, obs]
      dsimp only
      rw [if_pos rfl]
      exact next M2 hI2
    rw [if_neg q22]
    by_cases q23 : c = 23
    · rw [if_pos q23]
      obtain ⟨r, M1, M2, e1, e2, sc1, hI2, hB1⟩ := unlike_both h (xs (v + 1)) (xs (v + 2))
      rw [s1 hC, obs, s2 hC, obs, ck0, obs, e1, obs]
      dsimp only
      rw [s1 sc1, obs, s2 sc1, obs, ckm hB1, obs, e2, obs]
      dsimp only
      rw [if_pos rfl]
      exact next M2 hI2
    rw [if_neg q23]
    by_cases q24 : c = 24
    · rw [if_pos q24]
      obtain ⟨r, M1, M2, e1, e2, sc1, hI2, hB1⟩ := ends_both h (xs (v + 1))
      rw [s1 hC, obs, ck0, obs, e1, obs]
      dsimp only
      rw [s1 sc1, obs, ckm hB1, obs, e2, obs]
      dsimp only
      rw [if_pos rfl]
      exact next M2 hI2
    rw [if_neg q24]
    by_cases q25 : c = 25
    · rw [if_pos q25]
      obtain ⟨r, M1, M2, e1, e2, sc1, hI2, hB1⟩ := count_both h (xs (v + 1)) (xs (v + 2))
      rw [s1 hC, obs, s2 hC, obs, ck0, obs, e1, obs]
      dsimp only
      rw [s1 sc1, obs, s2 sc1, obs, ckm hB1, obs, e2, obs]
      dsimp only
      rw [if_pos (lc_eq.mpr rfl)]
      exact next M2 hI2
    rw [if_neg q25]
    by_cases q26 : c = 26
    · rw [if_pos q26]
      obtain ⟨r, M1, M2, e1, e2, sc1, hI2, hB1⟩ := tree_both h (xs (v + 1)) (lrr (lsl (xs (v + 2)) 32) (lnd (xs (v + 3)) 4294967295))
      rw [s1 hC, obs, s2 hC, obs, s3 hC, obs, ck0, obs, e1, obs]
      dsimp only
      rw [s1 sc1, obs, s2 sc1, obs, s3 sc1, obs, ckm hB1, obs, e2, obs]
      dsimp only
      rw [if_pos rfl]
      exact next M2 hI2
    rw [if_neg q26]
    by_cases q27 : c = 27
    · rw [if_pos q27]
      obtain ⟨r, M1, M2, e1, e2, sc1, hI2, hB1⟩ := place_both h (xs (v + 1))
      rw [s1 hC, obs, ck0, obs, e1, obs]
      dsimp only
      rw [s1 sc1, obs, ckm hB1, obs, e2, obs]
      dsimp only
      rw [if_pos (lc_eq.mpr rfl)]
      exact next M2 hI2
    rw [if_neg q27]
    obtain ⟨r, M1, M2, e1, e2, sc1, hI2, hB1⟩ := told_both h (xs (v + 1))
    rw [s1 hC, obs, ck0, obs, e1, obs]
    dsimp only
    rw [s1 sc1, obs, ckm hB1, obs, e2, obs]
    dsimp only
    rw [if_pos rfl]
    exact next M2 hI2
