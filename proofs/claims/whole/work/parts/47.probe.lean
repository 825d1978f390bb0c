/-! probes and marks -/
/-- what probe q's step makes of a set -/
def prb (M : Mem) (q z : Int) : Int := ior (M.1 (26 + 3 * q + 1) (iand z 63)) (M.1 (26 + 3 * q + 2) (iand (ishr z 6) 63))
/-- where probe q asks -/
def GP (M : Mem) : Nat → Int → Int → Int
  | 0, _, z => z
  | n + 1, q, z => if q ≤ 0 then z else GP M n (M.1 19 q) (prb M q z)
theorem GP_s (M : Mem) (n : Nat) (q z : Int) : GP M (n + 1) q z = if q ≤ 0 then z else GP M n (M.1 19 q) (prb M q z) := Eq.trans rfl rfl
/-- what probe q is -/
def Prq (N M : Mem) (q : Int) : Prop := 0 ≤ M.1 19 q ∧ M.1 19 q < q ∧ ∃ s o, 0 ≤ s ∧ s < N.1 1 1 ∧ ((1 ≤ rkC N s ∧ (2 ≤ rkC N s → Rch (N.1 1 1) (rkC N) (dN N) o) ∧ ∀ z, vs N z → prb M q z = dN N s z o) ∨ (2 ≤ rkC N s ∧ Rch (N.1 1 1) (rkC N) (dN N) o ∧ ∀ z, vs N z → prb M q z = dN N s o z))
def PI (N M : Mem) : Prop := 1 ≤ M.1 10 14 ∧ M.1 10 14 ≤ 8 ∧ ∀ q, 1 ≤ q → q < M.1 10 14 → Prq N M q
theorem rch_vs {N : Mem} (h : NtOk N) (g : SgOk N) {z : Int} (r : Rch (N.1 1 1) (rkC N) (dN N) z) : vs N z := by
  refine r (fun z => vs N z) ?_
  intro s x y hs hn hx hy
  exact dN_v h ⟨hs, by have := g.2.1; omega⟩ hx hy
theorem Prq.v {N M : Mem} (h : NtOk N) (g : SgOk N) {q z : Int} (p : Prq N M q) (v : vs N z) : vs N (prb M q z) := by
  obtain ⟨-, -, s, o, s0, s1, w⟩ := p
  have hs : 0 ≤ s ∧ s < 6 := ⟨s0, by have := g.2.1; omega⟩
  rcases w with ⟨r1, ro, e⟩ | ⟨r2, ro, e⟩
  · rw [e z v]
    exact dN_v h hs (fun _ => v) (fun r => rch_vs h g (ro r))
  · rw [e z v]
    exact dN_v h hs (fun _ => rch_vs h g ro) (fun _ => v)
theorem GP_v {N M : Mem} (h : NtOk N) (g : SgOk N) (p : PI N M) : ∀ (n : Nat) (q z : Int), q < M.1 10 14 → vs N z → vs N (GP M n q z) := by
  intro n
  induction n with
  | zero => intro q z _ v; exact v
  | succ n ih =>
    intro q z hq v
    unfold GP
    by_cases h0 : q ≤ 0
    · rw [if_pos h0]; exact v
    · rw [if_neg h0]
      have w := p.2.2 q (by omega) hq
      refine ih _ _ ?_ (w.v h g v)
      have := w.2.1
      omega
/-- fuel that is enough -/
theorem GP_f {N M : Mem} (p : PI N M) : ∀ (n m : Nat) (q z : Int), q < M.1 10 14 → q ≤ n → q ≤ m → GP M n q z = GP M m q z := by
  intro n
  induction n with
  | zero =>
    intro m q z _ h1 _
    cases m with
    | zero => rfl
    | succ m => unfold GP; rw [if_pos (by omega)]
  | succ n ih =>
    intro m q z hq h1 h2
    by_cases h0 : q ≤ 0
    · cases m with
      | zero => unfold GP; rw [if_pos h0]
      | succ m => unfold GP; rw [if_pos h0, if_pos h0]
    · cases m with
      | zero => omega
      | succ m =>
        unfold GP
        rw [if_neg h0, if_neg h0]
        have w := p.2.2 q (by omega) hq
        have := w.2.1
        exact ih m _ _ (by omega) (by omega) (by omega)
/-- the marks of a set -/
def mkB (M : Mem) (z : Int) : Int := orN (M.1 10 14).toNat (fun p => if acN M (GP M 8 p z) = 0 then 0 else ishl 1 p)
theorem acN_01 (M : Mem) (z : Int) : acN M z = 0 ∨ acN M z = 1 := by
  unfold acN
  generalize iand (ishr _ _) 1 = w
  by_cases h : w = 0
  · left; rw [if_pos h]
  · right; rw [if_neg h]
theorem sp_st {M : Mem} (h : SBD M) {q : Int} (h0 : 0 ≤ q) (h1 : q < 8) : M.1 18 q = 26 + 3 * q ∧ SW M (26 + 3 * q) := by
  have c : q = 0 ∨ q = 1 ∨ q = 2 ∨ q = 3 ∨ q = 4 ∨ q = 5 ∨ q = 6 ∨ q = 7 := by omega
  rcases c with c | c | c | c | c | c | c | c <;> subst c <;> simp [h, SW]
theorem from_p {N M : Mem} (hF : Fr N M) (h : NtOk N) {q z : Int} (h0 : 0 ≤ q) (h1 : q < 8) (v : vs N z) : D_Step_from (26 + 3 * q) z M = some (prb M q z, M) := by
  have w := (sp_st hF.1.d_ h0 h1).2
  exact from_v w v.1 (val12 h v.2)
theorem marks_in {N M : Mem} (hF : Fr N M) (h : NtOk N) (g : SgOk N) (p : PI N M) {v1 v2 v3 z q : Int} (hq : 0 ≤ q) (hq1 : q < M.1 10 14) (v : vs N z) (k : Int → Mem → Option (Int × Mem)) : L_Reducer_marksOf_21 k 10 v1 v2 v3 FU z q 0 M = k (GP M 8 q z) M := by
  have p8 := p.2.1
  refine lq3 (fun n a b c M' => L_Reducer_marksOf_21 k 10 v1 v2 v3 n a b c M') (fun a b c M' => M' = M ∧ 0 ≤ b ∧ b < M.1 10 14 ∧ 0 ≤ c ∧ c ≤ 8 ∧ vs N a ∧ GP M (8 - c).toNat b a = GP M 8 q z) (fun a b c => (8 - c).toNat) (fun o => o = k (GP M 8 q z) M) ?_ ⟨rfl, hq, hq1, Int.le_refl 0, by decide, v, rfl⟩ (by have := FU_eq; omega)
  intro n a b c M' ⟨hM, b0, b1, c0, c8, va, e⟩ ih
  subst hM
  show L_Reducer_marksOf_21 k 10 v1 v2 v3 (n + 1) a b c M' = _
  rw [L_Reducer_marksOf_21]
  by_cases hc : 8 ≤ c
  · simp [-Option.bind_some, -Option.bind_none, gf, pf, rd, wt, ck, ln, lt, bz, nq, up_1, up_2, obs, obn, hc]
    rw [← e, show (8 - c).toNat = 0 by omega]
    rfl
  · rw [show (8 - c).toNat = (8 - (c + 1)).toNat + 1 by omega] at e
    rw [GP_s] at e
    by_cases hb : b ≤ 0
    · rw [if_pos hb] at e
      simp [-Option.bind_some, -Option.bind_none, gf, pf, rd, wt, ck, ln, lt, bz, nq, up_1, up_2, obs, obn, hc, hb]
      rw [e]
    · rw [if_neg hb] at e
      have b8 : b < 8 := by omega
      have w := sp_st hF.1.d_ b0 b8
      have fr := from_p hF h b0 b8 va
      have pq := p.2.2 b (by omega) b1
      have := pq.2.1
      have e1 : wr (c + 1) = c + 1 := wr_eq (by omega) (by omega)
      simp [-Option.bind_some, -Option.bind_none, gf, pf, rd, wt, ck, ln, lt, bz, nq, up_1, up_2, obs, obn, hc, hb, hF.1.d_, b0, b8, w, fr, e1]
      exact ih _ _ _ _ ⟨rfl, pq.1, by omega, by omega, by omega, pq.v h g va, e⟩ (by omega)
theorem marksOf_ok {N M : Mem} (hF : Fr N M) (h : NtOk N) (g : SgOk N) (p : PI N M) {z : Int} (v : vs N z) : D_Reducer_marksOf 10 z M = some (mkB M z, M) := by
  unfold D_Reducer_marksOf
  have p1 := p.1
  have p8 := p.2.1
  refine lq2 (fun n a b M' => L_Reducer_marksOf_4 (fun w2_4 m4 => some (w2_4, m4)) 10 z n a b M') (fun a b M' => M' = M ∧ 0 ≤ b ∧ b ≤ M.1 10 14 ∧ a = orN b.toNat (fun p => if acN M (GP M 8 p z) = 0 then 0 else ishl 1 p)) (fun a b => (M.1 10 14 - b).toNat) (fun o => o = some (mkB M z, M)) ?_ ⟨rfl, Int.le_refl 0, by omega, rfl⟩ (by have := FU_eq; omega)
  intro n a b M' ⟨hM, b0, b1, e⟩ ih
  subst hM
  show L_Reducer_marksOf_4 _ _ _ (n + 1) a b M' = _
  rw [L_Reducer_marksOf_4]
  by_cases hb : M'.1 10 14 ≤ b
  · simp [-Option.bind_some, -Option.bind_none, gf, pf, rd, wt, ck, ln, lt, bz, nq, up_1, up_2, obs, obn, hF.1.d_, hb]
    have : b = M'.1 10 14 := by omega
    rw [e, this]
    rfl
  · have e1 : wr (b + 1) = b + 1 := wr_eq (by omega) (by omega)
    simp [-Option.bind_some, -Option.bind_none, gf, pf, rd, wt, ck, ln, lt, bz, nq, up_1, up_2, obs, obn, hF.1.d_, hb]
    rw [marks_in hF h g p b0 (by omega) v]
    simp [-Option.bind_some, -Option.bind_none, gf, pf, rd, wt, ck, ln, lt, bz, nq, up_1, up_2, obs, obn, hF.1.d_, hF.1.n_, accepts_ok hF.1.n_]
    have hstep : orN (b + 1).toNat (fun p => if acN M' (GP M' 8 p z) = 0 then 0 else ishl 1 p) = ior a (if acN M' (GP M' 8 b z) = 0 then 0 else ishl 1 b) := by
      rw [show (b + 1).toNat = b.toNat + 1 by omega, e]
      show ior _ (if acN M' (GP M' 8 ((b.toNat : Nat) : Int) z) = 0 then 0 else ishl 1 ((b.toNat : Nat) : Int)) = _
      rw [show ((b.toNat : Nat) : Int) = b by omega]
    rw [is2, obs, e1]
    exact ih _ _ _ ⟨rfl, by omega, by omega, hstep.symm⟩ (by omega)
theorem mkB_b {N M : Mem} (p : PI N M) (z : Int) : (0 ≤ mkB M z ∧ mkB M z < 2 ^ 8) ∧ ∀ q, 0 ≤ q → (bt (mkB M z) q ↔ q < M.1 10 14 ∧ acN M (GP M 8 q z) = 1) := by
  have p1 := p.1
  have p8 := p.2.1
  obtain ⟨r, e⟩ := orN_ok (b := 8) (by decide) (k := (M.1 10 14).toNat) (g := fun p => if acN M (GP M 8 p z) = 0 then 0 else ishl 1 p) (by
    intro x h0 h1
    split
    · decide
    · exact ishl1_r h0 (by omega) (by decide))
  refine ⟨r, fun q q0 => ?_⟩
  unfold mkB
  rw [e q]
  constructor
  · intro ⟨x, h0, h1, c⟩
    by_cases ha : acN M (GP M 8 x z) = 0
    · (try dsimp only at c); rw [if_pos ha] at c; exact absurd c (bt_zero q)
    · (try dsimp only at c); rw [if_neg ha] at c
      have : q = x := (bt_shl h0 (by omega) q0).mp c
      subst this
      refine ⟨by omega, ?_⟩
      rcases acN_01 M (GP M 8 q z) with w | w
      · exact absurd w ha
      · exact w
  · intro ⟨h1, ha⟩
    refine ⟨q, q0, by omega, ?_⟩
    (try dsimp only)
    rw [if_neg (by omega)]
    exact (bt_shl q0 (by omega) q0).mpr rfl
/-- the probes are the same -/
def Pq (M M' : Mem) : Prop := M'.1 8 = M.1 8 ∧ M'.1 10 14 = M.1 10 14 ∧ ∀ q, 0 ≤ q → q < M.1 10 14 → M'.1 19 q = M.1 19 q ∧ M'.1 (26 + 3 * q + 1) = M.1 (26 + 3 * q + 1) ∧ M'.1 (26 + 3 * q + 2) = M.1 (26 + 3 * q + 2)
theorem Pq.of {N M M' : Mem} (p : PI N M) (e8 : M'.1 8 = M.1 8) (e14 : M'.1 10 14 = M.1 10 14) (e19 : M'.1 19 = M.1 19) (h : ∀ a, 26 ≤ a → a < 50 → M'.1 a = M.1 a) : Pq M M' := by
  have p8 := p.2.1
  exact ⟨e8, e14, fun q q0 q1 => ⟨by rw [e19], h _ (by omega) (by omega), h _ (by omega) (by omega)⟩⟩
theorem Pq.prb {M M' : Mem} (h : Pq M M') {q z : Int} (q0 : 0 ≤ q) (q1 : q < M.1 10 14) : prb M' q z = prb M q z := by
  unfold Pilot.CTreeTonguesLaw_law_r3355_3c53dc.prb
  rw [(h.2.2 q q0 q1).2.1, (h.2.2 q q0 q1).2.2]
theorem gp_c {N M M' : Mem} (h : ∀ q, 0 ≤ q → q < M.1 10 14 → M'.1 19 q = M.1 19 q ∧ M'.1 (26 + 3 * q + 1) = M.1 (26 + 3 * q + 1) ∧ M'.1 (26 + 3 * q + 2) = M.1 (26 + 3 * q + 2)) (p : PI N M) : ∀ (n : Nat) (q z : Int), q < M.1 10 14 → GP M' n q z = GP M n q z := by
  intro n
  induction n with
  | zero => intro q z _; rfl
  | succ n ih =>
    intro q z hq
    rw [GP_s, GP_s]
    by_cases h0 : q ≤ 0
    · rw [if_pos h0, if_pos h0]
    · have w := p.2.2 q (by omega) hq
      have e := h q (by omega) hq
      have := w.2.1
      have ep : Pilot.CTreeTonguesLaw_law_r3355_3c53dc.prb M' q z = Pilot.CTreeTonguesLaw_law_r3355_3c53dc.prb M q z := by
        unfold Pilot.CTreeTonguesLaw_law_r3355_3c53dc.prb
        rw [e.2.1, e.2.2]
      rw [if_neg h0, if_neg h0, e.1, ep]
      exact ih _ _ (by omega)
theorem Pq.gp {N M M' : Mem} (h : Pq M M') (p : PI N M) (n : Nat) (q z : Int) (hq : q < M.1 10 14) : GP M' n q z = GP M n q z := gp_c h.2.2 p n q z hq
theorem Pq.mk {N M M' : Mem} (h : Pq M M') (p : PI N M) (z : Int) : mkB M' z = mkB M z := by
  unfold mkB
  rw [h.2.1]
  refine orN_c (fun x h0 h1 => ?_)
  have p1 := p.1
  rw [h.gp p 8 x z (by omega)]
  unfold acN
  rw [h.1]
theorem Prq.c {N M M' : Mem} {q : Int} (h : M'.1 19 q = M.1 19 q ∧ M'.1 (26 + 3 * q + 1) = M.1 (26 + 3 * q + 1) ∧ M'.1 (26 + 3 * q + 2) = M.1 (26 + 3 * q + 2)) (p : Prq N M q) : Prq N M' q := by
  obtain ⟨a, b, s, o, s0, s1, w⟩ := p
  have ep : ∀ z, Pilot.CTreeTonguesLaw_law_r3355_3c53dc.prb M' q z = Pilot.CTreeTonguesLaw_law_r3355_3c53dc.prb M q z := fun z => by
    unfold Pilot.CTreeTonguesLaw_law_r3355_3c53dc.prb
    rw [h.2.1, h.2.2]
  unfold Prq
  rw [h.1]
  refine ⟨a, b, s, o, s0, s1, ?_⟩
  rcases w with ⟨r1, ro, e⟩ | ⟨r2, ro, e⟩
  · exact Or.inl ⟨r1, ro, fun z v => by rw [ep]; exact e z v⟩
  · exact Or.inr ⟨r2, ro, fun z v => by rw [ep]; exact e z v⟩
theorem Pq.pi {N M M' : Mem} (h : Pq M M') (p : PI N M) : PI N M' := by
  unfold PI
  rw [h.2.1]
  exact ⟨p.1, p.2.1, fun q q0 q1 => (p.2.2 q q0 q1).c (h.2.2 q (by omega) q1)⟩
abbrev IndN (N : Mem) (a b : Int) : Prop := Ind (N.1 1 1) (rkC N) (dN N) (fun z => acN N z = 1) a b
/-- sets that nothing tells apart have the same marks -/
theorem ind_gp {N M : Mem} (p : PI N M) : ∀ (n : Nat) (q a b : Int), q < M.1 10 14 → vs N a → vs N b → NtOk N → SgOk N → IndN N a b → (acN N (GP M n q a) = 1 ↔ acN N (GP M n q b) = 1) := by
  intro n
  induction n with
  | zero => intro q a b _ _ _ _ _ ⟨E, hE, e⟩; exact (hE a b e).1
  | succ n ih =>
    intro q a b hq va vb hN hg ⟨E, hE, e⟩
    unfold GP
    by_cases h0 : q ≤ 0
    · rw [if_pos h0, if_pos h0]; exact (hE a b e).1
    · rw [if_neg h0, if_neg h0]
      have w := p.2.2 q (by omega) hq
      have wa := w.v hN hg va
      have wb := w.v hN hg vb
      obtain ⟨c0, c1, s, o, s0, s1, w⟩ := w
      refine ih _ _ _ (by omega) wa wb hN hg ⟨E, hE, ?_⟩
      rcases w with ⟨r1, ro, f⟩ | ⟨r2, ro, f⟩
      · rw [f a va, f b vb]
        exact ((hE a b e).2 s o s0 s1).1 r1 ro
      · rw [f a va, f b vb]
        exact ((hE a b e).2 s o s0 s1).2 r2 ro
theorem ind_mk {N M : Mem} (hF : Fr N M) (p : PI N M) (h : NtOk N) (g : SgOk N) {a b : Int} (va : vs N a) (vb : vs N b) (i : IndN N a b) : mkB M a = mkB M b := by
  obtain ⟨r, e⟩ := mkB_b p a
  obtain ⟨r', e'⟩ := mkB_b p b
  refine bt_ext (k := 8) r.1 r.2 r'.1 r'.2 (fun q q0 _ => ?_)
  rw [e q q0, e' q q0, hF.ac]
  constructor
  · intro ⟨x, y⟩; exact ⟨x, (ind_gp p 8 q a b x va vb h g i).mp y⟩
  · intro ⟨x, y⟩; exact ⟨x, (ind_gp p 8 q a b x va vb h g i).mpr y⟩
