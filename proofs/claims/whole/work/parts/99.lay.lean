/-! the least tree, on both sides -/
/-- the first class that is final -/
def FF (m : Mch) (c : Int) : Prop := (0 ≤ c ∧ c < mN m) ∧ mF m c ∧ ∀ j, 0 ≤ j → j < c → ¬ mF m j
theorem FF.u {n : Int} {rk : Int → Int} {m m' : Mch} (e : Eqm n rk m m') {c c' : Int} (h : FF m c) (h' : FF m' c') : c = c' := by
  have e1 := e.1
  have a := (e.2.1 c h.1.1 h.1.2).2.2.2.2
  have b := (e.2.1 c' h'.1.1 (by have := h'.1.2; omega)).2.2.2.2
  by_cases q : c < c'
  · exact absurd (a.mp h.2.1) (h'.2.2 c h.1.1 q)
  · by_cases q' : c' < c
    · exact absurd (b.mpr h'.2.1) (h.2.2 c' h'.1.1 q')
    · omega
/-- the class's row is T -/
def SETR (T : List Int) (M M' : Mem) : Prop := M'.2 = M.2 ∧ (∀ a, a ≠ 3 → a ≠ 4 → M'.1 a = M.1 a) ∧ (∀ k, k ≠ 4 → M'.1 3 k = M.1 3 k) ∧ M'.1 4 = wq (M.1 4) 0 T ∧ M'.1 3 4 = ln' T ∧ SB M'
def WLP (M : Mem) (p r : Int) (M' : Mem) : Prop := (r = -1 ∧ M' = M ∧ ∀ c, 0 ≤ c → c < M.1 p 10 → ¬ mF (mch M p) c) ∨ ∃ c, FF (mch M p) c ∧ r = ln' (fst_ (rkC M) (mch M p) 6 c) ∧ SETR (fst_ (rkC M) (mch M p) 6 c) M M'
theorem becomeFirst_ok {M : Mem} {p c : Int} (hB : SB M) (hg : SgOk M) (hM : MOK M p) (hH : HD (M.1 1 1) (rkC M) (mch M p)) (c0 : 0 ≤ c) (c1 : c < M.1 p 10) : OkM (D_Row_becomeFirstTree 3 p c M) (fun M' => SETR (fst_ (rkC M) (mch M p) 6 c) M M') := by
  have p100 := hM.2.1
  have k6 : 0 ≤ M.1 p 10 ∧ M.1 p 10 ≤ 6 := hM.2.2.1.1
  have hB0 : SB (up M 3 4 0) := SB_up hB (by unfold stp; omega)
  have o0 : ∀ a, a ≠ 3 → (up M 3 4 0).1 a = M.1 a := fun a q => up_n q
  have z0 : (up M 3 4 0).1 3 4 = 0 := by rw [up_1, if_pos ⟨rfl, rfl⟩]
  have f0 : ∀ k, k ≠ 4 → (up M 3 4 0).1 3 k = M.1 3 k := fun k q => by rw [up_1, if_neg (fun z => q z.2)]
  have s0 : (up M 3 4 0).2 = M.2 := up_2 ..
  have r4 : M.2.1 3 = (4, 5) := by simp [hB.r_]
  have ep : pf M 3 4 5 4 0 = some (up M 3 4 0) := by simp [pf, r4]
  unfold D_Row_becomeFirstTree
  rw [ep, obs]
  generalize up M 3 4 0 = N at *
  have ek : rkC N = rkC M := rk_c (o0 1 (by decide)) (o0 2 (by decide))
  have em : mch N p = mch M p := mch_c ek (fun a a0 a1 => o0 a (by omega))
  have hg0 : SgOk N := by unfold SgOk; rw [o0 1 (by decide), o0 2 (by decide)]; exact hg
  have mok : MOK N p := hM.c (by rw [o0 1 (by decide)]) ek (fun a a0 a1 => ⟨o0 a (by omega), by rw [s0]⟩)
  have l63 := fst_63 (rkC N) (mch N p) c
  obtain ⟨M1, d1, A1⟩ := addFirst_ok (p := p) 6 (M := N) (c := c) (a := 0) (n := 0) (N := TF) hB0 hg0 mok (by rw [o0 1 (by decide), ek, em]; exact hH) c0 (by rw [o0 p (by omega)]; exact c1) (by omega) (by decide) (by decide) (by rw [TF_eq]; decide) (by rw [z0]; decide) (by rw [z0]; omega)
  have hB1 := A1.sb hB0
  obtain ⟨b1, b2, b3, b4, b5⟩ := A1
  rw [ek, em] at b4 b5
  simp [-Option.bind_some, -Option.bind_none, gf, pf, rd, wt, ck, ln, lt, bz, nq, up_1, up_2, obs, obn, hB0.r_, d1]
  refine ⟨M1, rfl, b1.trans s0, fun a q r => by rw [b2 a q r, o0 a q], fun k q => by rw [b3 k q, f0 k q], by rw [b4, o0 4 (by decide), z0], by rw [b5, z0]; omega, hB1⟩
theorem writeLeast_ok {M : Mem} {p : Int} (hB : SB M) (hg : SgOk M) (hM : MOK M p) (hH : HD (M.1 1 1) (rkC M) (mch M p)) : OkV (D_T_writeLeast 0 p M) (fun r M' => WLP M p r M') := by
  have k6 : 0 ≤ M.1 p 10 ∧ M.1 p 10 ≤ 6 := hM.2.2.1.1
  have ff := hM.2.2.2
  unfold D_T_writeLeast
  refine lq1 (n := FU) (a := 0) (M := M) (fun n v M' => L_T_writeLeast_2 (fun m2 => some ((-1), m2)) 0 p n v M') (fun v M' => M' = M ∧ (0 ≤ v ∧ v ≤ M.1 p 10) ∧ ∀ c, 0 ≤ c → c < v → ¬ mF (mch M p) c) (fun v => (M.1 p 10 - v).toNat) (fun o => OkV o (fun r M' => WLP M p r M')) ?_ ⟨rfl, ⟨Int.le_refl 0, k6.1⟩, fun c a b => by omega⟩ (by have := FU_eq; omega)
  intro n v M' ⟨em, vr, hv⟩ ih
  subst em
  show OkV (L_T_writeLeast_2 (fun m2 => some ((-1), m2)) 0 p (n + 1) v M') _
  have ms := hM.1
  rw [L_T_writeLeast_2]
  by_cases q : M'.1 p 10 ≤ v
  · simp [-Option.bind_some, -Option.bind_none, gf, pf, rd, wt, ck, ln, lt, bz, nq, up_1, up_2, obs, obn, ms, q]
    exact OkV.i (Or.inl ⟨rfl, rfl, fun c a b => hv c a (by clear ms; omega)⟩)
  · have fb := finalBit_ok (c := v) ms
    have bg := bt_get (z := M'.1 p 11) (i := v) ff.1 (by clear ms; omega) vr.1 (by clear ms; omega)
    rcases bg with ⟨b1, b2⟩ | ⟨b1, b2⟩
    · obtain ⟨M1, d1, hS⟩ := becomeFirst_ok (c := v) hB hg hM hH vr.1 (by clear ms; omega)
      have hB1 := hS.2.2.2.2.2
      have e5 := hS.2.2.2.2.1
      rw [b2] at fb
      simp [-Option.bind_some, -Option.bind_none, gf, pf, rd, wt, ck, ln, lt, bz, nq, up_1, up_2, obs, obn, ms, q, fb, hB.t_, hB.r_, d1, hB1.t_, hB1.r_]
      exact OkV.i (Or.inr ⟨v, ⟨⟨vr.1, by clear ms; show v < M'.1 p 10; omega⟩, b1, hv⟩, e5, hS⟩)
    · have ew : wr (v + 1) = v + 1 := wr_eq (by clear ms; omega) (by clear ms; omega)
      rw [b2] at fb
      simp [-Option.bind_some, -Option.bind_none, gf, pf, rd, wt, ck, ln, lt, bz, nq, up_1, up_2, obs, obn, ms, q, fb]
      rw [ew]
      refine ih (v + 1) M' ⟨rfl, by clear ms; omega, fun c a b => ?_⟩ (by clear ms; omega)
      by_cases z : c = v
      · rw [z]; exact b1
      · exact hv c a (by clear ms; omega)
/-! the reference -/
def rst (F : Int → List Int) (pile : Int → Int) : Nat → List Int
  | 0 => []
  | t + 1 => F (pile t) ++ rst F pile t
theorem rst_s (F : Int → List Int) (pile : Int → Int) (t : Nat) : rst F pile (t + 1) = F (pile t) ++ rst F pile t := rfl
theorem rst_c {F : Int → List Int} {pile pile' : Int → Int} : ∀ {t : Nat}, (∀ j : Nat, j < t → pile' j = pile j) → rst F pile' t = rst F pile t := by
  intro t
  induction t with
  | zero => intro _; rfl
  | succ t ih => intro h; rw [rst_s, rst_s, h t (by omega), ih (fun j hj => h j (by omega))]
def LFP (M : Mem) (m r : Int) (M' : Mem) : Prop := (r = -1 ∧ M' = M ∧ ∀ c, 0 ≤ c → c < M.1 73 m → ¬ mF (mchR M m) c) ∨ ∃ c, FF (mchR M m) c ∧ r = ln' (fst_ (rkC M) (mchR M m) 6 c) ∧ M'.2 = M.2 ∧ (∀ a, a ≠ 62 → a ≠ 64 → a ≠ 90 → M'.1 a = M.1 a) ∧ (∀ k, k ≠ 3 → M'.1 62 k = M.1 62 k) ∧ M'.1 64 = wq (M.1 64) 0 (fst_ (rkC M) (mchR M m) 6 c) ∧ M'.1 62 3 = ln' (fst_ (rkC M) (mchR M m) 6 c) ∧ SB M'
/-- while trees are laid -/
def LAYI (M : Mem) (m : Int) (g : Int → Int) (T : List Int) (t : Nat) (M' : Mem) : Prop := M'.2 = M.2 ∧ (∀ a, a ≠ 62 → a ≠ 64 → a ≠ 90 → M'.1 a = M.1 a) ∧ (∀ k, k ≠ 3 → M'.1 62 k = M.1 62 k) ∧ SB M' ∧ (∀ j : Nat, j < t → 0 ≤ M'.1 90 j ∧ M'.1 90 j < M.1 73 m) ∧ ∃ R, R ++ rst (fst_ (rkC M) (mchR M m) 6) (M'.1 90) t = T ∧ M'.1 64 = wq g 0 R ∧ M'.1 62 3 = ln' R
theorem lay_lp {M : Mem} {m : Int} {g : Int → Int} {T : List Int} (hg : SgE M) (hm : 0 ≤ m ∧ m ≤ 18) (hH : HD (M.1 1 1) (rkC M) (mchR M m)) (k6 : M.1 73 m ≤ 6) (hT : T.length ≤ 63) (k : Mem → Option (Int × Mem)) (P : Option (Int × Mem) → Prop) (h2 : ∀ M', LAYI M m g T 0 M' → P (k M')) : ∀ (z n t : Nat) (M' : Mem), (rst (fst_ (rkC M) (mchR M m) 6) (M'.1 90) t).length = z → z < n → LAYI M m g T t M' → P (L_M_layFirst_58 k 62 m n t M') := by
  have Fe : ∀ c, 0 ≤ c → c < M.1 73 m → fst_ (rkC M) (mchR M m) 6 c = mH (mchR M m) c :: ((if 1 ≤ rkC M (mH (mchR M m) c) then fst_ (rkC M) (mchR M m) 6 (m1 (mchR M m) c) else []) ++ (if 2 ≤ rkC M (mH (mchR M m) c) then fst_ (rkC M) (mchR M m) 6 (m2 (mchR M m) c) else [])) := by
    intro c c0 c1
    have hc := hH c c0 c1
    rw [fst_s]
    congr 1
    congr 1
    · by_cases w : 1 ≤ rkC M (mH (mchR M m) c)
      · rw [if_pos w, if_pos w]
        have := hc.2.1 w
        exact fst_st hH 5 6 _ this.1 (by show _ < M.1 73 m; omega) (by omega) (by omega)
      · rw [if_neg w, if_neg w]
    · by_cases w : 2 ≤ rkC M (mH (mchR M m) c)
      · rw [if_pos w, if_pos w]
        have := hc.2.2 w
        exact fst_st hH 5 6 _ this.1 (by show _ < M.1 73 m; omega) (by omega) (by omega)
      · rw [if_neg w, if_neg w]
  have tl : ∀ (t : Nat) (pile : Int → Int), (∀ j : Nat, j < t → 0 ≤ pile j ∧ pile j < M.1 73 m) → t ≤ (rst (fst_ (rkC M) (mchR M m) 6) pile t).length := by
    intro t
    induction t with
    | zero => intro _ _; exact Nat.zero_le _
    | succ t ih =>
      intro pile h
      have a := ih pile (fun j hj => h j (by omega))
      have b := h t (by omega)
      rw [rst_s, List.length_append, Fe _ b.1 b.2, List.length_cons]
      omega
  intro z
  induction z with
  | zero =>
    intro n t M' ez zn hI
    have := tl t _ hI.2.2.2.2.1
    have t0 : t = 0 := by omega
    subst t0
    cases n with
    | zero => omega
    | succ n =>
      rw [L_M_layFirst_58]
      dsimp only
      rw [if_pos (by decide)]
      exact h2 M' hI
  | succ z ih =>
    intro n t M' ez zn hI
    cases t with
    | zero => exact absurd ez (by show ¬ (0 : Nat) = z + 1; omega)
    | succ t =>
    cases n with
    | zero => omega
    | succ n =>
    obtain ⟨s2, o2, f2, hB', hp, R, eT, e64, e3⟩ := hI
    have lT : R.length + (rst (fst_ (rkC M) (mchR M m) 6) (M'.1 90) (t + 1)).length = T.length := by rw [← eT, List.length_append]
    have tt := tl (t + 1) _ hp
    have pc := hp t (by omega)
    have hc := hH _ pc.1 pc.2
    have n6 := hg.1.2.1
    rw [rst_s, Fe _ pc.1 pc.2] at eT ez
    generalize ec : M'.1 90 (t : Int) = c at *
    have eH : mH (mchR M m) c = M.1 77 (6 * m + c) := rfl
    have e1 : m1 (mchR M m) c = M.1 78 (6 * m + c) := rfl
    have e2 : m2 (mchR M m) c = M.1 79 (6 * m + c) := rfl
    rw [eH] at eT ez hc
    rw [e1] at eT ez hc
    rw [e2] at eT ez hc
    have lR : ln' R = (R.length : Int) := rfl
    have r63 := hg.2.2 (M.1 77 (6 * m + c)) hc.1.1 hc.1.2
    have rg := hg.1.rk (M.1 77 (6 * m + c))
    have w0 : wr (((t + 1 : Nat) : Int) + (-1)) = (t : Int) := by rw [wr_eq (by omega) (by omega)]; omega
    have w1 : wr (6 * m) = 6 * m := wr_eq (by omega) (by omega)
    have w2 : wr (6 * m + c) = 6 * m + c := wr_eq (by omega) (by omega)
    have w3 : wr (ln' R + 1) = ln' R + 1 := wr_eq (by omega) (by omega)
    have w4 : wr ((t : Int) + 1) = ((t + 1 : Nat) : Int) := by rw [wr_eq (by omega) (by omega)]; omega
    have w5 : wr (((t + 1 : Nat) : Int) + 1) = ((t + 1 + 1 : Nat) : Int) := by rw [wr_eq (by omega) (by omega)]; omega
    have x0 : (0 : Int) ≤ t := by omega
    have x12 : (t : Int) < 120 := by omega
    have x12n : t < 120 := by omega
    have y0 : 0 ≤ 6 * m + c := by omega
    have y1 : 6 * m + c < 114 := by omega
    have v0 : 0 ≤ ln' R := by omega
    have v1 : ln' R < 120 := by omega
    have np : ¬ ((t + 1 : Nat) : Int) ≤ 0 := by omega
    have n1 : M'.1 77 = M.1 77 := o2 77 (by decide) (by decide) (by decide)
    have n2 : M'.1 78 = M.1 78 := o2 78 (by decide) (by decide) (by decide)
    have n3 : M'.1 79 = M.1 79 := o2 79 (by decide) (by decide) (by decide)
    have n4 : M'.1 63 = M.1 63 := o2 63 (by decide) (by decide) (by decide)
    have g77 : gf M' 62 9 54 17 = some 77 := by simp [gf, hB'.m_]
    have g64 : gf M' 62 9 54 2 = some 64 := by simp [gf, hB'.m_]
    have g3 : gf M' 62 9 54 3 = some (ln' R) := by rw [← e3]; simp [gf, hB'.m_]
    have g42 : gf M' 62 9 54 42 = some 90 := by simp [gf, hB'.m_]
    have r90 : rd M' 10 90 (t : Int) = some c := by rw [rd_v (n := 120) (by simp [hB'.m_]) x0 (by omega), ec]
    have r77 : rd M' 10 77 (6 * m + c) = some (M.1 77 (6 * m + c)) := by rw [rd_v (n := 114) (by simp [hB'.m_]) y0 (by omega), n1]
    have wt1 : wt M' 10 64 (ln' R) (M.1 77 (6 * m + c)) = some (up M' 64 (ln' R) (M.1 77 (6 * m + c))) := wt_v (n := 120) (by simp [hB'.m_]) v0 (by omega)
    generalize hh : M.1 77 (6 * m + c) = h at *
    have hBa : SB (up M' 64 (ln' R) h) := SB_up hB' (by unfold stp; omega)
    have g3a : gf (up M' 64 (ln' R) h) 62 9 54 3 = some (ln' R) := by simp [gf, hBa.m_, up_1, e3]
    have pfa : pf (up M' 64 (ln' R) h) 62 9 54 3 (ln' R + 1) = some (up (up M' 64 (ln' R) h) 62 3 (ln' R + 1)) := by simp [pf, hBa.m_]
    have hB1 : SB (up (up M' 64 (ln' R) h) 62 3 (ln' R + 1)) := SB_up hBa (by unfold stp; omega)
    have b2 : (up (up M' 64 (ln' R) h) 62 3 (ln' R + 1)).2 = M'.2 := by rw [up_2, up_2]
    have b0 : ∀ a, a ≠ 62 → a ≠ 64 → (up (up M' 64 (ln' R) h) 62 3 (ln' R + 1)).1 a = M'.1 a := fun a q r => by rw [up_n q, up_n r]
    have bf : ∀ k, k ≠ 3 → (up (up M' 64 (ln' R) h) 62 3 (ln' R + 1)).1 62 k = M'.1 62 k := fun k q => by rw [up_1, if_neg (fun z => q z.2), up_n (by decide)]
    have b3 : (up (up M' 64 (ln' R) h) 62 3 (ln' R + 1)).1 62 3 = ln' R + 1 := by rw [up_1, if_pos ⟨rfl, rfl⟩]
    have b64 : (up (up M' 64 (ln' R) h) 62 3 (ln' R + 1)).1 64 = wq g 0 (R ++ [h]) := by
      rw [up_n (by decide), up_f, if_pos rfl, wq_a, e64, show (0 : Int) + ln' R = ln' R by omega]
      rfl
    have b3' : ln' (R ++ [h]) = ln' R + 1 := by rw [ln'_a]; rfl
    rw [L_M_layFirst_58]
    simp only [np, if_false, g42, obs, w0, r90, w1, lt, w2, g77, r77, g64, g3, wt1, g3a, w3, pfa]
    clear g3a pfa wt1 hBa
    generalize up (up M' 64 (ln' R) h) 62 3 (ln' R + 1) = N at *
    have g63 : gf N 62 9 54 1 = some 63 := by simp [gf, hB1.m_]
    have g42n : gf N 62 9 54 42 = some 90 := by simp [gf, hB1.m_]
    have g78 : gf N 62 9 54 18 = some 78 := by simp [gf, hB1.m_]
    have g79 : gf N 62 9 54 19 = some 79 := by simp [gf, hB1.m_]
    have rd63 : rd N 10 63 h = some (rkC M h) := by rw [rd_v (n := 6) (by simp [hB1.m_]) hc.1.1 (by omega), b0 63 (by decide) (by decide), n4, r63]
    have rd78 : rd N 10 78 (6 * m + c) = some (M.1 78 (6 * m + c)) := by rw [rd_v (n := 114) (by simp [hB1.m_]) y0 (by omega), b0 78 (by decide) (by decide), n2]
    have rd79 : rd N 10 79 (6 * m + c) = some (M.1 79 (6 * m + c)) := by rw [rd_v (n := 114) (by simp [hB1.m_]) y0 (by omega), b0 79 (by decide) (by decide), n3]
    simp only [g63, obs, rd63, g42n, g78, g79, rd78, rd79]
    have go : ∀ (t' : Nat) (N' : Mem), N'.2 = N.2 → (∀ a, a ≠ 90 → N'.1 a = N.1 a) → SB N' → (∀ j : Nat, j < t' → 0 ≤ N'.1 90 j ∧ N'.1 90 j < M.1 73 m) → (h :: rst (fst_ (rkC M) (mchR M m) 6) (N'.1 90) t' = (h :: ((if 1 ≤ rkC M h then fst_ (rkC M) (mchR M m) 6 (M.1 78 (6 * m + c)) else []) ++ (if 2 ≤ rkC M h then fst_ (rkC M) (mchR M m) 6 (M.1 79 (6 * m + c)) else [])) ++ rst (fst_ (rkC M) (mchR M m) 6) (M'.1 90) t)) → P (L_M_layFirst_58 k 62 m n (t' : Int) N') := by
      intro t' N' q1 q2 q3 q4 q5
      refine ih n t' N' ?_ (by omega) ⟨by rw [q1, b2, s2], fun a x y z => by rw [q2 a z, b0 a x y, o2 a x y z], fun k x => by rw [q2 62 (by decide), bf k x, f2 k x], q3, q4, R ++ [h], ?_, by rw [q2 64 (by decide), b64], by rw [q2 62 (by decide), b3, b3']⟩
      · rw [← q5, List.length_cons] at ez
        omega
      · rw [← eT, ← q5, List.append_assoc]
        rfl
    by_cases c2 : rkC M h ≤ 1
    · rw [if_pos c2]
      have k2 : ¬ 2 ≤ rkC M h := by omega
      simp only [obs, g63, rd63, g42n, g78, rd78]
      by_cases c1 : rkC M h ≤ 0
      · rw [if_pos c1, obs]
        refine go t N rfl (fun _ _ => rfl) hB1 (fun j hj => by rw [b0 90 (by decide) (by decide)]; exact hp j (by omega)) ?_
        rw [if_neg (by omega), if_neg k2, b0 90 (by decide) (by decide)]
        rfl
      · rw [if_neg c1]
        have h1 := hc.2.1 (by omega)
        have wt2 : wt N 10 90 (t : Int) (M.1 78 (6 * m + c)) = some (up N 90 t (M.1 78 (6 * m + c))) := wt_v (n := 120) (by simp [hB1.m_]) x0 (by omega)
        rw [wt2, obs, obs]
        dsimp only
        rw [w4]
        refine go (t + 1) _ (up_2 ..) (fun a q => up_n q) (SB_up hB1 (by unfold stp; omega)) (fun j hj => ?_) ?_
        · by_cases y : j = t
          · rw [y, up_1, if_pos ⟨rfl, rfl⟩]; omega
          · rw [up_1, if_neg (by omega), b0 90 (by decide) (by decide)]; exact hp j (by omega)
        · rw [if_pos (by omega), if_neg k2, rst_s, up_1, if_pos ⟨rfl, rfl⟩, rst_c (pile := M'.1 90) (fun j hj => by rw [up_1, if_neg (by omega), b0 90 (by decide) (by decide)]), List.append_nil]
          rfl
    · rw [if_neg c2]
      have h1 := hc.2.1 (by omega)
      have h2' := hc.2.2 (by omega)
      have wt2 : wt N 10 90 (t : Int) (M.1 79 (6 * m + c)) = some (up N 90 t (M.1 79 (6 * m + c))) := wt_v (n := 120) (by simp [hB1.m_]) x0 (by omega)
      have hB2 : SB (up N 90 t (M.1 79 (6 * m + c))) := SB_up hB1 (by unfold stp; omega)
      have o3 : ∀ a, a ≠ 90 → (up N 90 t (M.1 79 (6 * m + c))).1 a = N.1 a := fun a q => up_n q
      have o3t : (up N 90 t (M.1 79 (6 * m + c))).1 90 t = M.1 79 (6 * m + c) := by rw [up_1, if_pos ⟨rfl, rfl⟩]
      have o3j : ∀ j : Nat, j < t → (up N 90 t (M.1 79 (6 * m + c))).1 90 j = M'.1 90 j := fun j hj => by rw [up_1, if_neg (by omega), b0 90 (by decide) (by decide)]
      have o32 : (up N 90 t (M.1 79 (6 * m + c))).2 = N.2 := up_2 ..
      rw [wt2, obs, obs]
      dsimp only
      rw [w4]
      generalize up N 90 t (M.1 79 (6 * m + c)) = N2 at *
      have g63' : gf N2 62 9 54 1 = some 63 := by simp [gf, hB2.m_]
      have g42' : gf N2 62 9 54 42 = some 90 := by simp [gf, hB2.m_]
      have g78' : gf N2 62 9 54 18 = some 78 := by simp [gf, hB2.m_]
      have rd63' : rd N2 10 63 h = some (rkC M h) := by rw [rd_v (n := 6) (by simp [hB2.m_]) hc.1.1 (by omega), o3 63 (by decide), b0 63 (by decide) (by decide), n4, r63]
      have rd78' : rd N2 10 78 (6 * m + c) = some (M.1 78 (6 * m + c)) := by rw [rd_v (n := 114) (by simp [hB2.m_]) y0 (by omega), o3 78 (by decide), b0 78 (by decide) (by decide), n2]
      have wt3 : wt N2 10 90 ((t + 1 : Nat) : Int) (M.1 78 (6 * m + c)) = some (up N2 90 ((t + 1 : Nat) : Int) (M.1 78 (6 * m + c))) := wt_v (n := 120) (by simp [hB2.m_]) (by omega) (by omega)
      simp only [g63', obs, rd63', if_neg (show ¬ rkC M h ≤ 0 by omega), g42', g78', rd78', wt3]
      rw [w5]
      refine go (t + 1 + 1) _ (by rw [up_2]; exact o32) (fun a q => by rw [up_n q]; exact o3 a q) (SB_up hB2 (by unfold stp; omega)) (fun j hj => ?_) ?_
      · by_cases y : j = t + 1
        · rw [y, up_1, if_pos ⟨rfl, rfl⟩]; omega
        · rw [up_1, if_neg (by omega)]
          by_cases y' : j = t
          · rw [y', o3t]; omega
          · rw [o3j j (by omega)]; exact hp j (by omega)
      · rw [if_pos (by omega), if_pos (by omega), rst_s, up_1, if_pos ⟨rfl, rfl⟩, rst_s, up_1, if_neg (by omega), o3t, rst_c (pile := M'.1 90) (fun j hj => by rw [up_1, if_neg (by omega)]; exact o3j j hj)]
        rw [List.cons_append, List.append_assoc]
theorem find_lp {M : Mem} {m : Int} (hB : SB M) (hm : 0 ≤ m ∧ m ≤ 18) (k6 : 0 ≤ M.1 73 m ∧ M.1 73 m ≤ 6) (hA : BA M) (k : Int → Mem → Option (Int × Mem)) (P : Option (Int × Mem) → Prop) (h2 : ∀ v, ((v = M.1 73 m ∧ ∀ c, 0 ≤ c → c < M.1 73 m → ¬ mF (mchR M m) c) ∨ FF (mchR M m) v) → P (k v M)) : P (L_M_layFirst_2 k 62 m FU 0 M) := by
  refine lq1 (n := FU) (a := 0) (M := M) (fun n v M' => L_M_layFirst_2 k 62 m n v M') (fun v M' => M' = M ∧ (0 ≤ v ∧ v ≤ M.1 73 m) ∧ ∀ c, 0 ≤ c → c < v → ¬ mF (mchR M m) c) (fun v => (M.1 73 m - v).toNat) P ?_ ⟨rfl, ⟨Int.le_refl 0, k6.1⟩, fun c a b => by omega⟩ (by have := FU_eq; omega)
  intro n v M' ⟨em, vr, hv⟩ ih
  subst em
  show P (L_M_layFirst_2 k 62 m (n + 1) v M')
  have m0 := hm.1
  have m19 : m < 19 := by omega
  have w1 : wr (6 * m) = 6 * m := wr_eq (by omega) (by omega)
  have w2 : wr (6 * m + v) = 6 * m + v := wr_eq (by omega) (by omega)
  have ew : wr (v + 1) = v + 1 := wr_eq (by omega) (by omega)
  rw [L_M_layFirst_2]
  by_cases q : M'.1 73 m ≤ v
  · simp [-Option.bind_some, -Option.bind_none, gf, pf, rd, wt, ck, ln, lt, bz, nq, up_1, up_2, obs, obn, hB.m_, m0, m19, q]
    exact h2 v (Or.inl ⟨by omega, fun c a b => hv c a (by omega)⟩)
  · have i0 : 0 ≤ 6 * m + v := by omega
    have i1 : 6 * m + v < 114 := by omega
    rcases hA (6 * m + v) i0 i1 with z | z
    · simp [-Option.bind_some, -Option.bind_none, gf, pf, rd, wt, ck, ln, lt, bz, nq, up_1, up_2, obs, obn, hB.m_, m0, m19, q, w1, w2, i0, i1, z]
      rw [ew]
      refine ih (v + 1) M' ⟨rfl, by omega, fun c a b => ?_⟩ (by omega)
      by_cases y : c = v
      · rw [y]; intro w; have w : M'.1 75 (6 * m + v) = 1 := w; omega
      · exact hv c a (by omega)
    · simp [-Option.bind_some, -Option.bind_none, gf, pf, rd, wt, ck, ln, lt, bz, nq, up_1, up_2, obs, obn, hB.m_, m0, m19, q, w1, w2, i0, i1, z]
      exact h2 v (Or.inr ⟨⟨vr.1, by show v < M'.1 73 m; omega⟩, z, hv⟩)
theorem layFirst_ok {M : Mem} {m : Int} (hB : SB M) (hg : SgE M) (hm : 0 ≤ m ∧ m ≤ 18) (hH : HD (M.1 1 1) (rkC M) (mchR M m)) (k6 : 0 ≤ M.1 73 m ∧ M.1 73 m ≤ 6) (hA : BA M) : OkV (D_M_layFirst 62 m M) (fun r M' => LFP M m r M') := by
  unfold D_M_layFirst
  refine find_lp hB hm k6 hA _ (fun o => OkV o (fun r M' => LFP M m r M')) (fun v hv => ?_)
  have m0 := hm.1
  have m19 : m < 19 := by omega
  have g13 : gf M 62 9 54 13 = some 73 := by simp [gf, hB.m_]
  have r73 : rd M 10 73 m = some (M.1 73 m) := rd_v (n := 19) (by simp [hB.m_]) m0 (by omega)
  rw [g13, obs, r73, obs]
  rcases hv with ⟨e, hn⟩ | hf
  · rw [if_pos e]
    exact OkV.i (Or.inl ⟨rfl, rfl, hn⟩)
  · have v1 : v < M.1 73 m := hf.1.2
    have v0 := hf.1.1
    rw [if_neg (by omega)]
    have hB1 : SB (up M 62 3 0) := SB_up hB (by unfold stp; omega)
    have ep : pf M 62 9 54 3 0 = some (up M 62 3 0) := by simp [pf, hB.m_]
    have g42 : gf (up M 62 3 0) 62 9 54 42 = some 90 := by simp [gf, hB1.m_]
    have ew : wt (up M 62 3 0) 10 90 0 v = some (up (up M 62 3 0) 90 0 v) := wt_v (n := 120) (by simp [hB1.m_]) (by decide) (by decide)
    have hB2 : SB (up (up M 62 3 0) 90 0 v) := SB_up hB1 (by unfold stp; omega)
    rw [ep, obs, g42, obs, ew, obs]
    have l63 := fst_63 (rkC M) (mchR M m) v
    have eR : rst (fst_ (rkC M) (mchR M m) 6) ((up (up M 62 3 0) 90 0 v).1 90) 1 = fst_ (rkC M) (mchR M m) 6 v := by
      rw [rst_s, show ((0 : Nat) : Int) = 0 from rfl, up_1, if_pos ⟨rfl, rfl⟩]
      exact List.append_nil _
    have l63' : (fst_ (rkC M) (mchR M m) 6 v).length ≤ 63 := by unfold ln' at l63; omega
    refine lay_lp (g := M.1 64) (T := fst_ (rkC M) (mchR M m) 6 v) hg hm hH k6.2 l63' _ (fun o => OkV o (fun r M' => LFP M m r M')) (fun M' hI => ?_) (fst_ (rkC M) (mchR M m) 6 v).length FU 1 _ (by rw [eR]) (by have := FU_eq; omega) ⟨by rw [up_2, up_2], fun a x y z => by rw [up_n z, up_n x], fun k x => by rw [up_n (by decide), up_1, if_neg (fun z => x z.2)], hB2, fun j hj => ?_, [], ?_, ?_, ?_⟩
    · obtain ⟨s2, o2, f2, hB', hp, R, eT, e64, e3⟩ := hI
      have eT' : R = fst_ (rkC M) (mchR M m) 6 v := by rw [← eT]; exact (List.append_nil R).symm
      rw [eT'] at e64 e3
      have g3 : gf M' 62 9 54 3 = some (M'.1 62 3) := by simp [gf, hB'.m_]
      rw [g3, obs, e3]
      exact OkV.i (Or.inr ⟨v, hf, rfl, s2, o2, f2, e64, e3, hB'⟩)
    · have j0 : j = 0 := by omega
      subst j0
      rw [show ((0 : Nat) : Int) = 0 from rfl, up_1, if_pos ⟨rfl, rfl⟩]
      exact ⟨v0, v1⟩
    · rw [eR]; rfl
    · rw [up_n (by decide), up_n (by decide)]; rfl
    · rw [up_n (by decide), up_1, if_pos ⟨rfl, rfl⟩]; rfl
