/-! the reference: the classes of the row's trees -/
/-- a pile of values -/
def Cg (S V pile : Int → Int) (L : Int) : Nat → Int → Prop
  | 0, q => q = L
  | t + 1, q => q < L ∧ 1 ≤ S q ∧ pile t = V q ∧ Cg S V pile L t (q + S q)
theorem Cg_s (S V pile : Int → Int) (L : Int) (t : Nat) (q : Int) : Cg S V pile L (t + 1) q = (q < L ∧ 1 ≤ S q ∧ pile t = V q ∧ Cg S V pile L t (q + S q)) := rfl
theorem Cg.c {S V pile pile' : Int → Int} {L : Int} : ∀ {t : Nat} {q : Int}, Cg S V pile L t q → (∀ j : Nat, j < t → pile' j = pile j) → Cg S V pile' L t q := by
  intro t
  induction t with
  | zero => intro q h _; exact h
  | succ t ih =>
    intro q h e
    rw [Cg_s] at h ⊢
    exact ⟨h.1, h.2.1, by rw [e t (by omega)]; exact h.2.2.1, ih h.2.2.2 (fun j hj => e j (by omega))⟩
theorem Cg.le {S V pile : Int → Int} {L : Int} : ∀ {t : Nat} {q : Int}, Cg S V pile L t q → q + t ≤ L := by
  intro t
  induction t with
  | zero => intro q h; have : q = L := h; omega
  | succ t ih =>
    intro q h
    rw [Cg_s] at h
    have := ih h.2.2.2
    omega
theorem Cg.pos {S V pile : Int → Int} {L : Int} {t : Nat} {q : Int} (h : Cg S V pile L t q) (l : q < L) : ∃ u, t = u + 1 := by
  cases t with
  | zero => have : q = L := h; omega
  | succ t => exact ⟨t, rfl⟩
def CLP (M : Mem) (K : Int → Int) (M' : Mem) : Prop := M'.2 = M.2 ∧ (∀ a, a ≠ 90 → a ≠ 91 → M'.1 a = M.1 a) ∧ SB M' ∧ ∀ i, 0 ≤ i → i < M.1 62 3 → M'.1 91 i = K i
theorem cl9_lp {M : Mem} {S K : Int → Int} {c : Int} (hB : SB M) (hg : SgE M) (c6 : c ≤ 6) (hL : 0 ≤ M.1 62 3 ∧ M.1 62 3 ≤ 120) (hR : ∀ i, 0 ≤ i → i < M.1 62 3 → 0 ≤ M.1 64 i ∧ M.1 64 i < M.1 1 1) (hT : TRE (rkC M) (M.1 62 3) (M.1 64) S) (hK : RDN (rkC M) (mT (mchR M 16)) c (M.1 62 3) 0 (M.1 64) S K) (P : Option Mem → Prop) (k : Mem → Option Mem) (h2 : ∀ M', CLP M K M' → P (k M')) : P (L_M_classify_9 k 62 FU 0 (M.1 62 3 - 1) M) := by
  refine lq2 (n := FU) (a := 0) (b := M.1 62 3 - 1) (M := M) (fun n u v M' => L_M_classify_9 k 62 n u v M') (fun u v M' => -1 ≤ v ∧ v < M.1 62 3 ∧ M'.2 = M.2 ∧ (∀ a, a ≠ 90 → a ≠ 91 → M'.1 a = M.1 a) ∧ (∃ t : Nat, u = t ∧ Cg S K (M'.1 90) (M.1 62 3) t (v + 1)) ∧ ∀ i, v < i → i < M.1 62 3 → M'.1 91 i = K i) (fun u v => (v + 1).toNat) P ?_ ⟨by omega, by omega, rfl, fun _ _ _ => rfl, ⟨0, rfl, by show M.1 62 3 - 1 + 1 = M.1 62 3; omega⟩, fun i a b => by omega⟩ (by have := FU_eq; omega)
  intro n u v M' ⟨v0, v1, s2, o2, ⟨t, eu, hCh⟩, h91⟩ ih
  subst eu
  show P (L_M_classify_9 k 62 (n + 1) t v M')
  have hB' : SB M' := SB_c hB s2 (fun a k s => by rw [o2 a (by unfold stp at s; omega) (by unfold stp at s; omega)])
  have c64 : M'.1 64 = M.1 64 := o2 64 (by decide) (by decide)
  have c63 : M'.1 63 = M.1 63 := o2 63 (by decide) (by decide)
  have em : mT (mchR M' 16) = mT (mchR M 16) := by
    unfold mchR mT
    rw [o2 74 (by decide) (by decide)]
  rw [L_M_classify_9]
  by_cases q : v < 0
  · simp [-Option.bind_some, -Option.bind_none, gf, pf, rd, wt, ck, ln, lt, bz, nq, up_1, up_2, obs, obn, q]
    exact h2 M' ⟨s2, o2, hB', fun i a b => h91 i (by omega) b⟩
  · have v00 : 0 ≤ v := by omega
    have v12 : v < 120 := by omega
    have n6 := hg.1.2.1
    have rr := hR v v00 v1
    have rg := hg.1.rk (M.1 64 v)
    have r63 := hg.2.2 (M.1 64 v) rr.1 rr.2
    have r6 : M.1 64 v < 6 := by omega
    have e1 : wr (v + (-1)) = v - 1 := wr_eq (by omega) (by omega)
    have hle := hCh.le
    have tv := hT v v00 v1
    have kk := (hK v v00 v1).1
    unfold kv at kk
    have ar := (hK.arg hT v00 v1 (by omega)).b6 c6
    have g1 : gf M' 62 9 54 1 = some 63 := by simp [gf, hB'.m_]
    have g2 : gf M' 62 9 54 2 = some 64 := by simp [gf, hB'.m_]
    have g42 : gf M' 62 9 54 42 = some 90 := by simp [gf, hB'.m_]
    have ck0 : ck M' 62 9 54 = some () := by simp [ck, hB'.m_]
    have d1 : rd M' 10 64 v = some (M.1 64 v) := by rw [rd_v (n := 120) (by simp [hB'.m_]) v00 (by omega), c64]
    have d2 : rd M' 10 63 (M.1 64 v) = some (rkC M (M.1 64 v)) := by rw [rd_v (n := 6) (by simp [hB'.m_]) rr.1 (by omega), c63, r63]
    simp only [q, if_false, g1, g2, g42, ck0, obs, d1, d2]
    have go : ∀ (t' : Nat) (x y m : Int), wr ((t : Int) - rkC M (M.1 64 v)) = t' → x = (if 1 ≤ rkC M (M.1 64 v) then K (v + 1) else 0) → y = (if 2 ≤ rkC M (M.1 64 v) then K (v + 1 + S (v + 1)) else 0) → t' ≤ 119 → Cg S K (M'.1 90) (M.1 62 3) t' (v + S v) → P (lt (wr ((t : Int) - rkC M (M.1 64 v))) fun u1_75 => (D_M_step 62 16 (M.1 64 v) x y M').bind fun x89 => (wt x89.2 10 90 u1_75 x89.1).bind fun m92 => (gf m92 62 9 54 43).bind fun g94 => (gf m92 62 9 54 42).bind fun g99 => (rd m92 10 g99 u1_75).bind fun e103 => (wt m92 10 g94 v e103).bind fun m104 => L_M_classify_9 k 62 n (wr (u1_75 + 1)) (wr (v + (-1))) m104) := by
      intro t' x y m ew ex ey t9 hc
      have w1 : wr ((t' : Int) + 1) = (t' : Int) + 1 := wr_eq (by omega) (by omega)
      have t0 : (0 : Int) ≤ t' := by omega
      have t12 : (t' : Int) < 120 := by omega
      have t12n : t' < 120 := by omega
      have so := rstep_ok (M := M') (m := 16) (s := M.1 64 v) (x := x) (y := y) hB' (by decide) ⟨rr.1, r6⟩ (by rw [ex]; exact ar.1) (by rw [ey]; exact ar.2)
      rw [em] at so
      have kk' : mT (mchR M 16) (M.1 64 v) x y = K v := by rw [ex, ey]; exact kk.symm
      rw [kk'] at so
      rw [ew]
      unfold lt
      clear ar ex ey kk' kk
      simp [-Option.bind_some, -Option.bind_none, gf, pf, rd, wt, ck, ln, lt, bz, nq, up_1, up_2, obs, obn, so, hB'.m_, t0, t12, t12n, v00, v12]
      rw [w1, e1]
      refine ih ((t' : Int) + 1) (v - 1) _ ⟨by omega, by omega, by rw [up_2, up_2]; exact s2, fun a z0 z1 => by rw [up_n z1, up_n z0]; exact o2 a z0 z1, ⟨t' + 1, by omega, ?_⟩, fun i a b => ?_⟩ (by omega)
      · rw [show v - 1 + 1 = v by omega, Cg_s]
        refine ⟨v1, tv.1, ?_, hc.c (fun j hj => ?_)⟩
        · rw [up_n (by decide), up_1, if_pos ⟨rfl, rfl⟩]
        · rw [up_n (by decide), up_1, if_neg (by omega)]
      · by_cases z : i = v
        · rw [z, up_1, if_pos ⟨rfl, rfl⟩]
        · rw [up_1, if_neg (by omega), up_n (by decide)]; exact h91 i (by omega) b
    have eS := tv.2.2.2.2
    by_cases c0 : rkC M (M.1 64 v) ≤ 0
    · have c1 : rkC M (M.1 64 v) ≤ 1 := by omega
      rw [if_pos c0] at eS
      simp only [c0, c1, if_true, obs]
      refine go t 0 0 0 (by rw [show (t : Int) - rkC M (M.1 64 v) = t by omega]; exact wr_eq (by omega) (by omega)) (by rw [if_neg (by omega)]) (by rw [if_neg (by omega)]) (by omega) (by rw [eS]; exact hCh)
    · have l1 := tv.2.2.1 (by omega)
      obtain ⟨u, eu⟩ := hCh.pos l1
      subst eu
      rw [Cg_s] at hCh
      obtain ⟨p1, p2, p3, p4⟩ := hCh
      have hle2 := p4.le
      have w1 : wr (((u + 1 : Nat) : Int) - 1) = (u : Int) := by rw [wr_eq (by omega) (by omega)]; omega
      have x0 : (0 : Int) ≤ u := by omega
      have d3 : rd M' 10 90 (u : Int) = some (K (v + 1)) := by rw [rd_v (n := 120) (by simp [hB'.m_]) x0 (by omega), p3]
      rw [if_neg c0] at eS
      by_cases c1 : rkC M (M.1 64 v) ≤ 1
      · rw [if_pos c1] at eS
        simp only [c0, c1, if_true, if_false, obs, w1, d3]
        refine go u _ 0 0 (by rw [wr_eq (by omega) (by omega)]; omega) (by rw [if_pos (by omega)]) (by rw [if_neg (by omega)]) (by omega) (by rw [eS, show v + (1 + S (v + 1)) = v + 1 + S (v + 1) by omega]; exact p4)
      · rw [if_neg c1] at eS
        have l2 := tv.2.2.2.1 (by omega)
        obtain ⟨u', eu'⟩ := p4.pos l2
        subst eu'
        rw [Cg_s] at p4
        obtain ⟨p5, p6, p7, p8⟩ := p4
        have hle3 := p8.le
        have w2 : wr (((u' + 1 + 1 : Nat) : Int) - 2) = (u' : Int) := by rw [wr_eq (by omega) (by omega)]; omega
        have d4 : rd M' 10 90 (u' : Int) = some (K (v + 1 + S (v + 1))) := by rw [rd_v (n := 120) (by simp [hB'.m_]) (by omega) (by omega), p7]
        simp only [c0, c1, if_false, obs, w1, w2, d3, d4]
        refine go u' _ _ 0 (by rw [wr_eq (by omega) (by omega)]; omega) (by rw [if_pos (by omega)]) (by rw [if_pos (by omega)]) (by omega) (by rw [eS, show v + (1 + S (v + 1) + S (v + 1 + S (v + 1))) = v + 1 + S (v + 1) + S (v + 1 + S (v + 1)) by omega]; exact p8)
theorem classify_ok {M : Mem} {S K : Int → Int} {c : Int} (hB : SB M) (hg : SgE M) (c6 : c ≤ 6) (hL : 0 ≤ M.1 62 3 ∧ M.1 62 3 ≤ 120) (hR : ∀ i, 0 ≤ i → i < M.1 62 3 → 0 ≤ M.1 64 i ∧ M.1 64 i < M.1 1 1) (hT : TRE (rkC M) (M.1 62 3) (M.1 64) S) (hK : RDN (rkC M) (mT (mchR M 16)) c (M.1 62 3) 0 (M.1 64) S K) : OkM (D_M_classify 62 M) (fun M' => CLP M K M') := by
  have e0 : wr (M.1 62 3 - 1) = M.1 62 3 - 1 := wr_eq (by omega) (by omega)
  have g3 : gf M 62 9 54 3 = some (M.1 62 3) := by simp [gf, hB.m_]
  unfold D_M_classify
  rw [g3, obs]
  unfold lt
  rw [e0]
  exact cl9_lp hB hg c6 hL hR hT hK (fun o => OkM o (fun M' => CLP M K M')) _ (fun M' h => OkM.i h)
