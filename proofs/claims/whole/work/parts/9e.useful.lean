/-! the reference: the useful classes -/
def SWI (n : Int) (rk : Int → Int) (m : Mch) (X : Int) (D : Int → Int → Int → Prop) (Y : Int) : Prop := Snd n rk m Y ∧ (∀ c, bt X c → bt Y c) ∧ ((∀ c, 0 ≤ c → c < mN m → bt Y c → bt X c) → ∀ s x y, 0 ≤ s → s < n → Arg rk (mN m) s x y → 1 ≤ rk s → D s x y → bt X (mT m s x y) → bt X x ∧ (2 ≤ rk s → bt X y))
theorem SWI.c {n : Int} {rk : Int → Int} {m : Mch} {X : Int} {D D' : Int → Int → Int → Prop} {Y : Int} (h : SWI n rk m X D Y) (e : ∀ s x y, 0 ≤ s → s < n → Arg rk (mN m) s x y → 1 ≤ rk s → D' s x y → D s x y) : SWI n rk m X D' Y := ⟨h.1, h.2.1, fun w s x y s0 s1 hA r d b => h.2.2 w s x y s0 s1 hA r (e s x y s0 s1 hA r d) b⟩
theorem us92_lp {M : Mem} {X s x : Int} (hB : SB M) (hg : SgE M) (hW : MW (M.1 1 1) (rkC M) (mchR M 16)) (s0 : 0 ≤ s) (s1 : s < M.1 1 1) (r1 : 1 ≤ rkC M s) (x0 : 0 ≤ x) (x1 : x < M.1 73 16) (v3 : Int) (k : Int → Mem → Option (Int × Mem)) (P : Option (Int × Mem) → Prop) (h2 : ∀ Y, SWI (M.1 1 1) (rkC M) (mchR M 16) X (dn3 s (x + 1) 0) Y → P (k Y M)) {Y0 : Int} (h0 : SWI (M.1 1 1) (rkC M) (mchR M 16) X (dn3 s x 0) Y0) : P (L_M_usefulOf_92 k 62 16 v3 s x FU Y0 0 M) := by
  have k6 : 0 ≤ M.1 73 16 ∧ M.1 73 16 ≤ 6 := hW.1
  have n6 := hg.1.2.1
  have r63 := hg.2.2 s s0 s1
  refine lq2 (n := FU) (a := Y0) (b := 0) (M := M) (fun n Y v M' => L_M_usefulOf_92 k 62 16 v3 s x n Y v M') (fun Y v M' => M' = M ∧ (0 ≤ v ∧ v ≤ (if rkC M s ≤ 1 then 1 else M.1 73 16)) ∧ SWI (M.1 1 1) (rkC M) (mchR M 16) X (dn3 s x v) Y) (fun Y v => ((if rkC M s ≤ 1 then 1 else M.1 73 16) - v).toNat) P ?_ ⟨rfl, ⟨Int.le_refl 0, by split <;> omega⟩, h0⟩ (by have := FU_eq; split <;> omega)
  intro n Y v M' ⟨e, vr, hI⟩ ih
  subst e
  show P (L_M_usefulOf_92 k 62 16 v3 s x (n + 1) Y v M')
  have s6 : s < 6 := by omega
  have g1 : gf M' 62 9 54 1 = some 63 := by simp [gf, hB.m_]
  have g13 : gf M' 62 9 54 13 = some 73 := by simp [gf, hB.m_]
  have ck0 : ck M' 62 9 54 = some () := by simp [ck, hB.m_]
  have d63 : rd M' 10 63 s = some (rkC M' s) := by rw [rd_v (n := 6) (by simp [hB.m_]) s0 (by omega), r63]
  have d73 : rd M' 10 73 16 = some (M'.1 73 16) := rd_v (n := 19) (by simp [hB.m_]) (by decide) (by decide)
  have ew : wr (v + 1) = v + 1 := wr_eq (by omega) (by omega)
  have t102 : (if rkC M' s ≤ 1 then some (1 : Int) else some (M'.1 73 16)) = some (if rkC M' s ≤ 1 then 1 else M'.1 73 16) := by split <;> rfl
  rw [L_M_usefulOf_92]
  simp only [g1, obs, d63, g13, d73, t102]
  by_cases q : (if rkC M' s ≤ 1 then 1 else M'.1 73 16) ≤ v
  · rw [if_pos q]
    refine h2 Y (hI.c (fun s' x' y' _ _ hA _ z => ?_))
    unfold dn3 at z ⊢
    rcases z with z | ⟨z1, z2⟩
    · exact Or.inl z
    · right
      refine ⟨z1, ?_⟩
      subst z1
      have nn := hA.nn
      by_cases w : rkC M' s' ≤ 1
      · rw [if_pos w] at q
        have := hA.2.2.2 (by omega)
        omega
      · rw [if_neg w] at q
        have : 0 ≤ y' ∧ y' < M'.1 73 16 := hA.2.2.1 (by omega)
        omega
  · rw [if_neg q]
    have hA : Arg (rkC M') (M'.1 73 16) s x v := argx (fun _ => ⟨x0, x1⟩) (fun w => by rw [if_neg (by omega)] at q; omega) (fun w => absurd r1 w) (fun w => by rw [if_pos (by omega)] at q; omega)
    have b6 := hA.b6 k6.2
    have st := rstep_ok (M := M') (m := 16) (s := s) (x := x) (y := v) hB (by decide) ⟨s0, s6⟩ b6.1 b6.2
    have rg := hW.2 s x v s0 s1 hA
    have emN : mN (mchR M' 16) = M'.1 73 16 := rfl
    have yr := hI.1.1
    simp only [ck0, obs, st]
    have bg := bt_get (z := Y) (i := mT (mchR M' 16) s x v) yr.1 (by omega) rg.1 (by omega)
    have fin : ∀ Y', SWI (M'.1 1 1) (rkC M') (mchR M' 16) X (dn3 s x (v + 1)) Y' → P (L_M_usefulOf_92 k 62 16 v3 s x n Y' (v + 1) M') := fun Y' h => ih Y' (v + 1) M' ⟨rfl, ⟨by omega, by omega⟩, h⟩ (by omega)
    have dsp : ∀ s' x' y', dn3 s x (v + 1) s' x' y' → dn3 s x v s' x' y' ∨ (s' = s ∧ x' = x ∧ y' = v) := fun s' x' y' w => by unfold dn3 at w ⊢; omega
    rcases bg with ⟨b1, b2⟩ | ⟨b1, b2⟩
    · rw [if_pos b2]
      have e98 : (if rkC M' s ≤ 1 then some (0 : Int) else some (ishl 1 v)) = some (if rkC M' s ≤ 1 then 0 else ishl 1 v) := by split <;> rfl
      simp only [g1, obs, d63, e98, lt, ew]
      have sx := ishl1_r (k := x) (j := 6) x0 (by omega) (by decide)
      have sy := ishl1_r (k := v) (j := 6) vr.1 (by omega) (by decide)
      have tr : 0 ≤ (if rkC M' s ≤ 1 then 0 else ishl 1 v) ∧ (if rkC M' s ≤ 1 then 0 else ishl 1 v) < 2 ^ 6 := by
        split
        · decide
        · exact sy
      have o1 := ior_r (k := 6) (by decide) sx.1 sx.2 tr.1 tr.2
      have o2 := ior_r (k := 6) (by decide) yr.1 yr.2 o1.1 o1.2
      have hb : ∀ c, 0 ≤ c → (bt (ior Y (ior (ishl 1 x) (if rkC M' s ≤ 1 then 0 else ishl 1 v))) c ↔ bt Y c ∨ c = x ∨ (2 ≤ rkC M' s ∧ c = v)) := by
        intro c c0
        rw [bt_or yr.1 (by omega) o1.1 (by have := o1.2; omega), bt_or sx.1 (by have := sx.2; omega) tr.1 (by have := tr.2; omega), bt_shl x0 (by omega) c0]
        by_cases w : rkC M' s ≤ 1
        · rw [if_pos w]
          exact ⟨fun t => t.imp id (fun u => u.imp id (fun z => absurd z (bt_zero c))), fun t => t.imp id (fun u => u.imp id (fun z => by omega))⟩
        · rw [if_neg w, bt_shl vr.1 (by omega) c0]
          exact ⟨fun t => t.imp id (fun u => u.imp id (fun z => ⟨by omega, z⟩)), fun t => t.imp id (fun u => u.imp id (fun z => z.2))⟩
      have hbY : ∀ c, bt Y c → bt (ior Y (ior (ishl 1 x) (if rkC M' s ≤ 1 then 0 else ishl 1 v))) c := fun c h => (bt_or yr.1 (by omega) o1.1 (by have := o1.2; omega)).mpr (Or.inl h)
      have lT := hI.1.2.1 _ rg.1 rg.2 b1
      refine fin _ ⟨⟨o2, fun c c0 c1 h => ?_, fun c c0 c1 h => hbY c (hI.1.2.2 c c0 c1 h)⟩, fun c h => hbY c (hI.2.1 c h), fun w s' x' y' q0 q1 hA' r' hd hbt => ?_⟩
      · rcases (hb c c0).mp h with t | t | ⟨t1, t2⟩
        · exact hI.1.2.1 c c0 c1 t
        · exact Lv.up c _ ⟨s, x, v, ⟨s0, s1⟩, hA, rfl, Or.inl ⟨r1, t.symm⟩⟩ lT
        · exact Lv.up c _ ⟨s, x, v, ⟨s0, s1⟩, hA, rfl, Or.inr ⟨t1, t2.symm⟩⟩ lT
      · rcases dsp s' x' y' hd with t | ⟨t1, t2, t3⟩
        · exact hI.2.2 (fun c c0 c1 h => w c c0 c1 (hbY c h)) s' x' y' q0 q1 hA' r' t hbt
        · subst t1
          subst t2
          subst t3
          exact ⟨w x' x0 x1 ((hb x' x0).mpr (Or.inr (Or.inl rfl))), fun u => w y' vr.1 ((hA'.2.2.1 u).2) ((hb y' vr.1).mpr (Or.inr (Or.inr ⟨u, rfl⟩)))⟩
    · rw [if_neg (by omega), obs]
      simp only [ew]
      refine fin Y ⟨hI.1, hI.2.1, fun w s' x' y' q0 q1 hA' r' hd hbt => ?_⟩
      rcases dsp s' x' y' hd with t | ⟨t1, t2, t3⟩
      · exact hI.2.2 w s' x' y' q0 q1 hA' r' t hbt
      · subst t1
        subst t2
        subst t3
        exact absurd (hI.2.1 _ hbt) b1
theorem us68_lp {M : Mem} {X s : Int} (hB : SB M) (hg : SgE M) (hW : MW (M.1 1 1) (rkC M) (mchR M 16)) (s0 : 0 ≤ s) (s1 : s < M.1 1 1) (v3 : Int) (k : Int → Mem → Option (Int × Mem)) (P : Option (Int × Mem) → Prop) (h2 : ∀ Y, SWI (M.1 1 1) (rkC M) (mchR M 16) X (dn3 (s + 1) 0 0) Y → P (k Y M)) {Y0 : Int} (h0 : SWI (M.1 1 1) (rkC M) (mchR M 16) X (dn3 s 0 0) Y0) : P (L_M_usefulOf_68 k 62 16 v3 s FU Y0 0 M) := by
  have k6 : 0 ≤ M.1 73 16 ∧ M.1 73 16 ≤ 6 := hW.1
  have n6 := hg.1.2.1
  have r63 := hg.2.2 s s0 s1
  refine lq2 (n := FU) (a := Y0) (b := 0) (M := M) (fun n Y v M' => L_M_usefulOf_68 k 62 16 v3 s n Y v M') (fun Y v M' => M' = M ∧ (0 ≤ v ∧ v ≤ M.1 73 16) ∧ SWI (M.1 1 1) (rkC M) (mchR M 16) X (dn3 s v 0) Y) (fun Y v => (M.1 73 16 - v).toNat) P ?_ ⟨rfl, ⟨Int.le_refl 0, k6.1⟩, h0⟩ (by have := FU_eq; omega)
  intro n Y v M' ⟨e, vr, hI⟩ ih
  subst e
  show P (L_M_usefulOf_68 k 62 16 v3 s (n + 1) Y v M')
  have s6 : s < 6 := by omega
  have g1 : gf M' 62 9 54 1 = some 63 := by simp [gf, hB.m_]
  have g13 : gf M' 62 9 54 13 = some 73 := by simp [gf, hB.m_]
  have d63 : rd M' 10 63 s = some (rkC M' s) := by rw [rd_v (n := 6) (by simp [hB.m_]) s0 (by omega), r63]
  have d73 : rd M' 10 73 16 = some (M'.1 73 16) := rd_v (n := 19) (by simp [hB.m_]) (by decide) (by decide)
  have ew : wr (v + 1) = v + 1 := wr_eq (by omega) (by omega)
  have fin : (rkC M' s ≤ 0 ∨ M'.1 73 16 ≤ v) → P (k Y M') := fun q => h2 Y (hI.c (fun s' x' y' _ _ hA r z => by
    have nn := hA.nn
    unfold dn3 at z ⊢
    by_cases t : s' = s
    · subst t
      have : 0 ≤ x' ∧ x' < M'.1 73 16 := hA.1 r
      omega
    · omega))
  rw [L_M_usefulOf_68]
  simp only [g13, obs, d73]
  by_cases q2 : M'.1 73 16 ≤ v
  · simp only [q2, if_true, obs]
    exact fin (Or.inr q2)
  · simp only [q2, if_false, g1, obs, d63]
    by_cases q1 : rkC M' s ≤ 0
    · simp only [q1, if_true, obs]
      exact fin (Or.inl q1)
    · simp only [q1, if_false, obs]
      rw [if_neg (by decide)]
      refine us92_lp hB hg hW s0 s1 (by omega) vr.1 (by omega) v3 _ P (fun Y' h => ?_) hI
      rw [ew]
      exact ih Y' (v + 1) M' ⟨rfl, ⟨by omega, by omega⟩, h⟩ (by omega)
theorem us56_lp {M : Mem} {X : Int} (hB : SB M) (hg : SgE M) (hW : MW (M.1 1 1) (rkC M) (mchR M 16)) (v3 : Int) (k : Int → Mem → Option (Int × Mem)) (P : Option (Int × Mem) → Prop) (hX : Snd (M.1 1 1) (rkC M) (mchR M 16) X) (h2 : ∀ Y, Snd (M.1 1 1) (rkC M) (mchR M 16) Y → (∀ c, bt X c → bt Y c) → (Y = X → Cls (M.1 1 1) (rkC M) (mchR M 16) X) → P (k Y M)) : P (L_M_usefulOf_56 k 62 16 v3 FU X 0 M) := by
  have n6 := hg.1.2.1
  have n0 := hg.1.1
  refine lq2 (n := FU) (a := X) (b := 0) (M := M) (fun n Y v M' => L_M_usefulOf_56 k 62 16 v3 n Y v M') (fun Y v M' => M' = M ∧ (0 ≤ v ∧ v ≤ M.1 1 1) ∧ SWI (M.1 1 1) (rkC M) (mchR M 16) X (dn3 v 0 0) Y) (fun Y v => (M.1 1 1 - v).toNat) P ?_ ⟨rfl, ⟨Int.le_refl 0, n0⟩, hX, fun _ h => h, fun _ s x y q0 _ hA _ d _ => by have := hA.nn; unfold dn3 at d; omega⟩ (by have := FU_eq; omega)
  intro n Y v M' ⟨e, vr, hI⟩ ih
  subst e
  show P (L_M_usefulOf_56 k 62 16 v3 (n + 1) Y v M')
  have g0 : gf M' 62 9 54 0 = some (M'.1 1 1) := by rw [← hg.2.1]; simp [gf, hB.m_]
  have ew : wr (v + 1) = v + 1 := wr_eq (by omega) (by omega)
  rw [L_M_usefulOf_56]
  simp only [g0, obs]
  by_cases q : M'.1 1 1 ≤ v
  · rw [if_pos q]
    refine h2 Y hI.1 hI.2.1 (fun e c d ha hd => ?_)
    obtain ⟨s, x, y, w⟩ := ha
    have r1 : 1 ≤ rkC M' s := by rcases w.2.2.2 with t | t <;> omega
    have := hI.2.2 (fun c _ _ h => by rw [← e]; exact h) s x y w.1.1 w.1.2 w.2.1 r1 (by have := w.1; unfold dn3; omega) (by rw [w.2.2.1]; exact hd)
    rcases w.2.2.2 with ⟨_, t⟩ | ⟨t0, t⟩
    · rw [← t]; exact this.1
    · rw [← t]; exact this.2 t0
  · rw [if_neg q]
    refine us68_lp hB hg hW vr.1 (by omega) v3 _ P (fun Y' h => ?_) hI
    rw [ew]
    exact ih Y' (v + 1) M' ⟨rfl, ⟨by omega, by omega⟩, h⟩ (by omega)
theorem us46_lp {M : Mem} (hB : SB M) (hg : SgE M) (hW : MW (M.1 1 1) (rkC M) (mchR M 16)) (k : Int → Mem → Option (Int × Mem)) (P : Option (Int × Mem) → Prop) (h2 : ∀ Y, Snd (M.1 1 1) (rkC M) (mchR M 16) Y → Cls (M.1 1 1) (rkC M) (mchR M 16) Y → P (k Y M)) {X : Int} (hX : Snd (M.1 1 1) (rkC M) (mchR M 16) X) : P (L_M_usefulOf_46 k 62 16 FU X (-1) M) := by
  refine lq2 (n := FU) (a := X) (b := -1) (M := M) (fun n Y v M' => L_M_usefulOf_46 k 62 16 n Y v M') (fun Y v M' => M' = M ∧ Snd (M.1 1 1) (rkC M) (mchR M 16) Y ∧ (Y = v → Cls (M.1 1 1) (rkC M) (mchR M 16) Y)) (fun Y v => (2 * (64 - Y) + (if Y = v then 0 else 1)).toNat) P ?_ ⟨rfl, hX, fun e => by have := hX.1; omega⟩ (by have := FU_eq; have := hX.1; split <;> omega)
  intro n Y v M' ⟨e, hY, hcl⟩ ih
  subst e
  show P (L_M_usefulOf_46 k 62 16 (n + 1) Y v M')
  rw [L_M_usefulOf_46]
  dsimp only
  by_cases q : Y = v
  · rw [if_pos q]
    exact h2 Y hY (hcl q)
  · rw [if_neg q]
    refine us56_lp hB hg hW Y _ P hY (fun Z hZ hYZ hc => ?_)
    have le : Y ≤ Z := by
      have e : Z = ior Y Z := bt_ext (k := 6) hZ.1.1 hZ.1.2 (ior_r (k := 6) (by decide) hY.1.1 hY.1.2 hZ.1.1 hZ.1.2).1 (ior_r (k := 6) (by decide) hY.1.1 hY.1.2 hZ.1.1 hZ.1.2).2 (fun i _ _ => by
        rw [bt_or hY.1.1 (by have := hY.1; omega) hZ.1.1 (by have := hZ.1; omega)]
        exact ⟨Or.inr, fun t => t.elim (hYZ i) id⟩)
      have e2 : iand Y Z = Y := bt_ext (k := 6) (by have := iand_r (z := Y) (w := Z) hY.1.1 (by have := hY.1; omega) hZ.1.1; omega) (by have := iand_r (z := Y) (w := Z) hY.1.1 (by have := hY.1; omega) hZ.1.1; have := hY.1; omega) hY.1.1 hY.1.2 (fun i _ _ => by
        rw [bt_and hY.1.1 (by have := hY.1; omega) hZ.1.1]
        exact ⟨fun t => t.1, fun t => ⟨t, hYZ i t⟩⟩)
      have := iand_r (z := Y) (w := Z) hY.1.1 (by have := hY.1; omega) hZ.1.1
      omega
    refine ih Z Y M' ⟨rfl, hZ, fun e => by rw [e]; exact hc e⟩ ?_
    have := hZ.1
    have := hY.1
    rw [if_neg q]
    by_cases t : Z = Y
    · rw [if_pos t]; omega
    · rw [if_neg t]; omega
def USP (M : Mem) (r : Int) (M' : Mem) : Prop := M' = M ∧ (0 ≤ r ∧ r < 64) ∧ ∀ c, 0 ≤ c → c < M.1 73 16 → (bt r c ↔ Lv (M.1 1 1) (rkC M) (mchR M 16) c)
theorem useful_ok {M : Mem} (hB : SB M) (hg : SgE M) (hA : BA M) (hW : MW (M.1 1 1) (rkC M) (mchR M 16)) : OkV (D_M_usefulOf 62 16 M) (fun r M' => USP M r M') := by
  have k6 : 0 ≤ M.1 73 16 ∧ M.1 73 16 ≤ 6 := hW.1
  unfold D_M_usefulOf
  refine lq2 (n := FU) (a := 0) (b := 0) (M := M) (fun n Y v M' => L_M_usefulOf_4 (fun w2_4 m4 => L_M_usefulOf_46 (fun w2_46 m46 => some (w2_46, m46)) 62 16 FU w2_4 (-1) m4) 62 16 n Y v M') (fun Y v M' => M' = M ∧ (0 ≤ v ∧ v ≤ M.1 73 16) ∧ (0 ≤ Y ∧ Y < 64) ∧ ∀ c, 0 ≤ c → (bt Y c ↔ c < v ∧ M.1 75 (96 + c) = 1)) (fun Y v => (M.1 73 16 - v).toNat) (fun o => OkV o (fun r M' => USP M r M')) ?_ ⟨rfl, ⟨Int.le_refl 0, k6.1⟩, by decide, fun c c0 => ⟨fun h => absurd h (bt_zero c), fun h => by omega⟩⟩ (by have := FU_eq; omega)
  intro n Y v M' ⟨e, vr, yr, hY⟩ ih
  subst e
  show OkV (L_M_usefulOf_4 _ 62 16 (n + 1) Y v M') _
  have g13 : gf M' 62 9 54 13 = some 73 := by simp [gf, hB.m_]
  have g15 : gf M' 62 9 54 15 = some 75 := by simp [gf, hB.m_]
  have d73 : rd M' 10 73 16 = some (M'.1 73 16) := rd_v (n := 19) (by simp [hB.m_]) (by decide) (by decide)
  have w1 : wr (6 * 16) = 96 := wr_eq (by decide) (by decide)
  have w2 : wr (96 + v) = 96 + v := wr_eq (by omega) (by omega)
  have ew : wr (v + 1) = v + 1 := wr_eq (by omega) (by omega)
  rw [L_M_usefulOf_4]
  simp only [g13, obs, d73]
  by_cases q : M'.1 73 16 ≤ v
  · rw [if_pos q]
    refine us46_lp hB hg hW _ (fun o => OkV o (fun r N => USP M' r N)) (fun Z hZ hc => OkV.i ⟨rfl, hZ.1, fun c c0 c1 => lv_iff hZ hc c0 c1⟩) (X := Y) ⟨yr, fun c c0 c1 h => Lv.fin c c0 c1 ((hY c c0).mp h).2, fun c c0 c1 h => (hY c c0).mpr ⟨by have : c < M'.1 73 16 := c1; omega, h⟩⟩
  · rw [if_neg q]
    have v6 : v < 6 := by omega
    have d75 : rd M' 12 75 (96 + v) = some (M'.1 75 (96 + v)) := rd_v (n := 114) (by simp [hB.m_]) (by omega) (by omega)
    have ba := hA (96 + v) (by omega) (by omega)
    have sv' := ishl1_r (k := v) (j := 6) vr.1 v6 (by decide)
    simp only [g15, obs, w1, w2, d75, lt, ew]
    rcases ba with z | z
    · rw [if_pos z, obs]
      have o0 : ior Y 0 = Y := by
        have o := ior_r (k := 6) (by decide) yr.1 yr.2 (Int.le_refl 0) (by decide)
        refine bt_ext (k := 6) o.1 o.2 yr.1 yr.2 (fun i i0 i1 => ?_)
        rw [bt_or yr.1 (by omega) (Int.le_refl 0) (by decide)]
        exact ⟨fun t => t.elim id (fun u => absurd u (bt_zero i)), Or.inl⟩
      rw [o0]
      refine ih Y (v + 1) M' ⟨rfl, ⟨by omega, by omega⟩, yr, fun c c0 => ?_⟩ (by omega)
      rw [hY c c0]
      constructor
      · intro t; exact ⟨by omega, t.2⟩
      · intro t
        refine ⟨?_, t.2⟩
        have : c ≠ v := fun u => by rw [u, z] at t; omega
        omega
    · rw [if_neg (by omega), obs]
      refine ih _ (v + 1) M' ⟨rfl, ⟨by omega, by omega⟩, ior_r (k := 6) (by decide) yr.1 yr.2 sv'.1 sv'.2, fun c c0 => ?_⟩ (by omega)
      rw [bt_ior1 yr.1 yr.2 vr.1 v6 c0, hY c c0]
      constructor
      · intro t
        rcases t with t | t
        · exact ⟨by omega, t.2⟩
        · rw [t]; exact ⟨by omega, z⟩
      · intro t
        by_cases u : c = v
        · exact Or.inr u
        · exact Or.inl ⟨by omega, t.2⟩
