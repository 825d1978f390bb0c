/-! the classes that are parts of trees -/
def Lv (n : Int) (rk : Int → Int) (m : Mch) (c : Int) : Prop := ∀ S : Int → Prop, (∀ c, 0 ≤ c → c < mN m → mF m c → S c) → (∀ c d, Abv n rk m c d → S d → S c) → S c
theorem Lv.fin {n : Int} {rk : Int → Int} {m : Mch} (c : Int) (c0 : 0 ≤ c) (c1 : c < mN m) (f : mF m c) : Lv n rk m c := fun _ a _ => a c c0 c1 f
theorem Lv.up {n : Int} {rk : Int → Int} {m : Mch} (c d : Int) (ha : Abv n rk m c d) (h : Lv n rk m d) : Lv n rk m c := fun S a b => b c d ha (h S a b)
theorem Lv.r {n : Int} {rk : Int → Int} {m : Mch} {c : Int} (h : Lv n rk m c) : 0 ≤ c ∧ c < mN m := h (fun c => 0 ≤ c ∧ c < mN m) (fun _ c0 c1 _ => ⟨c0, c1⟩) (fun c d ha _ => by obtain ⟨s, x, y, w⟩ := ha; exact w.c)
theorem Abv.q {n : Int} {rk : Int → Int} {m m' : Mch} (e : Eqm n rk m m') {c d : Int} (h : Abv n rk m c d) : Abv n rk m' c d := by
  obtain ⟨s, x, y, w⟩ := h
  refine ⟨s, x, y, w.1, by rw [← e.1]; exact w.2.1, ?_, w.2.2.2⟩
  rw [← e.2.2 s x y w.1.1 w.1.2 w.2.1]
  exact w.2.2.1
theorem Lv.q {n : Int} {rk : Int → Int} {m m' : Mch} (e : Eqm n rk m m') {c : Int} (h : Lv n rk m c) : Lv n rk m' c := h (fun c => Lv n rk m' c) (fun c c0 c1 f => Lv.fin c c0 (by rw [← e.1]; exact c1) ((e.2.1 c c0 c1).2.2.2.2.mp f)) (fun c d ha ih => Lv.up c d (ha.q e) ih)
theorem Eqm.sy {n : Int} {rk : Int → Int} {m m' : Mch} (e : Eqm n rk m m') : Eqm n rk m' m := by
  refine ⟨e.1.symm, fun c c0 c1 => ?_, fun s x y s0 s1 hA => ?_⟩
  · have := e.2.1 c c0 (by rw [e.1]; exact c1)
    exact ⟨this.1.symm, this.2.1.symm, this.2.2.1.symm, this.2.2.2.1.symm, this.2.2.2.2.symm⟩
  · exact (e.2.2 s x y s0 s1 (by rw [e.1]; exact hA)).symm
/-- a set of classes that is closed -/
def Cls (n : Int) (rk : Int → Int) (m : Mch) (X : Int) : Prop := ∀ c d, Abv n rk m c d → bt X d → bt X c
/-- a sound set with the last classes -/
def Snd (n : Int) (rk : Int → Int) (m : Mch) (X : Int) : Prop := (0 ≤ X ∧ X < 64) ∧ (∀ c, 0 ≤ c → c < mN m → bt X c → Lv n rk m c) ∧ ∀ c, 0 ≤ c → c < mN m → mF m c → bt X c
theorem lv_iff {n : Int} {rk : Int → Int} {m : Mch} {X : Int} (h : Snd n rk m X) (hc : Cls n rk m X) {c : Int} (c0 : 0 ≤ c) (c1 : c < mN m) : bt X c ↔ Lv n rk m c := by
  exact ⟨h.2.1 c c0 c1, fun w => w (fun c => bt X c) (fun c c0 c1 f => h.2.2 c c0 c1 f) (fun c d ha ih => hc c d ha ih)⟩
/-- how many of the first k bits -/
noncomputable def cnt (X : Int → Prop) : Nat → Nat
  | 0 => 0
  | k + 1 => cnt X k + @ite Nat (X k) (Classical.propDecidable _) 1 0
theorem cnt_s (X : Int → Prop) (k : Nat) : cnt X (k + 1) = cnt X k + @ite Nat (X k) (Classical.propDecidable _) 1 0 := rfl
theorem cnt_le (X : Int → Prop) : ∀ k, cnt X k ≤ k := by
  intro k
  induction k with
  | zero => exact Nat.le_refl _
  | succ k ih => rw [cnt_s]; split <;> omega
theorem cnt_mo {X Y : Int → Prop} : ∀ {k : Nat}, (∀ i : Int, 0 ≤ i → i < k → X i → Y i) → cnt X k ≤ cnt Y k := by
  intro k
  induction k with
  | zero => intro _; exact Nat.le_refl _
  | succ k ih =>
    intro h
    have a := ih (fun i i0 i1 => h i i0 (by omega))
    rw [cnt_s, cnt_s]
    by_cases q : X k
    · rw [if_pos q, if_pos (h k (by omega) (by omega) q)]; omega
    · rw [if_neg q]; omega
theorem cnt_st {X Y : Int → Prop} : ∀ {k : Nat}, (∀ i : Int, 0 ≤ i → i < k → X i → Y i) → (∃ i : Int, 0 ≤ i ∧ i < k ∧ Y i ∧ ¬ X i) → cnt X k < cnt Y k := by
  intro k
  induction k with
  | zero => intro _ ⟨i, a, b, _⟩; omega
  | succ k ih =>
    intro h ⟨i, i0, i1, y, x⟩
    rw [cnt_s, cnt_s]
    by_cases e : i = k
    · rw [e] at x y
      rw [if_neg x, if_pos y]
      have := cnt_mo (k := k) (fun i i0 i1 => h i i0 (by omega))
      omega
    · have := ih (fun i i0 i1 => h i i0 (by omega)) ⟨i, i0, by omega, y, x⟩
      by_cases q : X k
      · rw [if_pos q, if_pos (h k (by omega) (by omega) q)]; omega
      · rw [if_neg q]; omega
theorem cnt_fu {X : Int → Prop} : ∀ {k : Nat}, k ≤ cnt X k → ∀ i : Int, 0 ≤ i → i < k → X i := by
  intro k
  induction k with
  | zero => intro _ i a b; omega
  | succ k ih =>
    intro h i i0 i1
    rw [cnt_s] at h
    have l := cnt_le X k
    by_cases q : X k
    · rw [if_pos q] at h
      by_cases e : i = k
      · rw [e]; exact q
      · exact ih (by omega) i i0 (by omega)
    · rw [if_neg q] at h; omega
/-! the class -/
theorem lv21_lp {M : Mem} {p X v2 : Int} {A : Mem} (hM : MOK M p) (hL : LAP A p M) (em : mch M p = mch A p) (e11 : M.1 p 10 = A.1 p 10) (hX : Snd (A.1 1 1) (rkC A) (mch A p) X) (k : Int → Mem → Option (Int × Mem)) (P : Option (Int × Mem) → Prop) (h2 : ∀ Y, Snd (A.1 1 1) (rkC A) (mch A p) Y → (∀ c, bt X c → bt Y c) → ((∀ c, 0 ≤ c → c < A.1 p 10 → bt Y c → bt X c) → Cls (A.1 1 1) (rkC A) (mch A p) X) → P (k Y M)) : P (L_Machine_living_21 k p v2 FU X 0 M) := by
  have k6 : 0 ≤ M.1 p 10 ∧ M.1 p 10 ≤ 6 := hM.2.2.1.1
  have emN : mN (mch A p) = A.1 p 10 := rfl
  refine lq2 (n := FU) (a := X) (b := 0) (M := M) (fun n Y v M' => L_Machine_living_21 k p v2 n Y v M') (fun Y v M' => M' = M ∧ (0 ≤ v ∧ v ≤ M.1 p 10) ∧ Snd (A.1 1 1) (rkC A) (mch A p) Y ∧ (∀ c, bt X c → bt Y c) ∧ ((∀ c, 0 ≤ c → c < A.1 p 10 → bt Y c → bt X c) → ∀ c d, c < v → Abv (A.1 1 1) (rkC A) (mch A p) c d → bt X d → bt X c)) (fun Y v => (M.1 p 10 - v).toNat) P ?_ ⟨rfl, ⟨Int.le_refl 0, k6.1⟩, hX, fun _ h => h, fun _ c d q ha _ => by obtain ⟨s, x, y, w⟩ := ha; have := w.c; omega⟩ (by have := FU_eq; omega)
  intro n Y v M' ⟨e, vr, hY, hXY, hcl⟩ ih
  subst e
  show P (L_Machine_living_21 k p v2 (n + 1) Y v M')
  have ms := hM.1
  have g10 : gf M' p 1 14 10 = some (M'.1 p 10) := by simp [gf, ms]
  have g7 : gf M' p 1 14 7 = some (p + 7) := by simp [gf, ms]
  have l7 : M'.2.1 (p + 7) = (10, 6) := by simp [ms]
  clear ms
  have ew : wr (v + 1) = v + 1 := wr_eq (by omega) (by omega)
  rw [L_Machine_living_21]
  simp only [g10, obs]
  by_cases q : M'.1 p 10 ≤ v
  · rw [if_pos q]
    refine h2 Y hY hXY (fun w c d ha hd => hcl w c d ?_ ha hd)
    obtain ⟨s, x, y, t⟩ := ha
    have := t.c
    omega
  · rw [if_neg q]
    have v6 : v < 6 := by omega
    have av := hL.2.2.2 v vr.1 v6
    have eR : rd M' 10 (p + 7) v = some (M'.1 (p + 7) v) := rd_v l7 vr.1 (by omega)
    simp only [g7, obs, eR, ew]
    have yr := hY.1
    have ban : ∀ i, bt (iand (M'.1 (p + 7) v) Y) i ↔ bt (M'.1 (p + 7) v) i ∧ bt Y i := fun i => bt_and av.1.1 (by omega) yr.1
    have ia : 0 ≤ iand (M'.1 (p + 7) v) Y ∧ iand (M'.1 (p + 7) v) Y < 2 ^ 6 := by
      have := iand_r (z := M'.1 (p + 7) v) (w := Y) av.1.1 (by omega) yr.1
      omega
    by_cases z : iand (M'.1 (p + 7) v) Y = 0
    · rw [if_pos z, obs]
      refine ih Y (v + 1) M' ⟨rfl, ⟨by omega, by omega⟩, hY, hXY, fun w c d cv ha hd => ?_⟩ (by omega)
      by_cases t : c = v
      · subst t
        have d0 : 0 ≤ d := by
          obtain ⟨s, x, y, u⟩ := ha
          have := hM.2.2.1.2 s x y (by have := hL.2.1 1; exact u.1.1)
          have hp := hM.2.1
          have t1 := hL.2.1 1 (by omega)
          have t2 := hL.2.1 2 (by omega)
          have ek := rk_c t1 t2
          have tt := hM.2.2.1.2 s x y u.1.1 (by rw [t1]; exact u.1.2) (by rw [ek, em]; exact u.2.1)
          rw [em, u.2.2.1] at tt
          exact tt.1
        have b1 : bt (M'.1 (p + 7) c) d := (av.2 d d0).mpr ha
        have b2 : bt (iand (M'.1 (p + 7) c) Y) d := (ban d).mpr ⟨b1, hXY d hd⟩
        rw [z] at b2
        exact absurd b2 (bt_zero d)
      · exact hcl w c d (by omega) ha hd
    · rw [if_neg z]
      unfold lt
      rw [obs]
      obtain ⟨d, d0, d6, hd⟩ := (bt_ne0 ia.1 ia.2).mp z
      have hd' := (ban d).mp hd
      have ha := (av.2 d d0).mp hd'.1
      have sr := ishl1_r (k := v) (j := 6) vr.1 v6 (by decide)
      have orr := ior_r (k := 6) (by decide) yr.1 yr.2 sr.1 sr.2
      have hb : ∀ c, 0 ≤ c → (bt (ior Y (ishl 1 v)) c ↔ bt Y c ∨ c = v) := fun c c0 => bt_ior1 yr.1 yr.2 vr.1 v6 c0
      have hb' : ∀ c, bt Y c → bt (ior Y (ishl 1 v)) c := fun c h => (bt_or yr.1 (by omega) sr.1 (by have := sr.2; omega)).mpr (Or.inl h)
      have dN : d < mN (mch A p) := by
        obtain ⟨s, x, y, u⟩ := ha
        have hp := hM.2.1
        have t1 := hL.2.1 1 (by omega)
        have t2 := hL.2.1 2 (by omega)
        have ek := rk_c t1 t2
        have tt := hM.2.2.1.2 s x y u.1.1 (by rw [t1]; exact u.1.2) (by rw [ek, em]; exact u.2.1)
        rw [em, u.2.2.1] at tt
        exact tt.2
      refine ih _ (v + 1) M' ⟨rfl, ⟨by omega, by omega⟩, ⟨orr, fun c c0 c1 hc => ?_, fun c c0 c1 hc => hb' c (hY.2.2 c c0 c1 hc)⟩, fun c h => hb' c (hXY c h), fun w c d' cv ha' hd'' => ?_⟩ (by omega)
      · rcases (hb c c0).mp hc with t | t
        · exact hY.2.1 c c0 c1 t
        · rw [t]; exact Lv.up v d ha (hY.2.1 d d0 dN hd'.2)
      · by_cases t : c = v
        · rw [t]; exact w v vr.1 (by omega) ((hb v vr.1).mpr (Or.inr rfl))
        · exact hcl (fun c c0 c1 h => w c c0 c1 (hb' c h)) c d' (by omega) ha' hd''
/-- the class knows the living classes -/
def LVP (M : Mem) (p r : Int) (M' : Mem) : Prop := LAP M p M' ∧ (0 ≤ r ∧ r < 64) ∧ ∀ c, 0 ≤ c → c < M.1 p 10 → (bt r c ↔ Lv (M.1 1 1) (rkC M) (mch M p) c)
theorem living_ok {M : Mem} {p : Int} (hB : SB M) (hg : SgOk M) (hM : MOK M p) : OkV (D_Machine_living p M) (fun r M' => LVP M p r M') := by
  have hp := hM.2.1
  have ms := hM.1
  have k6 : 0 ≤ M.1 p 10 ∧ M.1 p 10 ≤ 6 := hM.2.2.1.1
  have ff := hM.2.2.2
  have g11 : gf M p 1 14 11 = some (M.1 p 11) := by simp [gf, ms]
  have ckp : ck M p 1 14 = some () := by simp [ck, ms]
  clear ms
  obtain ⟨A, dA, hL⟩ := listAbove_ok hB hg hM
  have c1 : A.1 1 = M.1 1 := hL.2.1 1 (by omega)
  have c2 : A.1 2 = M.1 2 := hL.2.1 2 (by omega)
  have ek : rkC A = rkC M := rk_c c1 c2
  have em : mch A p = mch M p := mch_c ek (fun a a0 a1 => hL.2.1 a (by omega))
  have ep : A.1 p = M.1 p := hL.2.1 p (by omega)
  have msA : MS A p := MS.c hM.1 (fun k _ => by rw [ep]) (fun a _ _ => by rw [hL.1])
  have hMA : MOK A p := ⟨msA, hp, by rw [c1, ek, em]; exact hM.2.2.1, by rw [ep]; exact ff⟩
  have g10 : gf A p 1 14 10 = some (M.1 p 10) := by rw [← ep]; simp [gf, msA]
  clear msA
  have hS0 : Snd (M.1 1 1) (rkC M) (mch M p) (M.1 p 11) := ⟨ff, fun c c0 c1 h => Lv.fin c c0 c1 h, fun c c0 c1 h => h⟩
  unfold D_Machine_living
  rw [g11, obs, ckp, obs, dA, obs]
  refine lq2 (n := FU) (a := M.1 p 11) (b := 0) (M := A) (fun n X v M' => L_Machine_living_11 (fun w1_11 m11 => some (w1_11, m11)) p n X v M') (fun X v M' => M' = A ∧ (0 ≤ v ∧ v ≤ M.1 p 10) ∧ Snd (M.1 1 1) (rkC M) (mch M p) X ∧ (Cls (M.1 1 1) (rkC M) (mch M p) X ∨ v ≤ cnt (fun c => bt X c) (M.1 p 10).toNat)) (fun X v => (M.1 p 10 - v).toNat) (fun o => OkV o (fun r M' => LVP M p r M')) ?_ ⟨rfl, ⟨Int.le_refl 0, k6.1⟩, hS0, Or.inr (by omega)⟩ (by have := FU_eq; omega)
  intro n X v M' ⟨e, vr, hX, hcl⟩ ih
  subst e
  show OkV (L_Machine_living_11 (fun w1_11 m11 => some (w1_11, m11)) p (n + 1) X v M') _
  have ew : wr (v + 1) = v + 1 := wr_eq (by omega) (by omega)
  rw [L_Machine_living_11]
  simp only [g10, obs]
  by_cases q : M.1 p 10 ≤ v
  · rw [if_pos q]
    have hC : Cls (M.1 1 1) (rkC M) (mch M p) X := by
      rcases hcl with w | w
      · exact w
      · intro c d ha _
        obtain ⟨s, x, y, t⟩ := ha
        have := t.c
        have emN : mN (mch M p) = M.1 p 10 := rfl
        exact cnt_fu (X := fun c => bt X c) (k := (M.1 p 10).toNat) (by omega) c this.1 (by omega)
    exact OkV.i ⟨hL, hX.1, fun c c0 c1 => lv_iff hX hC c0 c1⟩
  · rw [if_neg q]
    refine lv21_lp (A := M) hMA hL em (by rw [ep]) hX _ (fun o => OkV o (fun r M' => LVP M p r M')) (fun Y hY hXY hYX => ?_)
    rw [ew]
    refine ih Y (v + 1) M' ⟨rfl, ⟨by omega, by omega⟩, hY, ?_⟩ (by omega)
    rcases hcl with w | w
    · left
      intro c d ha hd
      -- a closed set does not grow: every class of Y lives
      have hc := ha
      obtain ⟨s, x, y, t⟩ := hc
      have cr := t.c
      have dr := hM.2.2.1.2 s x y t.1.1 t.1.2 t.2.1
      rw [t.2.2.1] at dr
      exact hXY c (w c d ha ((lv_iff hX w dr.1 dr.2).mpr (hY.2.1 d dr.1 dr.2 hd)))
    · by_cases g : ∀ c, 0 ≤ c → c < M.1 p 10 → bt Y c → bt X c
      · left
        have w' := hYX g
        intro c d ha hd
        have hc := ha
        obtain ⟨s, x, y, t⟩ := hc
        have dr := hM.2.2.1.2 s x y t.1.1 t.1.2 t.2.1
        rw [t.2.2.1] at dr
        exact hXY c (w' c d ha (g d dr.1 dr.2 hd))
      · right
        have ⟨c, hc⟩ := Classical.not_forall.mp g
        have c0 : 0 ≤ c := Classical.byContradiction fun u => hc (fun a => absurd a u)
        have c1' : c < M.1 p 10 := Classical.byContradiction fun u => hc (fun _ a => absurd a u)
        have y1 : bt Y c := Classical.byContradiction fun u => hc (fun _ _ a => absurd a u)
        have x1 : ¬ bt X c := fun u => hc (fun _ _ _ => u)
        have := cnt_st (X := fun c => bt X c) (Y := fun c => bt Y c) (k := (M.1 p 10).toNat) (fun i _ _ h => hXY i h) ⟨c, c0, by omega, y1, x1⟩
        omega
