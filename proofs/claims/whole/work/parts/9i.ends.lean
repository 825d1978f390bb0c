/-! whether a tongue ends: the reference -/
/-- rows of bits: what lies under a class; sound -/
def UNS (n : Int) (rk : Int → Int) (m : Mch) (f : Int → Int) : Prop := (∀ d, 0 ≤ d → d < mN m → 0 ≤ f d ∧ f d < 64) ∧ ∀ d c, 0 ≤ d → d < mN m → 0 ≤ c → bt (f d) c → Tc n rk m c d
/-- column c is closed -/
def UNC (n : Int) (rk : Int → Int) (m : Mch) (f : Int → Int) (c : Int) : Prop := ∀ z d, Abv n rk m z d → (z = c ∨ bt (f z) c) → bt (f d) c
theorem UNC.all {n : Int} {rk : Int → Int} {m : Mch} {f : Int → Int} {c d : Int} (h : UNC n rk m f c) (w : Tc n rk m c d) : bt (f d) c := w (fun d => bt (f d) c) (fun d ha => h c d ha (Or.inl rfl)) (fun d e ih ha => h d e ha (Or.inr ih))
/-- a turn, from the rows g, over the triples of D -/
def UNI (n : Int) (rk : Int → Int) (m : Mch) (g : Int → Int) (D : Int → Int → Int → Prop) (f : Int → Int) : Prop := UNS n rk m f ∧ (∀ d c, 0 ≤ d → d < mN m → bt (g d) c → bt (f d) c) ∧ ∀ c, 0 ≤ c → c < mN m → (∀ d, 0 ≤ d → d < mN m → bt (f d) c → bt (g d) c) → ∀ s x y z, 0 ≤ s → s < n → Arg rk (mN m) s x y → D s x y → ((1 ≤ rk s ∧ x = z) ∨ (2 ≤ rk s ∧ y = z)) → (z = c ∨ bt (g z) c) → bt (g (mT m s x y)) c
theorem UNI.c {n : Int} {rk : Int → Int} {m : Mch} {g : Int → Int} {D D' : Int → Int → Int → Prop} {f : Int → Int} (h : UNI n rk m g D f) (e : ∀ s x y, 0 ≤ s → s < n → Arg rk (mN m) s x y → 1 ≤ rk s → D' s x y → D s x y) : UNI n rk m g D' f := ⟨h.1, h.2.1, fun c c0 c1 w s x y z s0 s1 hA d o b => h.2.2 c c0 c1 w s x y z s0 s1 hA (e s x y s0 s1 hA (by rcases o with t | t <;> omega) d) o b⟩
/-- the reference's work on cell 84 -/
def O84 (M M' : Mem) : Prop := M'.2 = M.2 ∧ ∀ a, a ≠ 84 → M'.1 a = M.1 a
theorem O84.sb {M M' : Mem} (h : O84 M M') (hB : SB M) : SB M' := SB_c hB h.1 (fun a k s => by rw [h.2 a (by unfold stp at s; omega)])
theorem O84.mr {M M' : Mem} (h : O84 M M') (m : Int) : mchR M' m = mchR M m := by
  unfold mchR
  rw [h.2 73 (by decide), h.2 74 (by decide), h.2 75 (by decide), h.2 76 (by decide), h.2 77 (by decide), h.2 78 (by decide), h.2 79 (by decide)]
theorem en105_lp {M : Mem} {g : Int → Int} {s x : Int} (hB : SB M) (hg : SgE M) (hW : MW (M.1 1 1) (rkC M) (mchR M 16)) (s0 : 0 ≤ s) (s1 : s < M.1 1 1) (r1 : 1 ≤ rkC M s) (x0 : 0 ≤ x) (x1 : x < M.1 73 16) (v2 v4 : Int) (k : Mem → Option (Int × Mem)) (P : Option (Int × Mem) → Prop) (h2 : ∀ M', O84 M M' → UNI (M.1 1 1) (rkC M) (mchR M 16) g (dn3 s (x + 1) 0) (M'.1 84) → P (k M')) {M0 : Mem} (o0 : O84 M M0) (h0 : UNI (M.1 1 1) (rkC M) (mchR M 16) g (dn3 s x 0) (M0.1 84)) : P (L_M_ends_105 k 62 v2 (M.1 73 16) v4 s x FU 0 M0) := by
  have k6 : 0 ≤ M.1 73 16 ∧ M.1 73 16 ≤ 6 := hW.1
  have n6 := hg.1.2.1
  have r63 := hg.2.2 s s0 s1
  have emN : mN (mchR M 16) = M.1 73 16 := rfl
  refine lq1 (n := FU) (a := 0) (M := M0) (fun n v M' => L_M_ends_105 k 62 v2 (M.1 73 16) v4 s x n v M') (fun v M' => (0 ≤ v ∧ v ≤ (if rkC M s ≤ 1 then 1 else M.1 73 16)) ∧ O84 M M' ∧ UNI (M.1 1 1) (rkC M) (mchR M 16) g (dn3 s x v) (M'.1 84)) (fun v => ((if rkC M s ≤ 1 then 1 else M.1 73 16) - v).toNat) P ?_ ⟨⟨Int.le_refl 0, by split <;> omega⟩, o0, h0⟩ (by have := FU_eq; split <;> omega)
  intro n v M' ⟨vr, ho, hI⟩ ih
  show P (L_M_ends_105 k 62 v2 (M.1 73 16) v4 s x (n + 1) v M')
  have hB' := ho.sb hB
  have s6 : s < 6 := by omega
  have g1 : gf M' 62 9 54 1 = some 63 := by simp [gf, hB'.m_]
  have g31 : gf M' 62 9 54 31 = some 84 := by simp [gf, hB'.m_]
  have ck0 : ck M' 62 9 54 = some () := by simp [ck, hB'.m_]
  have d63 : rd M' 10 63 s = some (rkC M s) := by rw [rd_v (n := 6) (by simp [hB'.m_]) s0 (by omega), ho.2 63 (by decide), r63]
  have l84 : M'.2.1 84 = (10, 512) := by simp [hB'.m_]
  have ew : wr (v + 1) = v + 1 := wr_eq (by omega) (by omega)
  have t115 : (if rkC M s ≤ 1 then some (1 : Int) else some (M.1 73 16)) = some (if rkC M s ≤ 1 then 1 else M.1 73 16) := by split <;> rfl
  rw [L_M_ends_105]
  simp only [g1, obs, d63, t115]
  by_cases q : (if rkC M s ≤ 1 then 1 else M.1 73 16) ≤ v
  · rw [if_pos q]
    refine h2 M' ho (hI.c (fun s' x' y' _ _ hA _ z => ?_))
    unfold dn3 at z ⊢
    rcases z with z | ⟨z1, z2⟩
    · exact Or.inl z
    · right
      refine ⟨z1, ?_⟩
      subst z1
      have nn := hA.nn
      by_cases w : rkC M s' ≤ 1
      · rw [if_pos w] at q
        have := hA.2.2.2 (by omega)
        omega
      · rw [if_neg w] at q
        have : 0 ≤ y' ∧ y' < M.1 73 16 := hA.2.2.1 (by omega)
        omega
  · rw [if_neg q]
    have hA : Arg (rkC M) (M.1 73 16) s x v := argx (fun _ => ⟨x0, x1⟩) (fun w => by rw [if_neg (by omega)] at q; omega) (fun w => absurd r1 w) (fun w => by rw [if_pos (by omega)] at q; omega)
    have b6 := hA.b6 k6.2
    have st := rstep_ok (M := M') (m := 16) (s := s) (x := x) (y := v) hB' (by decide) ⟨s0, s6⟩ b6.1 b6.2
    rw [ho.mr] at st
    have rg := hW.2 s x v s0 s1 hA
    rw [emN] at rg
    generalize ed : mT (mchR M 16) s x v = d at *
    have d6 : d < 6 := by omega
    have fr := hI.1.1
    have rd' := fr d rg.1 (by omega)
    have rx := fr x x0 (by omega)
    have sx := ishl1_r (k := x) (j := 6) x0 (by omega) (by decide)
    have eRd : rd M' 10 84 d = some (M'.1 84 d) := rd_v l84 rg.1 (by omega)
    have eRx : rd M' 10 84 x = some (M'.1 84 x) := rd_v l84 x0 (by omega)
    have eW : ∀ w, wt M' 10 84 d w = some (up M' 84 d w) := fun w => wt_v l84 rg.1 (by omega)
    simp only [ck0, obs, st, g31, eRd, eRx, eW]
    have o1 := ior_r (k := 6) (by decide) rx.1 rx.2 sx.1 sx.2
    have o2 := ior_r (k := 6) (by decide) rd'.1 rd'.2 o1.1 o1.2
    have b1 : ∀ e c, 0 ≤ e → e < M.1 73 16 → 0 ≤ c → (bt ((up M' 84 d (ior (M'.1 84 d) (ior (M'.1 84 x) (ishl 1 x)))).1 84 e) c ↔ bt (M'.1 84 e) c ∨ (e = d ∧ (bt (M'.1 84 x) c ∨ c = x))) := by
      intro e c e0 e1 c0
      by_cases z : e = d
      · subst z
        rw [up_1, if_pos ⟨rfl, rfl⟩, bt_or rd'.1 (by omega) o1.1 (by have := o1.2; omega), bt_ior1 rx.1 rx.2 x0 (by omega) c0]
        exact ⟨fun w => w.imp id (fun u => ⟨rfl, u⟩), fun w => w.imp id (fun u => u.2)⟩
      · rw [up_1, if_neg (fun w => z w.2)]
        exact ⟨Or.inl, fun w => w.elim id (fun u => absurd u.1 z)⟩
    have r1' : ∀ e, 0 ≤ e → e < M.1 73 16 → 0 ≤ (up M' 84 d (ior (M'.1 84 d) (ior (M'.1 84 x) (ishl 1 x)))).1 84 e ∧ (up M' 84 d (ior (M'.1 84 d) (ior (M'.1 84 x) (ishl 1 x)))).1 84 e < 64 := by
      intro e e0 e1
      by_cases z : e = d
      · rw [z, up_1, if_pos ⟨rfl, rfl⟩]; exact o2
      · rw [up_1, if_neg (fun w => z w.2)]; exact fr e e0 (by omega)
    have hB1 : SB (up M' 84 d (ior (M'.1 84 d) (ior (M'.1 84 x) (ishl 1 x)))) := SB_up hB' (by unfold stp; omega)
    have oN : O84 M (up M' 84 d (ior (M'.1 84 d) (ior (M'.1 84 x) (ishl 1 x)))) := ⟨by rw [up_2]; exact ho.1, fun a w => by rw [up_n w]; exact ho.2 a w⟩
    clear eRd eRx eW
    generalize up M' 84 d (ior (M'.1 84 d) (ior (M'.1 84 x) (ishl 1 x))) = N at *
    have g1' : gf N 62 9 54 1 = some 63 := by simp [gf, hB1.m_]
    have g31' : gf N 62 9 54 31 = some 84 := by simp [gf, hB1.m_]
    have d63' : rd N 10 63 s = some (rkC M s) := by rw [rd_v (n := 6) (by simp [hB1.m_]) s0 (by omega), oN.2 63 (by decide), r63]
    have l84' : N.2.1 84 = (10, 512) := by simp [hB1.m_]
    have eRd' : rd N 10 84 d = some (N.1 84 d) := rd_v l84' rg.1 (by omega)
    have eRv : rd N 10 84 v = some (N.1 84 v) := rd_v l84' vr.1 (by omega)
    have eW' : ∀ w, wt N 10 84 d w = some (up N 84 d w) := fun w => wt_v l84' rg.1 (by omega)
    simp only [g31', obs, eRd', g1', d63', eRv]
    have t178 : (if rkC M s ≤ 1 then some (0 : Int) else some (ior (N.1 84 v) (ishl 1 v))) = some (if rkC M s ≤ 1 then 0 else ior (N.1 84 v) (ishl 1 v)) := by split <;> rfl
    simp only [t178, obs, eW', ew]
    have rd1 := r1' d rg.1 rg.2
    have tb : (0 ≤ (if rkC M s ≤ 1 then 0 else ior (N.1 84 v) (ishl 1 v)) ∧ (if rkC M s ≤ 1 then 0 else ior (N.1 84 v) (ishl 1 v)) < 2 ^ 6) ∧ ∀ c, 0 ≤ c → (bt (if rkC M s ≤ 1 then 0 else ior (N.1 84 v) (ishl 1 v)) c ↔ 2 ≤ rkC M s ∧ (bt (N.1 84 v) c ∨ c = v)) := by
      by_cases w : rkC M s ≤ 1
      · rw [if_pos w]
        exact ⟨by decide, fun c c0 => ⟨fun t => absurd t (bt_zero c), fun t => by omega⟩⟩
      · rw [if_neg w]
        have v1 : v < M.1 73 16 := by rw [if_neg w] at q; omega
        have rv := r1' v vr.1 v1
        have sv' := ishl1_r (k := v) (j := 6) vr.1 (by omega) (by decide)
        refine ⟨ior_r (k := 6) (by decide) rv.1 rv.2 sv'.1 sv'.2, fun c c0 => ?_⟩
        rw [bt_ior1 rv.1 rv.2 vr.1 (by omega) c0]
        exact ⟨fun t => ⟨by omega, t⟩, fun t => t.2⟩
    generalize (if rkC M s ≤ 1 then 0 else ior (N.1 84 v) (ishl 1 v)) = tt at *
    have o3 := ior_r (k := 6) (by decide) rd1.1 rd1.2 tb.1.1 tb.1.2
    have b2 : ∀ e c, 0 ≤ e → e < M.1 73 16 → 0 ≤ c → (bt ((up N 84 d (ior (N.1 84 d) tt)).1 84 e) c ↔ bt (N.1 84 e) c ∨ (e = d ∧ 2 ≤ rkC M s ∧ (bt (N.1 84 v) c ∨ c = v))) := by
      intro e c e0 e1 c0
      by_cases z : e = d
      · subst z
        rw [up_1, if_pos ⟨rfl, rfl⟩, bt_or rd1.1 (by omega) tb.1.1 (by have := tb.1.2; omega), tb.2 c c0]
        exact ⟨fun w => w.imp id (fun u => ⟨rfl, u⟩), fun w => w.imp id (fun u => u.2)⟩
      · rw [up_1, if_neg (fun w => z w.2)]
        exact ⟨Or.inl, fun w => w.elim id (fun u => absurd u.1 z)⟩
    have ax : Abv (M.1 1 1) (rkC M) (mchR M 16) x d := ⟨s, x, v, ⟨s0, s1⟩, hA, ed, Or.inl ⟨r1, rfl⟩⟩
    have ay : 2 ≤ rkC M s → Abv (M.1 1 1) (rkC M) (mchR M 16) v d := fun w => ⟨s, x, v, ⟨s0, s1⟩, hA, ed, Or.inr ⟨w, rfl⟩⟩
    have snd1 : ∀ e c, 0 ≤ e → e < M.1 73 16 → 0 ≤ c → bt (N.1 84 e) c → Tc (M.1 1 1) (rkC M) (mchR M 16) c e := by
      intro e c e0 e1 c0 w
      rcases (b1 e c e0 e1 c0).mp w with u | ⟨u, u'⟩
      · exact hI.1.2 e c e0 e1 c0 u
      · subst u
        rcases u' with u' | u'
        · exact Tc.t x e (hI.1.2 x c x0 x1 c0 u') ax
        · rw [u']; exact Tc.b e ax
    refine ih (v + 1) _ ⟨⟨by omega, by omega⟩, ⟨by rw [up_2]; exact oN.1, fun a w => by rw [up_n w]; exact oN.2 a w⟩, ⟨fun e e0 e1 => ?_, fun e c e0 e1 c0 w => ?_⟩, fun e c e0 e1 w => ?_, fun c c0 c1 w s' x' y' z q0 q1 hA' hd ho' hb => ?_⟩ (by omega)
    · by_cases z : e = d
      · rw [z, up_1, if_pos ⟨rfl, rfl⟩]; exact o3
      · rw [up_1, if_neg (fun w => z w.2)]; exact r1' e e0 e1
    · rcases (b2 e c e0 e1 c0).mp w with u | ⟨u, u0, u'⟩
      · exact snd1 e c e0 e1 c0 u
      · subst u
        have v1 := (hA.2.2.1 u0).2
        rcases u' with u' | u'
        · exact Tc.t v e (snd1 v c vr.1 v1 c0 u') (ay u0)
        · rw [u']; exact Tc.b e (ay u0)
    · have w0 := hI.2.1 e c e0 e1 w
      -- a bit once set stays: compare by places
      by_cases c0 : 0 ≤ c
      · exact (b2 e c e0 e1 c0).mpr (Or.inl ((b1 e c e0 e1 c0).mpr (Or.inl w0)))
      · have t0 : c.toNat = (0 : Int).toNat := by omega
        have e1' : ∀ z, bt z c ↔ bt z 0 := fun z => by unfold bt; rw [t0]
        rw [e1'] at w0 ⊢
        exact (b2 e 0 e0 e1 (Int.le_refl 0)).mpr (Or.inl ((b1 e 0 e0 e1 (Int.le_refl 0)).mpr (Or.inl w0)))
    · have wM : ∀ e, 0 ≤ e → e < mN (mchR M 16) → bt (M'.1 84 e) c → bt (g e) c := fun e e0 e1 h => w e e0 e1 ((b2 e c e0 e1 c0).mpr (Or.inl ((b1 e c e0 e1 c0).mpr (Or.inl h))))
      by_cases t : dn3 s x v s' x' y'
      · exact hI.2.2 c c0 c1 wM s' x' y' z q0 q1 hA' t ho' hb
      · unfold dn3 at hd t
        have es : s' = s := by omega
        have ex : x' = x := by omega
        have ey : y' = v := by omega
        subst es
        subst ex
        subst ey
        rw [ed]
        refine w d rg.1 rg.2 ((b2 d c rg.1 rg.2 c0).mpr ?_)
        rcases ho' with ⟨_, u⟩ | ⟨u0, u⟩
        · subst u
          left
          refine (b1 d c rg.1 rg.2 c0).mpr (Or.inr ⟨rfl, ?_⟩)
          rcases hb with hb | hb
          · exact Or.inr hb.symm
          · exact Or.inl (hI.2.1 x' c x0 x1 hb)
        · subst u
          right
          refine ⟨rfl, u0, ?_⟩
          have v1 := (hA.2.2.1 u0).2
          rcases hb with hb | hb
          · exact Or.inr hb.symm
          · exact Or.inl ((b1 y' c vr.1 v1 c0).mpr (Or.inl (hI.2.1 y' c vr.1 v1 hb)))
theorem en86_lp {M : Mem} {g : Int → Int} {s : Int} (hB : SB M) (hg : SgE M) (hW : MW (M.1 1 1) (rkC M) (mchR M 16)) (s0 : 0 ≤ s) (s1 : s < M.1 1 1) (v2 v4 : Int) (k : Mem → Option (Int × Mem)) (P : Option (Int × Mem) → Prop) (h2 : ∀ M', O84 M M' → UNI (M.1 1 1) (rkC M) (mchR M 16) g (dn3 (s + 1) 0 0) (M'.1 84) → P (k M')) {M0 : Mem} (o0 : O84 M M0) (h0 : UNI (M.1 1 1) (rkC M) (mchR M 16) g (dn3 s 0 0) (M0.1 84)) : P (L_M_ends_86 k 62 v2 (M.1 73 16) v4 s FU 0 M0) := by
  have k6 : 0 ≤ M.1 73 16 ∧ M.1 73 16 ≤ 6 := hW.1
  have n6 := hg.1.2.1
  have r63 := hg.2.2 s s0 s1
  refine lq1 (n := FU) (a := 0) (M := M0) (fun n v M' => L_M_ends_86 k 62 v2 (M.1 73 16) v4 s n v M') (fun v M' => (0 ≤ v ∧ v ≤ M.1 73 16) ∧ O84 M M' ∧ UNI (M.1 1 1) (rkC M) (mchR M 16) g (dn3 s v 0) (M'.1 84)) (fun v => (M.1 73 16 - v).toNat) P ?_ ⟨⟨Int.le_refl 0, k6.1⟩, o0, h0⟩ (by have := FU_eq; omega)
  intro n v M' ⟨vr, ho, hI⟩ ih
  show P (L_M_ends_86 k 62 v2 (M.1 73 16) v4 s (n + 1) v M')
  have hB' := ho.sb hB
  have g1 : gf M' 62 9 54 1 = some 63 := by simp [gf, hB'.m_]
  have d63 : rd M' 10 63 s = some (rkC M s) := by rw [rd_v (n := 6) (by simp [hB'.m_]) s0 (by omega), ho.2 63 (by decide), r63]
  have ew : wr (v + 1) = v + 1 := wr_eq (by omega) (by omega)
  have fin : (rkC M s ≤ 0 ∨ M.1 73 16 ≤ v) → P (k M') := fun q => h2 M' ho (hI.c (fun s' x' y' _ _ hA r z => by
    have nn := hA.nn
    unfold dn3 at z ⊢
    by_cases t : s' = s
    · subst t
      have : 0 ≤ x' ∧ x' < M.1 73 16 := hA.1 r
      omega
    · omega))
  rw [L_M_ends_86]
  by_cases q2 : M.1 73 16 ≤ v
  · simp only [q2, if_true, obs]
    exact fin (Or.inr q2)
  · simp only [q2, if_false, g1, obs, d63]
    by_cases q1 : rkC M s ≤ 0
    · simp only [q1, if_true, obs]
      exact fin (Or.inl q1)
    · simp only [q1, if_false, obs]
      rw [if_neg (by decide)]
      refine en105_lp hB hg hW s0 s1 (by omega) vr.1 (by omega) v2 v4 _ P (fun N oN h => ?_) ho hI
      rw [ew]
      exact ih (v + 1) N ⟨⟨by omega, by omega⟩, oN, h⟩ (by omega)
theorem en74_lp {M : Mem} {g : Int → Int} (hB : SB M) (hg : SgE M) (hW : MW (M.1 1 1) (rkC M) (mchR M 16)) (v2 v4 : Int) (k : Mem → Option (Int × Mem)) (P : Option (Int × Mem) → Prop) {M0 : Mem} (o0 : O84 M M0) (eg : M0.1 84 = g) (hS : UNS (M.1 1 1) (rkC M) (mchR M 16) g) (h2 : ∀ M', O84 M M' → UNS (M.1 1 1) (rkC M) (mchR M 16) (M'.1 84) → (∀ d c, 0 ≤ d → d < M.1 73 16 → bt (g d) c → bt (M'.1 84 d) c) → (∀ c, 0 ≤ c → c < M.1 73 16 → (∀ d, 0 ≤ d → d < M.1 73 16 → bt (M'.1 84 d) c → bt (g d) c) → UNC (M.1 1 1) (rkC M) (mchR M 16) g c) → P (k M')) : P (L_M_ends_74 k 62 v2 (M.1 73 16) v4 FU 0 M0) := by
  have n6 := hg.1.2.1
  have n0 := hg.1.1
  refine lq1 (n := FU) (a := 0) (M := M0) (fun n v M' => L_M_ends_74 k 62 v2 (M.1 73 16) v4 n v M') (fun v M' => (0 ≤ v ∧ v ≤ M.1 1 1) ∧ O84 M M' ∧ UNI (M.1 1 1) (rkC M) (mchR M 16) g (dn3 v 0 0) (M'.1 84)) (fun v => (M.1 1 1 - v).toNat) P ?_ ⟨⟨Int.le_refl 0, n0⟩, o0, by rw [eg]; exact ⟨hS, fun _ _ _ _ h => h, fun c _ _ _ s x y z q0 _ hA d _ _ => by have := hA.nn; unfold dn3 at d; omega⟩⟩ (by have := FU_eq; omega)
  intro n v M' ⟨vr, ho, hI⟩ ih
  show P (L_M_ends_74 k 62 v2 (M.1 73 16) v4 (n + 1) v M')
  have hB' := ho.sb hB
  have g0 : gf M' 62 9 54 0 = some (M.1 1 1) := by rw [← hg.2.1, ← ho.2 62 (by decide)]; simp [gf, hB'.m_]
  have ew : wr (v + 1) = v + 1 := wr_eq (by omega) (by omega)
  rw [L_M_ends_74]
  simp only [g0, obs]
  by_cases q : M.1 1 1 ≤ v
  · rw [if_pos q]
    refine h2 M' ho hI.1 hI.2.1 (fun c c0 c1 w z d ha hz => ?_)
    obtain ⟨s, x, y, t⟩ := ha
    have := hI.2.2 c c0 c1 w s x y z t.1.1 t.1.2 t.2.1 (by have := t.1; unfold dn3; omega) t.2.2.2 hz
    rw [t.2.2.1] at this
    exact this
  · rw [if_neg q]
    refine en86_lp hB hg hW vr.1 (by omega) v2 v4 _ P (fun N oN h => ?_) ho hI
    rw [ew]
    exact ih (v + 1) N ⟨⟨by omega, by omega⟩, oN, h⟩ (by omega)
theorem en65_lp {M : Mem} (hB : SB M) (hg : SgE M) (hW : MW (M.1 1 1) (rkC M) (mchR M 16)) (v2 : Int) (k : Mem → Option (Int × Mem)) (P : Option (Int × Mem) → Prop) {M0 : Mem} (o0 : O84 M M0) (hS : UNS (M.1 1 1) (rkC M) (mchR M 16) (M0.1 84)) (h2 : ∀ M', O84 M M' → UNS (M.1 1 1) (rkC M) (mchR M 16) (M'.1 84) → (∀ c, 0 ≤ c → c < M.1 73 16 → UNC (M.1 1 1) (rkC M) (mchR M 16) (M'.1 84) c) → P (k M')) : P (L_M_ends_65 k 62 v2 (M.1 73 16) FU 0 M0) := by
  have k6 : 0 ≤ M.1 73 16 ∧ M.1 73 16 ≤ 6 := hW.1
  refine lq1 (n := FU) (a := 0) (M := M0) (fun n v M' => L_M_ends_65 k 62 v2 (M.1 73 16) n v M') (fun v M' => (0 ≤ v ∧ v ≤ M.1 73 16 + 1) ∧ O84 M M' ∧ UNS (M.1 1 1) (rkC M) (mchR M 16) (M'.1 84) ∧ ∀ c, 0 ≤ c → c < M.1 73 16 → UNC (M.1 1 1) (rkC M) (mchR M 16) (M'.1 84) c ∨ v ≤ cnt (fun d => bt (M'.1 84 d) c) (M.1 73 16).toNat) (fun v => (M.1 73 16 + 1 - v).toNat) P ?_ ⟨⟨Int.le_refl 0, by omega⟩, o0, hS, fun c _ _ => Or.inr (by omega)⟩ (by have := FU_eq; omega)
  intro n v M' ⟨vr, ho, hI, hc⟩ ih
  show P (L_M_ends_65 k 62 v2 (M.1 73 16) (n + 1) v M')
  have ew : wr (v + 1) = v + 1 := wr_eq (by omega) (by omega)
  rw [L_M_ends_65]
  dsimp only
  by_cases q : M.1 73 16 < v
  · rw [if_pos q]
    refine h2 M' ho hI (fun c c0 c1 => ?_)
    rcases hc c c0 c1 with w | w
    · exact w
    · have := cnt_le (fun d => bt (M'.1 84 d) c) (M.1 73 16).toNat
      omega
  · rw [if_neg q]
    refine en74_lp (g := M'.1 84) hB hg hW v2 v _ P ho rfl hI (fun N oN hN hmo hcl => ?_)
    rw [ew]
    refine ih (v + 1) N ⟨⟨by omega, by omega⟩, oN, hN, fun c c0 c1 => ?_⟩ (by omega)
    rcases hc c c0 c1 with w | w
    · left
      intro z d ha hz
      have r := ha.r hW
      have tz : Tc (M.1 1 1) (rkC M) (mchR M 16) c d := by
        rcases hz with hz | hz
        · rw [← hz]; exact Tc.b d ha
        · exact Tc.t z d (hN.2 z c r.1.1 r.1.2 c0 hz) ha
      exact hmo d c r.2.1 r.2.2 (w.all tz)
    · by_cases g : ∀ d, 0 ≤ d → d < M.1 73 16 → bt (N.1 84 d) c → bt (M'.1 84 d) c
      · left
        have w' := hcl c c0 c1 g
        intro z d ha hz
        have r := ha.r hW
        exact hmo d c r.2.1 r.2.2 (w' z d ha (hz.imp id (fun u => g z r.1.1 r.1.2 u)))
      · right
        have ⟨d, hd⟩ := Classical.not_forall.mp g
        have d0 : 0 ≤ d := Classical.byContradiction fun u => hd (fun a => absurd a u)
        have d1 : d < M.1 73 16 := Classical.byContradiction fun u => hd (fun _ a => absurd a u)
        have y1 : bt (N.1 84 d) c := Classical.byContradiction fun u => hd (fun _ _ a => absurd a u)
        have x1 : ¬ bt (M'.1 84 d) c := fun u => hd (fun _ _ _ => u)
        have := cnt_st (X := fun d => bt (M'.1 84 d) c) (Y := fun d => bt (N.1 84 d) c) (k := (M.1 73 16).toNat) (fun i i0 i1 h => hmo i c i0 (by omega) h) ⟨d, d0, by omega, y1, x1⟩
        omega
