/-! whether a tongue ends: the class -/
def Tc (n : Int) (rk : Int → Int) (m : Mch) (c d : Int) : Prop := ∀ S : Int → Prop, (∀ d, Abv n rk m c d → S d) → (∀ d e, S d → Abv n rk m d e → S e) → S d
theorem Tc.b {n : Int} {rk : Int → Int} {m : Mch} {c : Int} (d : Int) (ha : Abv n rk m c d) : Tc n rk m c d := fun _ a _ => a d ha
theorem Tc.t {n : Int} {rk : Int → Int} {m : Mch} {c : Int} (d e : Int) (h : Tc n rk m c d) (ha : Abv n rk m d e) : Tc n rk m c e := fun S a b => b d e (h S a b) ha
theorem Tc.tr {n : Int} {rk : Int → Int} {m : Mch} {c d e : Int} (h : Tc n rk m c d) (h' : Tc n rk m d e) : Tc n rk m c e := h' (fun e => Tc n rk m c e) (fun e ha => Tc.t d e h ha) (fun f e ih ha => Tc.t f e ih ha)
theorem Tc.q {n : Int} {rk : Int → Int} {m m' : Mch} (e : Eqm n rk m m') {c d : Int} (h : Tc n rk m c d) : Tc n rk m' c d := h (fun d => Tc n rk m' c d) (fun d ha => Tc.b d (ha.q e)) (fun d f ih ha => Tc.t d f ih (ha.q e))
theorem Abv.r {n : Int} {rk : Int → Int} {m : Mch} (hW : MW n rk m) {c d : Int} (h : Abv n rk m c d) : (0 ≤ c ∧ c < mN m) ∧ (0 ≤ d ∧ d < mN m) := by
  obtain ⟨s, x, y, w⟩ := h
  refine ⟨w.c, ?_⟩
  have := hW.2 s x y w.1.1 w.1.2 w.2.1
  rw [w.2.2.1] at this
  exact this
/-- rows of bits: above, joined by way of the first k -/
def WSI (n : Int) (rk : Int → Int) (m : Mch) (k : Int) (f : Int → Int) : Prop := (∀ c, 0 ≤ c → c < 6 → 0 ≤ f c ∧ f c < 64) ∧ (∀ c d, 0 ≤ c → c < mN m → 0 ≤ d → bt (f c) d → Tc n rk m c d) ∧ (∀ c d, Abv n rk m c d → bt (f c) d) ∧ ∀ c j d, 0 ≤ c → c < mN m → 0 ≤ j → j < k → 0 ≤ d → bt (f c) j → bt (f j) d → bt (f c) d
theorem WSI.up {n : Int} {rk : Int → Int} {m : Mch} {k : Int} {f g : Int → Int} (h : WSI n rk m k f) (m6 : mN m ≤ 6) (k0 : 0 ≤ k) (k1 : k < mN m) (hg : ∀ c, 0 ≤ c → c < mN m → g c = @ite Int (bt (f c) k) (Classical.propDecidable _) (ior (f c) (f k)) (f c)) (hr : ∀ c, mN m ≤ c → g c = f c) : WSI n rk m (k + 1) g := by
  obtain ⟨h1, h2, h3, h4⟩ := h
  have kr := h1 k k0 (by omega)
  have gb : ∀ c d, 0 ≤ c → c < mN m → 0 ≤ d → (bt (g c) d ↔ bt (f c) d ∨ (bt (f c) k ∧ bt (f k) d)) := by
    intro c d c0 c1 d0
    rw [hg c c0 c1]
    have cr := h1 c c0 (by omega)
    by_cases q : bt (f c) k
    · rw [if_pos q, bt_or cr.1 (by omega) kr.1 (by omega)]
      exact ⟨fun w => w.imp id (fun u => ⟨q, u⟩), fun w => w.imp id (fun u => u.2)⟩
    · rw [if_neg q]
      exact ⟨Or.inl, fun w => w.elim id (fun u => absurd u.1 q)⟩
  refine ⟨fun c c0 c1 => ?_, fun c d c0 c1 d0 w => ?_, fun c d ha => ?_, fun c j d c0 c1 j0 j1 d0 w1 w2 => ?_⟩
  · by_cases q : c < mN m
    · rw [hg c c0 q]
      have cr := h1 c c0 c1
      split
      · exact ior_r (k := 6) (by decide) cr.1 cr.2 kr.1 kr.2
      · exact cr
    · rw [hr c (by omega)]; exact h1 c c0 c1
  · rcases (gb c d c0 c1 d0).mp w with u | ⟨u, v⟩
    · exact h2 c d c0 c1 d0 u
    · exact (h2 c k c0 c1 k0 u).tr (h2 k d k0 k1 d0 v)
  · obtain ⟨s, x, y, t⟩ := id ha
    have cr := t.c
    have := h3 c d ha
    rw [hg c cr.1 cr.2]
    have cr' := h1 c cr.1 (by omega)
    split
    · rw [bt_or cr'.1 (by omega) kr.1 (by omega)]; exact Or.inl this
    · exact this
  · rw [gb c d c0 c1 d0]
    rw [gb c j c0 c1 j0] at w1
    rw [gb j d j0 (by omega) d0] at w2
    by_cases e : j = k
    · subst e
      have a : bt (f c) j := w1.elim id (fun u => u.1)
      have b : bt (f j) d := w2.elim id (fun u => u.2)
      exact Or.inr ⟨a, b⟩
    · have jk : j < k := by omega
      rcases w1 with u | ⟨u1, u2⟩
      · rcases w2 with v | ⟨v1, v2⟩
        · exact Or.inl (h4 c j d c0 c1 j0 jk d0 u v)
        · exact Or.inr ⟨h4 c j k c0 c1 j0 jk k0 u v1, v2⟩
      · rcases w2 with v | ⟨v1, v2⟩
        · exact Or.inr ⟨u1, h4 k j d k0 k1 j0 jk d0 u2 v⟩
        · exact Or.inr ⟨u1, v2⟩
theorem WSI.all {n : Int} {rk : Int → Int} {m : Mch} {f : Int → Int} (h : WSI n rk m (mN m) f) (hW : MW n rk m) {c d : Int} (c0 : 0 ≤ c) (c1 : c < mN m) (d0 : 0 ≤ d) : bt (f c) d ↔ Tc n rk m c d := by
  refine ⟨h.2.1 c d c0 c1 d0, fun w => w (fun d => bt (f c) d) (fun d ha => h.2.2.1 c d ha) (fun d e ih ha => ?_)⟩
  have r := ha.r hW
  exact h.2.2.2 c d e c0 c1 r.1.1 r.1.2 r.2.1 ih (h.2.2.1 d e ha)
theorem ior_self {z : Int} (z0 : 0 ≤ z) (z1 : z < 64) : ior z z = z := by
  have o := ior_r (k := 6) (by decide) z0 z1 z0 z1
  refine bt_ext (k := 6) o.1 o.2 z0 z1 (fun i _ _ => ?_)
  rw [bt_or z0 (by omega) z0 (by omega)]
  exact ⟨fun t => t.elim id id, Or.inl⟩
/-- only the list above has changed -/
def O7 (p : Int) (M M' : Mem) : Prop := M'.2 = M.2 ∧ ∀ a, a ≠ p + 7 → M'.1 a = M.1 a
theorem ie17_lp {A M0 : Mem} {p kk v1 : Int} (hM : MOK A p) (h0 : O7 p A M0) (hI : WSI (A.1 1 1) (rkC A) (mch A p) kk (M0.1 (p + 7))) (k0 : 0 ≤ kk) (k1 : kk < A.1 p 10) (k : Mem → Option (Int × Mem)) (P : Option (Int × Mem) → Prop) (h2 : ∀ M', O7 p A M' → WSI (A.1 1 1) (rkC A) (mch A p) (kk + 1) (M'.1 (p + 7)) → P (k M')) : P (L_Machine_isEndless_17 k p v1 kk FU 0 M0) := by
  have hp := hM.2.1
  have k6 : 0 ≤ A.1 p 10 ∧ A.1 p 10 ≤ 6 := hM.2.2.1.1
  have emN : mN (mch A p) = A.1 p 10 := rfl
  have kr := hI.1 kk k0 (by omega)
  refine lq1 (n := FU) (a := 0) (M := M0) (fun n v M' => L_Machine_isEndless_17 k p v1 kk n v M') (fun v M' => (0 ≤ v ∧ v ≤ A.1 p 10) ∧ O7 p A M' ∧ ∀ c, M'.1 (p + 7) c = @ite Int ((0 ≤ c ∧ c < v) ∧ bt (M0.1 (p + 7) c) kk) (Classical.propDecidable _) (ior (M0.1 (p + 7) c) (M0.1 (p + 7) kk)) (M0.1 (p + 7) c)) (fun v => (A.1 p 10 - v).toNat) P ?_ ⟨⟨Int.le_refl 0, k6.1⟩, h0, fun c => by rw [if_neg (by omega)]⟩ (by have := FU_eq; omega)
  intro n v M' ⟨vr, ho, hc⟩ ih
  show P (L_Machine_isEndless_17 k p v1 kk (n + 1) v M')
  have ep : M'.1 p = A.1 p := ho.2 p (by omega)
  have ms : MS M' p := MS.c hM.1 (fun j _ => by rw [ep]) (fun a _ _ => by rw [ho.1])
  have g10 : gf M' p 1 14 10 = some (A.1 p 10) := by rw [← ep]; simp [gf, ms]
  have g7 : gf M' p 1 14 7 = some (p + 7) := by simp [gf, ms]
  have l7 : M'.2.1 (p + 7) = (10, 6) := by simp [ms]
  clear ms
  have ew : wr (v + 1) = v + 1 := wr_eq (by omega) (by omega)
  have ek : M'.1 (p + 7) kk = M0.1 (p + 7) kk := by
    rw [hc kk]
    split
    · exact ior_self kr.1 kr.2
    · rfl
  rw [L_Machine_isEndless_17]
  simp only [g10, obs]
  by_cases q : A.1 p 10 ≤ v
  · rw [if_pos q]
    refine h2 M' ho (hI.up k6.2 k0 k1 (fun c c0 c1 => ?_) (fun c cN => ?_))
    · rw [hc c]
      by_cases z : bt (M0.1 (p + 7) c) kk
      · rw [if_pos z, if_pos ⟨⟨c0, by omega⟩, z⟩]
      · rw [if_neg z, if_neg (fun w => z w.2)]
    · rw [hc c, if_neg (by omega)]
  · rw [if_neg q]
    have v6 : v < 6 := by omega
    have vr' := hI.1 v vr.1 v6
    have ev : M'.1 (p + 7) v = M0.1 (p + 7) v := by rw [hc v, if_neg (by omega)]
    have eR : rd M' 10 (p + 7) v = some (M0.1 (p + 7) v) := by rw [rd_v l7 vr.1 (by omega), ev]
    have eK : rd M' 10 (p + 7) kk = some (M0.1 (p + 7) kk) := by rw [rd_v l7 k0 (by omega), ek]
    have eW : ∀ w, wt M' 10 (p + 7) v w = some (up M' (p + 7) v w) := fun w => wt_v l7 vr.1 (by omega)
    simp only [g7, obs, eR, eK, eW, ew]
    rcases bt_get (z := M0.1 (p + 7) v) (i := kk) vr'.1 (by omega) k0 (by omega) with ⟨b1, b2⟩ | ⟨b1, b2⟩
    · rw [if_neg (by omega), obs]
      refine ih (v + 1) _ ⟨⟨by omega, by omega⟩, ⟨by rw [up_2]; exact ho.1, fun a w => by rw [up_n w]; exact ho.2 a w⟩, fun c => ?_⟩ (by omega)
      rw [up_1]
      by_cases z : c = v
      · subst z
        rw [if_pos ⟨rfl, rfl⟩, if_pos ⟨⟨vr.1, by omega⟩, b1⟩]
      · rw [if_neg (fun w => z w.2), hc c]
        by_cases y : (0 ≤ c ∧ c < v) ∧ bt (M0.1 (p + 7) c) kk
        · rw [if_pos y, if_pos ⟨⟨y.1.1, by omega⟩, y.2⟩]
        · rw [if_neg y, if_neg (fun w => y ⟨⟨w.1.1, by omega⟩, w.2⟩)]
    · rw [if_pos b2, obs]
      refine ih (v + 1) M' ⟨⟨by omega, by omega⟩, ho, fun c => ?_⟩ (by omega)
      rw [hc c]
      by_cases y : (0 ≤ c ∧ c < v) ∧ bt (M0.1 (p + 7) c) kk
      · rw [if_pos y, if_pos ⟨⟨y.1.1, by omega⟩, y.2⟩]
      · rw [if_neg y, if_neg (fun w => y ⟨⟨w.1.1, by
          have : c ≠ v := fun u => b1 (by rw [← u]; exact w.2)
          omega⟩, w.2⟩)]
/-- a tongue is endless -/
def Endl (n : Int) (rk : Int → Int) (m : Mch) : Prop := ∃ c, Lv n rk m c ∧ Tc n rk m c c
def IEP (M : Mem) (p r : Int) (M' : Mem) : Prop := O7 p M M' ∧ SB M' ∧ ((r = 1 ∧ Endl (M.1 1 1) (rkC M) (mch M p)) ∨ (r = 0 ∧ ¬ Endl (M.1 1 1) (rkC M) (mch M p)))
theorem endless_ok {M : Mem} {p : Int} (hB : SB M) (hg : SgOk M) (hM : MOK M p) : OkV (D_Machine_isEndless p M) (fun r M' => IEP M p r M') := by
  have hp := hM.2.1
  have k6 : 0 ≤ M.1 p 10 ∧ M.1 p 10 ≤ 6 := hM.2.2.1.1
  have emN : mN (mch M p) = M.1 p 10 := rfl
  have ckp : ck M p 1 14 = some () := by
    have ms := hM.1
    simp [ck, ms]
  obtain ⟨lv, A, dl, hL, lvr, hlv⟩ := living_ok hB hg hM
  have hOA : O7 p M A := ⟨hL.1, hL.2.1⟩
  have sbo : ∀ M', O7 p M M' → SB M' := fun M' h => SB_c hB h.1 (fun a k s => by rw [h.2 a (by unfold stp at s; omega)])
  unfold D_Machine_isEndless
  rw [ckp, obs, dl, obs]
  dsimp only
  have h0 : WSI (M.1 1 1) (rkC M) (mch M p) 0 (A.1 (p + 7)) := by
    refine ⟨fun c c0 c1 => (hL.2.2.2 c c0 c1).1, fun c d c0 c1 d0 w => Tc.b d (((hL.2.2.2 c c0 (by omega)).2 d d0).mp w), fun c d ha => ?_, fun c j d _ _ j0 j1 => by omega⟩
    have r := ha.r hM.2.2.1
    exact ((hL.2.2.2 c r.1.1 (by omega)).2 d r.2.1).mpr ha
  refine lq1 (n := FU) (a := 0) (M := A) (fun n v M' => L_Machine_isEndless_7 (fun m7 => L_Machine_isEndless_67 (fun m67 => some (0, m67)) p lv FU 0 m7) p lv n v M') (fun v M' => (0 ≤ v ∧ v ≤ M.1 p 10) ∧ O7 p M M' ∧ WSI (M.1 1 1) (rkC M) (mch M p) v (M'.1 (p + 7))) (fun v => (M.1 p 10 - v).toNat) (fun o => OkV o (fun r M' => IEP M p r M')) ?_ ⟨⟨Int.le_refl 0, k6.1⟩, hOA, h0⟩ (by have := FU_eq; omega)
  intro n v M1 ⟨vr, ho, hI⟩ ih
  show OkV (L_Machine_isEndless_7 _ p lv (n + 1) v M1) _
  have ep : M1.1 p = M.1 p := ho.2 p (by omega)
  have ms : MS M1 p := MS.c hM.1 (fun j _ => by rw [ep]) (fun a _ _ => by rw [ho.1])
  have g10 : gf M1 p 1 14 10 = some (M.1 p 10) := by rw [← ep]; simp [gf, ms]
  have g7 : gf M1 p 1 14 7 = some (p + 7) := by simp [gf, ms]
  have l7 : M1.2.1 (p + 7) = (10, 6) := by simp [ms]
  clear ms
  have ew : wr (v + 1) = v + 1 := wr_eq (by omega) (by omega)
  rw [L_Machine_isEndless_7]
  simp only [g10, obs]
  by_cases q : M.1 p 10 ≤ v
  · rw [if_pos q]
    have ev : v = M.1 p 10 := by omega
    rw [ev, ← emN] at hI
    clear ih
    refine lq1 (n := FU) (a := 0) (M := M1) (fun n v M' => L_Machine_isEndless_67 (fun m67 => some (0, m67)) p lv n v M') (fun w M' => M' = M1 ∧ (0 ≤ w ∧ w ≤ M.1 p 10) ∧ ∀ c, 0 ≤ c → c < w → ¬ (Lv (M.1 1 1) (rkC M) (mch M p) c ∧ Tc (M.1 1 1) (rkC M) (mch M p) c c)) (fun w => (M.1 p 10 - w).toNat) (fun o => OkV o (fun r M' => IEP M p r M')) ?_ ⟨rfl, ⟨Int.le_refl 0, k6.1⟩, fun c _ _ => by omega⟩ (by have := FU_eq; omega)
    intro n w M' ⟨e, wr', hw⟩ ih
    subst e
    show OkV (L_Machine_isEndless_67 _ p lv (n + 1) w M') _
    have ew : wr (w + 1) = w + 1 := wr_eq (by omega) (by omega)
    rw [L_Machine_isEndless_67]
    simp only [g10, obs]
    by_cases q' : M.1 p 10 ≤ w
    · rw [if_pos q']
      exact OkV.i ⟨ho, sbo M' ho, Or.inr ⟨rfl, fun ⟨c, u1, u2⟩ => hw c u1.r.1 (by have := u1.r.2; omega) ⟨u1, u2⟩⟩⟩
    · rw [if_neg q']
      have w6 : w < 6 := by omega
      have rr := hI.1 w wr'.1 w6
      have eR : rd M' 10 (p + 7) w = some (M'.1 (p + 7) w) := rd_v l7 wr'.1 (by omega)
      have nx : ¬ (Lv (M.1 1 1) (rkC M) (mch M p) w ∧ Tc (M.1 1 1) (rkC M) (mch M p) w w) → OkV (L_Machine_isEndless_67 (fun m67 => some (0, m67)) p lv n (w + 1) M') (fun r M' => IEP M p r M') := fun g => ih (w + 1) M' ⟨rfl, ⟨by omega, by omega⟩, fun c c0 c1 => by
        by_cases z : c = w
        · rw [z]; exact g
        · exact hw c c0 (by omega)⟩ (by omega)
      simp only [g7, obs, eR, ew]
      rcases bt_get (z := lv) (i := w) lvr.1 (by omega) wr'.1 (by omega) with ⟨b1, b2⟩ | ⟨b1, b2⟩
      · rw [if_neg (by omega)]
        rcases bt_get (z := M'.1 (p + 7) w) (i := w) rr.1 (by omega) wr'.1 (by omega) with ⟨b3, b4⟩ | ⟨b3, b4⟩
        · rw [if_neg (by omega), obs, if_neg (by decide)]
          exact OkV.i ⟨ho, sbo M' ho, Or.inl ⟨rfl, w, (hlv w wr'.1 (by omega)).mp b1, (hI.all hM.2.2.1 wr'.1 (by omega) wr'.1).mp b3⟩⟩
        · rw [if_pos b4, obs, if_pos rfl]
          exact nx (fun u => b3 ((hI.all hM.2.2.1 wr'.1 (by omega) wr'.1).mpr u.2))
      · rw [if_pos b2, obs, if_pos rfl]
        exact nx (fun u => b1 ((hlv w wr'.1 (by omega)).mpr u.1))
  · rw [if_neg q]
    refine ie17_lp hM ho hI vr.1 (by omega) _ (fun o => OkV o (fun r M' => IEP M p r M')) (fun M' hO hI' => ?_)
    rw [ew]
    exact ih (v + 1) M' ⟨⟨by omega, by omega⟩, hO, hI'⟩ (by omega)
