/-! calls: the tree of a number, both sides -/
theorem nsr_1 {T : Int → Int} {q : Nat} {z l : Int} (h : ¬ 40 < z) (h2 : ¬ l < T z) : nsr T (q + 1) z l = nsr T q (z + 1) (l - T z) := by
  rw [nsr]
  dsimp only
  rw [if_neg h, if_neg h2]
theorem rt_lp {n : Int} {rk : Int → Int} {m : Mch} {W : Int → Int} {M A : Mem} (h : RSt n rk m M) (hA : BA M) (hw : WOK (mN m) W) (eW : ∀ c, 0 ≤ c → c < mN m → M.1 75 (96 + c) = W c) (P : Option (Int × Mem) → Prop) (T : Int → Int) (T0 : ∀ z, 0 ≤ T z ∧ T z ≤ FAR) (hci : ∀ z, 1 ≤ z → z ≤ 40 → D_M_countIn 62 z M = some (T z, M)) (K : Mem → Option (Int × Mem)) : ∀ (q : Nat) (z l : Int) (n1 : Nat), 1 ≤ z → (0 ≤ l ∧ l < FAR) → (41 - z).toNat < q → (41 - z).toNat < n1 → (nsr T q z l = none → P (K M)) → (∀ z' l', nsr T q z l = some (z', l') → P ((ck M 62 9 54).bind fun _ => (D_M_layTree 62 z' l' M).bind fun x73 => some (x73.1, x73.2))) → P (L_M_tree_45 K 62 n1 l z M) := by
  intro q
  induction q with
  | zero => intro z l n1 _ _ h; omega
  | succ q ih =>
    intro z l n1 z1 lr hq hn1 hno hso
    cases n1 with
    | zero => omega
    | succ n1 =>
    rw [L_M_tree_45]
    dsimp only
    by_cases qz : 40 < z
    · rw [if_pos qz]
      exact hno (by unfold nsr; rw [if_pos qz])
    · rw [if_neg qz]
      have hB := h.sb
      have ck0 : ck M 62 9 54 = some () := by simp [ck, hB.m_]
      rw [ck0, obs, hci z z1 (by omega), obs]
      dsimp only
      by_cases ql : l < T z
      · rw [if_neg (fun u => by have := lc_ge.mp u; omega)]
        exact hso z l (by unfold nsr; rw [if_neg qz, if_pos ql])
      · rw [if_pos (lc_ge.mpr (by omega))]
        have tz := T0 z
        have wl1 : wl (l - T z) = l - T z := wl_eq (by rw [FAR_e] at *; omega) (by rw [FAR_e] at *; omega)
        have wz : wr (z + 1) = z + 1 := wr_eq (by omega) (by omega)
        have en := nsr_1 (q := q) qz ql
        rw [wl1, wz]
        unfold lt
        exact ih (z + 1) (l - T z) n1 (by omega) (by omega) (by omega) (by omega) (fun w => hno (by rw [en]; exact w)) (fun z' l' w => hso z' l' (by rw [en]; exact w))
theorem SETW.rf {T : List Int} {M M' : Mem} (h : SETW T M M') : RFr M M' := by
  have o : ∀ a, a ≠ 3 → a ≠ 4 → a ≠ 60 → a ≠ 61 → M'.1 a = M.1 a := h.2.1
  have o62 := o 62 (by decide) (by decide) (by decide) (by decide)
  exact ⟨h.1, fun a q => o a (by omega) (by omega) (by omega) (by omega), by rw [o62], by rw [o62], fun k _ => by rw [o 73 (by decide) (by decide) (by decide) (by decide)], fun k _ => by rw [o 74 (by decide) (by decide) (by decide) (by decide)], fun a k q r _ => by rw [o a (by omega) (by omega) (by omega) (by omega)]⟩
theorem SETX.rf {T : List Int} {M M' : Mem} (h : SETX T M M') : RFr M M' := by
  have o : ∀ a, a ≠ 62 → a ≠ 64 → ¬ (94 ≤ a ∧ a ≤ 99) → M'.1 a = M.1 a := h.2.1
  exact ⟨h.1, fun a q => o a (by omega) (by omega) (by omega), h.2.2.1 0 (by decide) (by decide) (by decide), h.2.2.1 4 (by decide) (by decide) (by decide), fun k _ => by rw [o 73 (by decide) (by decide) (by decide)], fun k _ => by rw [o 74 (by decide) (by decide) (by decide)], fun a k q r _ => by rw [o a (by omega) (by omega) (by omega)]⟩
theorem RCN.rf {M M' : Mem} (h : RCN M M') : RFr M M' := by
  have o : ∀ a, a ≠ 93 → M'.1 a = M.1 a := h.2.1
  exact ⟨h.1, fun a q => o a (by omega), by rw [o 62 (by decide)], by rw [o 62 (by decide)], fun k _ => by rw [o 73 (by decide)], fun k _ => by rw [o 74 (by decide)], fun a k q r _ => by rw [o a (by omega)]⟩
theorem IB.wf {M M' : Mem} {tc : Int} (h : IB M tc) (f : RFr M M') (hB : SB M') (hA : BA M') : IW M' tc := by
  have t0 := h.tc_
  refine ⟨hB, h.sg.c (f.2.1 1 (by omega)) (f.2.1 2 (by omega)) f.2.2.1 (f.2.1 63 (by omega)), hA, t0, fun j j0 j1 => f.tg j0 (by omega) h.sg.1.2.1 (h.2.2.2.2.2.2.2.2.2.2 j j0 j1)⟩
theorem WT_mem {n : Int} {rk : Int → Int} {m : Mch} : ∀ (j : Nat) {W : Int → Int} {z k c r : Int} {l : List Int}, WT n rk m j W z k c r l → ∀ x, x ∈ l → 0 ≤ x ∧ x < n := by
  intro j
  induction j with
  | zero => intro W z k c r l h; exact h.elim
  | succ j ih =>
    intro W z k c r l h x hx
    obtain ⟨-, s, f, k', -, ⟨sr, -⟩, hc⟩ := h
    rcases hc with ⟨-, -, -, el⟩ | ⟨-, c1, l1, t1, -, el⟩ | ⟨-, c1, r1, l1, c2, l2, t1, t2, -, el⟩
    · rw [el] at hx
      rcases List.mem_cons.mp hx with e | e
      · rw [e]; exact sr
      · exact absurd e List.not_mem_nil
    · rw [el] at hx
      rcases List.mem_cons.mp hx with e | e
      · rw [e]; exact sr
      · exact ih t1 x e
    · rw [el] at hx
      rcases List.mem_cons.mp hx with e | e
      · rw [e]; exact sr
      · rcases List.mem_append.mp e with e | e
        · exact ih t1 x e
        · exact ih t2 x e
/-- both sides have counted: the same sums -/
theorem tot_q {n : Int} {rk : Int → Int} {m m' : Mch} {F F' : Int → Int} {z : Int} (hE : Eqm n rk m m') (hr : ∀ s, 0 ≤ rk s ∧ rk s ≤ 2) (hF : ∀ c, 0 ≤ c → c < mN m → F c = F' c) : tot n rk m F z (mN m).toNat = tot n rk m' F' z (mN m').toNat := by
  unfold tot
  rw [← hE.1]
  refine sumN_c (fun c c0 c1 => ?_)
  rw [hF c c0 (by omega), tC_q hE hr]
/-- the finals, read by bits and by marks -/
theorem fb_q {M A : Mem} {p : Int} (hM : MOK M p) {n : Int} {rk : Int → Int} (hE : Eqm n rk (mch M p) (mchR A 16)) (hA : BA A) : ∀ c, 0 ≤ c → c < M.1 p 10 → fb M p c = A.1 75 (96 + c) := by
  intro c c0 c1
  have k6 : 0 ≤ M.1 p 10 ∧ M.1 p 10 ≤ 6 := hM.2.2.1.1
  have ff := hM.2.2.2
  have fi : bt (M.1 p 11) c ↔ A.1 75 (96 + c) = 1 := (hE.2.1 c c0 c1).2.2.2.2
  have e : fb M p c = iand (ishr (M.1 p 11) c) 1 := rfl
  rcases bt_get (z := M.1 p 11) (i := c) ff.1 (by omega) c0 (by omega) with ⟨b1, b2⟩ | ⟨b1, b2⟩
  · rw [e, b2, fi.mp b1]
  · rw [e, b2]
    rcases hA (96 + c) (by omega) (by omega) with w | w
    · exact w.symm
    · exact absurd (fi.mpr w) b1
