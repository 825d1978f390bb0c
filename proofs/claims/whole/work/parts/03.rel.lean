/-! the memory, its picture in the heap, and one judgement for a method's body -/
abbrev V : Type := Nat × Int
/-- contents, shapes (kind and number of slots), number of cells -/
abbrev Mem : Type := (Int → Int → Int) × (Int → Nat × Nat) × Nat
abbrev YY : Type := MethodName × ByteArray × Nat × Option FieldType
abbrev GG : Type := va_G × (Nat → ClassId) × Nat × Nat × Nat × Nat × (Nat → Int32)
def gB (G : GG) : Nat := G.2.2.1
def gA (G : GG) : Nat → Prop := fun q => gB G ≤ q
def r32 (z : Int) : Prop := -2147483648 ≤ z ∧ z < 2147483648
def r64 (z : Int) : Prop := -9223372036854775808 ≤ z ∧ z < 9223372036854775808
def wr (z : Int) : Int := (Int32.ofInt z).toInt
def wl (z : Int) : Int := (Int64.ofInt z).toInt
theorem wr_ok (z : Int) : r32 (wr z) := ⟨(Int32.ofInt z).le_toInt, (Int32.ofInt z).toInt_lt⟩
theorem wl_ok (z : Int) : r64 (wl z) := ⟨(Int64.ofInt z).le_toInt, (Int64.ofInt z).toInt_lt⟩
theorem i32_ok (x : Int32) : r32 x.toInt := ⟨x.le_toInt, x.toInt_lt⟩
theorem i64_ok (x : Int64) : r64 x.toInt := ⟨x.le_toInt, x.toInt_lt⟩
theorem wr_of {z : Int} (h : r32 z) : wr z = z := Int32.toInt_ofInt_of_le h.1 h.2
theorem wl_of {z : Int} (h : r64 z) : wl z = z := Int64.toInt_ofInt_of_le h.1 h.2
theorem o_wr (z : Int) : Int32.ofInt (wr z) = Int32.ofInt z := Int32.ofInt_toInt _
theorem o_wl (z : Int) : Int64.ofInt (wl z) = Int64.ofInt z := Int64.ofInt_toInt _
def rfO (G : GG) (z : Int) : Option Nat := if z < 0 then none else if z < 1000000 then some (gB G + z.toNat) else if z = 1000000 then some G.2.2.2.1 else some G.2.2.2.2.1
def cv (G : GG) (v : V) : Value := match v with
  | (0, z) => .int (Int32.ofInt z)
  | (1, z) => .long (Int64.ofInt z)
  | (_, z) => va_rf (rfO G z)
def ft (ci k : Nat) : Nat := (ftT.getD ci []).getD k 0
def ko (kd i : Nat) : Nat := if kd < 10 then ft kd i else if kd = 10 then 0 else if kd = 11 then 1 else if kd = 12 then 3 else 2
def okc (c : Nat) (z : Int) : Prop := match c with
  | 0 => r32 z
  | 1 => r64 z
  | 3 => z = 0 ∨ z = 1
  | _ => True
def tg (c : Nat) : Nat := if c = 3 then 0 else c
def okV (v : V) : Prop := match v with
  | (0, z) => r32 z
  | (1, z) => r64 z
  | _ => True
def okL (l : List (Nat × V)) : Prop := ∀ q ∈ l, okV q.2
def okS (l : List V) : Prop := ∀ q ∈ l, okV q
def cellE (G : GG) (M : Mem) (a : Int) : va_E :=
  if (M.2.1 a).1 < 10 then .inr ((M.2.1 a).1, (List.range (M.2.1 a).2).map fun j => cv G (tg (ft (M.2.1 a).1 j), M.1 a j))
  else if (M.2.1 a).1 = 11 then .inl (G.2.1 11, (M.2.1 a).2, .inr (.inl fun j => Int64.ofInt (M.1 a j)))
  else if 13 ≤ (M.2.1 a).1 then .inl (G.2.1 (M.2.1 a).1, (M.2.1 a).2, .inr (.inr (.inr (.inr fun j => rfO G (M.1 a j)))))
  else .inl (G.2.1 (M.2.1 a).1, (M.2.1 a).2, .inl fun j => Int32.ofInt (M.1 a j))
def okM (M : Mem) : Prop := M.2.2 ≤ 900000 ∧ (∀ a, (M.2.1 a).1 < 15 → 0 ≤ a ∧ a < M.2.2) ∧ ∀ a, (M.2.1 a).1 < 15 → ((M.2.1 a).1 < 10 → (M.2.1 a).2 = nfT.getD (M.2.1 a).1 0) ∧ (M.2.1 a).2 < 2147483648 ∧ ∀ i : Nat, i < (M.2.1 a).2 → okc (ko (M.2.1 a).1 i) (M.1 a i)
def wsG (G : GG) (M : Mem) : va_W := (List.range M.2.2).map fun j : Nat => (gB G + j, cellE G M j)
def tysG (G : GG) : List (ClassId × FieldType) := [(G.2.1 10, .int), (G.2.1 11, .long), (G.2.1 12, .boolean), (G.2.1 13, .object "TreeTongues$Step"), (G.2.1 14, .object "TreeTongues$Tongue")]
/-- the script lies in the memory too, as a cell of a kind of its own that nothing writes -/
def Scr (G : GG) (M : Mem) : Prop := M.2.1 1000001 = (20, G.2.2.2.2.2.1) ∧ ∀ i : Nat, i < G.2.2.2.2.2.1 → M.1 1000001 i = (G.2.2.2.2.2.2 i).toInt
def Rel (G : GG) (M : Mem) (s : State) (H : Heap) (locs : List Loc) : Prop := okM M ∧ H.size = gB G + M.2.2 ∧ va_P G.1 vwCl (wsG G M) H ∧ va_S (gA G) s.heap H locs ∧ Scr G M
def up (M : Mem) (a k v : Int) : Mem := (fun a' k' => if a' = a ∧ k' = k then v else M.1 a' k', M.2)
theorem ws_get (G : GG) {M : Mem} {j : Nat} (h : j < M.2.2) : (wsG G M)[j]? = some (gB G + j, cellE G M j) := by
  simp [wsG, h]
theorem ws_lt (G : GG) {M : Mem} {j : Nat} {q : Nat × va_E} (h : (wsG G M)[j]? = some q) : j < M.2.2 ∧ q = (gB G + j, cellE G M j) := by
  have h1 : j < M.2.2 := by
    have := (List.getElem?_eq_some_iff.mp h).1
    simpa [wsG] using this
  rw [ws_get G h1] at h
  exact ⟨h1, (Option.some.inj h).symm⟩
theorem ws_D (G : GG) (M : Mem) : va_D (gA G) (wsG G M) := by
  refine ⟨fun i j p q h1 h2 h3 => ?_, fun k q h => ?_⟩
  · obtain ⟨-, rfl⟩ := ws_lt G h1
    obtain ⟨-, rfl⟩ := ws_lt G h2
    dsimp only at h3
    omega
  · obtain ⟨-, rfl⟩ := ws_lt G h
    exact Nat.le_add_right _ _
theorem cell_up_ne (G : GG) (M : Mem) {a a' : Int} (k v : Int) (h : a' ≠ a) : cellE G (up M a k v) a' = cellE G M a' := by
  simp [cellE, up, h]
theorem ws_set (G : GG) (M : Mem) {a : Int} (k v : Int) {e : va_E} (h0 : 0 ≤ a) (he : cellE G (up M a k v) a = e) : wsG G (up M a k v) = (wsG G M).set a.toNat (gB G + a.toNat, e) := by
  apply List.ext_getElem?
  intro j
  rw [List.getElem?_set]
  by_cases hj : j < M.2.2
  · rw [ws_get G (M := up M a k v) hj]
    by_cases hja : a.toNat = j
    · have : (j : Int) = a := by omega
      subst hja
      simp [wsG, hj, this, he]
    · rw [if_neg hja, ws_get G hj, cell_up_ne]
      omega
  · have e1 : (wsG G (up M a k v))[j]? = none := by simp [wsG, up]; omega
    have e2 : (wsG G M)[j]? = none := by simp [wsG]; omega
    rw [e1, e2]
    have : ¬ j < (wsG G M).length := by simp [wsG]; omega
    simp [this]
    intro h
    omega
theorem scr_up {G : GG} {M : Mem} {a k v : Int} (h : Scr G M) (ha : (M.2.1 a).1 < 15) : Scr G (up M a k v) := by
  refine ⟨h.1, fun i hi => ?_⟩
  show (if (1000001 : Int) = a ∧ (i : Int) = k then v else M.1 1000001 i) = _
  rw [if_neg]
  · exact h.2 i hi
  · intro q
    rw [← q.1, h.1] at ha
    exact absurd ha (show ¬ 20 < 15 by decide)
