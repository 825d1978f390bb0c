/-! names: the classes and their fields, printed by gen/names.py -/
def lw_good : List Cond := lw_tbl.filter goodWord
theorem mg {w : Cond} (i : Nat) (h : lw_tbl[i]? = some w) (hg : goodWord w = true) : w ∈ lw_good := List.mem_filter.mpr ⟨List.mem_of_getElem? h, hg⟩
def RX0 : String := "TreeTongues$Census"
def TX0 : u_T := fun k => match k with
  | 0 => ("TreeTongues$Census", "signs", "LTreeTongues$Signs;", true)
  | 1 => ("TreeTongues$Census", "row", "LTreeTongues$Row;", true)
  | 2 => ("TreeTongues$Census", "weights", "[J", true)
  | _ => ("TreeTongues$Census", "rest", "J", false)
def tX0 : Nat → FieldType := fun k => match k with
  | 0 => .object "TreeTongues$Signs"
  | 1 => .object "TreeTongues$Row"
  | 2 => .array .long
  | _ => .long
theorem nX0 : ∀ a, a < 4 → ∀ b, b < 4 → a ≠ b → (TX0 a).2.1 ≠ (TX0 b).2.1 := by decide +kernel
theorem pX0 : ∀ k, k < 4 → parseFieldDescriptor (TX0 k).2.2.1 = some (tX0 k) := by decide +kernel
theorem iX0 : ∀ w ∈ u_ws RX0 TX0 4, w ∈ lw_good := by decide +kernel
def RX1 : String := "TreeTongues$Machine"
def TX1 : u_T := fun k => match k with
  | 0 => ("TreeTongues$Machine", "signs", "LTreeTongues$Signs;", true)
  | 1 => ("TreeTongues$Machine", "table", "[I", true)
  | 2 => ("TreeTongues$Machine", "heads", "[I", true)
  | 3 => ("TreeTongues$Machine", "firsts", "[I", true)
  | 4 => ("TreeTongues$Machine", "seconds", "[I", true)
  | 5 => ("TreeTongues$Machine", "sizes", "[I", true)
  | 6 => ("TreeTongues$Machine", "counts", "[J", true)
  | 7 => ("TreeTongues$Machine", "above", "[I", true)
  | 8 => ("TreeTongues$Machine", "classKinds", "[I", true)
  | 9 => ("TreeTongues$Machine", "kindClasses", "[I", true)
  | 10 => ("TreeTongues$Machine", "classCount", "I", false)
  | 11 => ("TreeTongues$Machine", "finals", "I", false)
  | 12 => ("TreeTongues$Machine", "isLarge", "Z", false)
  | _ => ("TreeTongues$Machine", "isCounted", "Z", false)
def tX1 : Nat → FieldType := fun k => match k with
  | 0 => .object "TreeTongues$Signs"
  | 1 => .array .int
  | 2 => .array .int
  | 3 => .array .int
  | 4 => .array .int
  | 5 => .array .int
  | 6 => .array .long
  | 7 => .array .int
  | 8 => .array .int
  | 9 => .array .int
  | 10 => .int
  | 11 => .int
  | 12 => .boolean
  | _ => .boolean
theorem nX1 : ∀ a, a < 14 → ∀ b, b < 14 → a ≠ b → (TX1 a).2.1 ≠ (TX1 b).2.1 := by decide +kernel
theorem pX1 : ∀ k, k < 14 → parseFieldDescriptor (TX1 k).2.2.1 = some (tX1 k) := by decide +kernel
theorem iX1 : ∀ w ∈ u_ws RX1 TX1 14, w ∈ lw_good := by decide +kernel
def RX2 : String := "TreeTongues$Net"
def TX2 : u_T := fun k => match k with
  | 0 => ("TreeTongues$Net", "signs", "LTreeTongues$Signs;", true)
  | 1 => ("TreeTongues$Net", "images", "[I", true)
  | 2 => ("TreeTongues$Net", "states", "I", false)
  | 3 => ("TreeTongues$Net", "oneFinals", "I", false)
  | 4 => ("TreeTongues$Net", "otherFinals", "I", false)
  | _ => ("TreeTongues$Net", "way", "I", false)
def tX2 : Nat → FieldType := fun k => match k with
  | 0 => .object "TreeTongues$Signs"
  | 1 => .array .int
  | 2 => .int
  | 3 => .int
  | 4 => .int
  | _ => .int
theorem nX2 : ∀ a, a < 6 → ∀ b, b < 6 → a ≠ b → (TX2 a).2.1 ≠ (TX2 b).2.1 := by decide +kernel
theorem pX2 : ∀ k, k < 6 → parseFieldDescriptor (TX2 k).2.2.1 = some (tX2 k) := by decide +kernel
theorem iX2 : ∀ w ∈ u_ws RX2 TX2 6, w ∈ lw_good := by decide +kernel
def RX3 : String := "TreeTongues$Reducer"
def TX3 : u_T := fun k => match k with
  | 0 => ("TreeTongues$Reducer", "signs", "LTreeTongues$Signs;", true)
  | 1 => ("TreeTongues$Reducer", "net", "LTreeTongues$Net;", true)
  | 2 => ("TreeTongues$Reducer", "sets", "[I", true)
  | 3 => ("TreeTongues$Reducer", "marks", "[I", true)
  | 4 => ("TreeTongues$Reducer", "kinds", "[I", true)
  | 5 => ("TreeTongues$Reducer", "numbers", "[I", true)
  | 6 => ("TreeTongues$Reducer", "reached", "I", false)
  | 7 => ("TreeTongues$Reducer", "kindSets", "[I", true)
  | 8 => ("TreeTongues$Reducer", "kindMarks", "[I", true)
  | 9 => ("TreeTongues$Reducer", "table", "[I", true)
  | 10 => ("TreeTongues$Reducer", "kindCount", "I", false)
  | 11 => ("TreeTongues$Reducer", "areTooMany", "Z", false)
  | 12 => ("TreeTongues$Reducer", "probes", "[LTreeTongues$Step;", true)
  | 13 => ("TreeTongues$Reducer", "nextProbes", "[I", true)
  | 14 => ("TreeTongues$Reducer", "probeCount", "I", false)
  | 15 => ("TreeTongues$Reducer", "toFirst", "LTreeTongues$Step;", true)
  | _ => ("TreeTongues$Reducer", "toSecond", "LTreeTongues$Step;", true)
def tX3 : Nat → FieldType := fun k => match k with
  | 0 => .object "TreeTongues$Signs"
  | 1 => .object "TreeTongues$Net"
  | 2 => .array .int
  | 3 => .array .int
  | 4 => .array .int
  | 5 => .array .int
  | 6 => .int
  | 7 => .array .int
  | 8 => .array .int
  | 9 => .array .int
  | 10 => .int
  | 11 => .boolean
  | 12 => .array (.object "TreeTongues$Step")
  | 13 => .array .int
  | 14 => .int
  | 15 => .object "TreeTongues$Step"
  | _ => .object "TreeTongues$Step"
theorem nX3 : ∀ a, a < 17 → ∀ b, b < 17 → a ≠ b → (TX3 a).2.1 ≠ (TX3 b).2.1 := by decide +kernel
theorem pX3 : ∀ k, k < 17 → parseFieldDescriptor (TX3 k).2.2.1 = some (tX3 k) := by decide +kernel
theorem iX3 : ∀ w ∈ u_ws RX3 TX3 17, w ∈ lw_good := by decide +kernel
def RX4 : String := "TreeTongues$Row"
def TX4 : u_T := fun k => match k with
  | 0 => ("TreeTongues$Row", "signs", "LTreeTongues$Signs;", true)
  | 1 => ("TreeTongues$Row", "numbers", "[I", true)
  | 2 => ("TreeTongues$Row", "spans", "[I", true)
  | 3 => ("TreeTongues$Row", "kinds", "[I", true)
  | _ => ("TreeTongues$Row", "length", "I", false)
def tX4 : Nat → FieldType := fun k => match k with
  | 0 => .object "TreeTongues$Signs"
  | 1 => .array .int
  | 2 => .array .int
  | 3 => .array .int
  | _ => .int
theorem nX4 : ∀ a, a < 5 → ∀ b, b < 5 → a ≠ b → (TX4 a).2.1 ≠ (TX4 b).2.1 := by decide +kernel
theorem pX4 : ∀ k, k < 5 → parseFieldDescriptor (TX4 k).2.2.1 = some (tX4 k) := by decide +kernel
theorem iX4 : ∀ w ∈ u_ws RX4 TX4 5, w ∈ lw_good := by decide +kernel
def RX5 : String := "TreeTongues$Signs"
def TX5 : u_T := fun k => match k with
  | 0 => ("TreeTongues$Signs", "ranks", "[I", true)
  | 1 => ("TreeTongues$Signs", "known", "I", false)
  | _ => ("TreeTongues$Signs", "havePairs", "Z", false)
def tX5 : Nat → FieldType := fun k => match k with
  | 0 => .array .int
  | 1 => .int
  | _ => .boolean
theorem nX5 : ∀ a, a < 3 → ∀ b, b < 3 → a ≠ b → (TX5 a).2.1 ≠ (TX5 b).2.1 := by decide +kernel
theorem pX5 : ∀ k, k < 3 → parseFieldDescriptor (TX5 k).2.2.1 = some (tX5 k) := by decide +kernel
theorem iX5 : ∀ w ∈ u_ws RX5 TX5 3, w ∈ lw_good := by decide +kernel
def RX6 : String := "TreeTongues$Step"
def TX6 : u_T := fun k => match k with
  | 0 => ("TreeTongues$Step", "low", "[I", true)
  | _ => ("TreeTongues$Step", "high", "[I", true)
def tX6 : Nat → FieldType := fun k => match k with
  | 0 => .array .int
  | _ => .array .int
theorem nX6 : ∀ a, a < 2 → ∀ b, b < 2 → a ≠ b → (TX6 a).2.1 ≠ (TX6 b).2.1 := by decide +kernel
theorem pX6 : ∀ k, k < 2 → parseFieldDescriptor (TX6 k).2.2.1 = some (tX6 k) := by decide +kernel
theorem iX6 : ∀ w ∈ u_ws RX6 TX6 2, w ∈ lw_good := by decide +kernel
def RX7 : String := "TreeTongues$Tongue"
def TX7 : u_T := fun k => match k with
  | 0 => ("TreeTongues$Tongue", "signs", "LTreeTongues$Signs;", true)
  | 1 => ("TreeTongues$Tongue", "machine", "LTreeTongues$Machine;", true)
  | 2 => ("TreeTongues$Tongue", "targets", "[I", true)
  | 3 => ("TreeTongues$Tongue", "states", "I", false)
  | 4 => ("TreeTongues$Tongue", "rules", "I", false)
  | 5 => ("TreeTongues$Tongue", "finals", "I", false)
  | 6 => ("TreeTongues$Tongue", "isTold", "Z", false)
  | _ => ("TreeTongues$Tongue", "isStale", "Z", false)
def tX7 : Nat → FieldType := fun k => match k with
  | 0 => .object "TreeTongues$Signs"
  | 1 => .object "TreeTongues$Machine"
  | 2 => .array .int
  | 3 => .int
  | 4 => .int
  | 5 => .int
  | 6 => .boolean
  | _ => .boolean
theorem nX7 : ∀ a, a < 8 → ∀ b, b < 8 → a ≠ b → (TX7 a).2.1 ≠ (TX7 b).2.1 := by decide +kernel
theorem pX7 : ∀ k, k < 8 → parseFieldDescriptor (TX7 k).2.2.1 = some (tX7 k) := by decide +kernel
theorem iX7 : ∀ w ∈ u_ws RX7 TX7 8, w ∈ lw_good := by decide +kernel
def RX8 : String := "TreeTongues"
def TX8 : u_T := fun k => match k with
  | 0 => ("TreeTongues", "signs", "LTreeTongues$Signs;", true)
  | 1 => ("TreeTongues", "row", "LTreeTongues$Row;", true)
  | 2 => ("TreeTongues", "tongues", "[LTreeTongues$Tongue;", true)
  | 3 => ("TreeTongues", "net", "LTreeTongues$Net;", true)
  | 4 => ("TreeTongues", "reducer", "LTreeTongues$Reducer;", true)
  | 5 => ("TreeTongues", "spare", "LTreeTongues$Machine;", true)
  | 6 => ("TreeTongues", "census", "LTreeTongues$Census;", true)
  | _ => ("TreeTongues", "tongueCount", "I", false)
def tX8 : Nat → FieldType := fun k => match k with
  | 0 => .object "TreeTongues$Signs"
  | 1 => .object "TreeTongues$Row"
  | 2 => .array (.object "TreeTongues$Tongue")
  | 3 => .object "TreeTongues$Net"
  | 4 => .object "TreeTongues$Reducer"
  | 5 => .object "TreeTongues$Machine"
  | 6 => .object "TreeTongues$Census"
  | _ => .int
theorem nX8 : ∀ a, a < 8 → ∀ b, b < 8 → a ≠ b → (TX8 a).2.1 ≠ (TX8 b).2.1 := by decide +kernel
theorem pX8 : ∀ k, k < 8 → parseFieldDescriptor (TX8 k).2.2.1 = some (tX8 k) := by decide +kernel
theorem iX8 : ∀ w ∈ u_ws RX8 TX8 8, w ∈ lw_good := by decide +kernel
def RX9 : String := "TreeTonguesModel"
def TX9 : u_T := fun k => match k with
  | 0 => ("TreeTonguesModel", "signs", "I", false)
  | 1 => ("TreeTonguesModel", "ranks", "[I", true)
  | 2 => ("TreeTonguesModel", "row", "[I", true)
  | 3 => ("TreeTonguesModel", "rowSize", "I", false)
  | 4 => ("TreeTonguesModel", "tongues", "I", false)
  | 5 => ("TreeTonguesModel", "isTold", "[Z", true)
  | 6 => ("TreeTonguesModel", "states", "[I", true)
  | 7 => ("TreeTonguesModel", "finals", "[I", true)
  | 8 => ("TreeTonguesModel", "rules", "[I", true)
  | 9 => ("TreeTonguesModel", "ruleSign", "[I", true)
  | 10 => ("TreeTonguesModel", "ruleFirst", "[I", true)
  | 11 => ("TreeTonguesModel", "ruleSecond", "[I", true)
  | 12 => ("TreeTonguesModel", "ruleTo", "[I", true)
  | 13 => ("TreeTonguesModel", "classes", "[I", true)
  | 14 => ("TreeTonguesModel", "steps", "[I", true)
  | 15 => ("TreeTonguesModel", "isLast", "[Z", true)
  | 16 => ("TreeTonguesModel", "size", "[I", true)
  | 17 => ("TreeTonguesModel", "firstSign", "[I", true)
  | 18 => ("TreeTonguesModel", "firstOne", "[I", true)
  | 19 => ("TreeTonguesModel", "firstTwo", "[I", true)
  | 20 => ("TreeTonguesModel", "mode", "I", false)
  | 21 => ("TreeTonguesModel", "way", "I", false)
  | 22 => ("TreeTonguesModel", "told", "I", false)
  | 23 => ("TreeTonguesModel", "map", "I", false)
  | 24 => ("TreeTonguesModel", "graft", "I", false)
  | 25 => ("TreeTonguesModel", "useful", "I", false)
  | 26 => ("TreeTonguesModel", "keys", "I", false)
  | 27 => ("TreeTonguesModel", "key", "[I", true)
  | 28 => ("TreeTonguesModel", "keyAt", "[I", true)
  | 29 => ("TreeTonguesModel", "part", "[I", true)
  | 30 => ("TreeTonguesModel", "newPart", "[I", true)
  | 31 => ("TreeTonguesModel", "leads", "[I", true)
  | 32 => ("TreeTonguesModel", "comes", "[I", true)
  | 33 => ("TreeTonguesModel", "number", "[I", true)
  | 34 => ("TreeTonguesModel", "bestSize", "I", false)
  | 35 => ("TreeTonguesModel", "bestSign", "I", false)
  | 36 => ("TreeTonguesModel", "bestOne", "I", false)
  | 37 => ("TreeTonguesModel", "bestTwo", "I", false)
  | 38 => ("TreeTonguesModel", "bestPart", "I", false)
  | 39 => ("TreeTonguesModel", "order", "[I", true)
  | 40 => ("TreeTonguesModel", "isLastMade", "[Z", true)
  | 41 => ("TreeTonguesModel", "stepMade", "[I", true)
  | 42 => ("TreeTonguesModel", "pile", "[I", true)
  | 43 => ("TreeTonguesModel", "rowClass", "[I", true)
  | 44 => ("TreeTonguesModel", "rowTree", "[I", true)
  | 45 => ("TreeTonguesModel", "counts", "[J", true)
  | 46 => ("TreeTonguesModel", "weights", "[J", true)
  | 47 => ("TreeTonguesModel", "openSize", "[I", true)
  | 48 => ("TreeTonguesModel", "openSign", "[I", true)
  | 49 => ("TreeTonguesModel", "openSecond", "[I", true)
  | 50 => ("TreeTonguesModel", "openStage", "[I", true)
  | 51 => ("TreeTonguesModel", "openOne", "[I", true)
  | 52 => ("TreeTonguesModel", "left", "J", false)
  | _ => ("TreeTonguesModel", "gotClass", "I", false)
def tX9 : Nat → FieldType := fun k => match k with
  | 0 => .int
  | 1 => .array .int
  | 2 => .array .int
  | 3 => .int
  | 4 => .int
  | 5 => .array .boolean
  | 6 => .array .int
  | 7 => .array .int
  | 8 => .array .int
  | 9 => .array .int
  | 10 => .array .int
  | 11 => .array .int
  | 12 => .array .int
  | 13 => .array .int
  | 14 => .array .int
  | 15 => .array .boolean
  | 16 => .array .int
  | 17 => .array .int
  | 18 => .array .int
  | 19 => .array .int
  | 20 => .int
  | 21 => .int
  | 22 => .int
  | 23 => .int
  | 24 => .int
  | 25 => .int
  | 26 => .int
  | 27 => .array .int
  | 28 => .array .int
  | 29 => .array .int
  | 30 => .array .int
  | 31 => .array .int
  | 32 => .array .int
  | 33 => .array .int
  | 34 => .int
  | 35 => .int
  | 36 => .int
  | 37 => .int
  | 38 => .int
  | 39 => .array .int
  | 40 => .array .boolean
  | 41 => .array .int
  | 42 => .array .int
  | 43 => .array .int
  | 44 => .array .int
  | 45 => .array .long
  | 46 => .array .long
  | 47 => .array .int
  | 48 => .array .int
  | 49 => .array .int
  | 50 => .array .int
  | 51 => .array .int
  | 52 => .long
  | _ => .int
theorem nX9 : ∀ a, a < 54 → ∀ b, b < 54 → a ≠ b → (TX9 a).2.1 ≠ (TX9 b).2.1 := by decide +kernel
theorem pX9 : ∀ k, k < 54 → parseFieldDescriptor (TX9 k).2.2.1 = some (tX9 k) := by decide +kernel
theorem iX9 : ∀ w ∈ u_ws RX9 TX9 54, w ∈ lw_good := by decide +kernel
abbrev vwCl : List vw_C := [(RX0, TX0, 4), (RX1, TX1, 14), (RX2, TX2, 6), (RX3, TX3, 17), (RX4, TX4, 5), (RX5, TX5, 3), (RX6, TX6, 2), (RX7, TX7, 8), (RX8, TX8, 8), (RX9, TX9, 54)]
/-- the kinds of the fields: 0 int, 1 long, 2 a reference, 3 boolean -/
def ftT : List (List Nat) := [[2, 2, 2, 1], [2, 2, 2, 2, 2, 2, 2, 2, 2, 2, 0, 0, 3, 3], [2, 2, 0, 0, 0, 0], [2, 2, 2, 2, 2, 2, 0, 2, 2, 2, 0, 3, 2, 2, 0, 2, 2], [2, 2, 2, 2, 0], [2, 0, 3], [2, 2], [2, 2, 2, 0, 0, 0, 3, 3], [2, 2, 2, 2, 2, 2, 2, 0], [0, 2, 2, 0, 0, 2, 2, 2, 2, 2, 2, 2, 2, 2, 2, 2, 2, 2, 2, 2, 0, 0, 0, 0, 0, 0, 0, 2, 2, 2, 2, 2, 2, 2, 0, 0, 0, 0, 0, 2, 2, 2, 2, 2, 2, 2, 2, 2, 2, 2, 2, 2, 1, 0]]
def nfT : List Nat := [4, 14, 6, 17, 5, 3, 2, 8, 8, 54]
