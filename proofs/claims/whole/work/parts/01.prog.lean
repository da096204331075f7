/-! ===== names, cells, program: printed by wip/whole/gen.py out of the task's own names and decode rows ===== -/
abbrev mv_I : Type := Instr × Nat × List Nat × Int32 × Int64
/-- a method: its locals, the kind of its answer (0 none, 1 int, 2 boolean, 3 long, 4 a reference), its code -/
abbrev mv_M : Type := Nat × Nat × List (Nat × mv_I)
def RX0 : String := "WordMonoids$Formula"
def TX0 : u_T := fun k => match k with
  | 0 => ("WordMonoids$Formula", "ops", "[I", true)
  | _ => ("WordMonoids$Formula", "opCount", "I", false)
def tyX0 : Nat → FieldType := fun k => match k with
  | 0 => .array .int
  | _ => .int
def RX1 : String := "WordMonoids$Known"
def TX1 : u_T := fun k => match k with
  | 0 => ("WordMonoids$Known", "reached", "[B", true)
  | _ => ("WordMonoids$Known", "queue", "[I", true)
def tyX1 : Nat → FieldType := fun k => match k with
  | 0 => .array .byte
  | _ => .array .int
def RX2 : String := "WordMonoids$Laws"
def TX2 : u_T := fun k => match k with
  | 0 => ("WordMonoids$Laws", "monoid", "LWordMonoids$Monoid;", true)
  | 1 => ("WordMonoids$Laws", "aroundCount", "I", false)
  | 2 => ("WordMonoids$Laws", "wrongI", "I", false)
  | _ => ("WordMonoids$Laws", "wrongJ", "I", false)
def tyX2 : Nat → FieldType := fun k => match k with
  | 0 => .object "WordMonoids$Monoid"
  | 1 => .int
  | 2 => .int
  | _ => .int
def RX3 : String := "WordMonoids$Least"
def TX3 : u_T := fun k => match k with
  | 0 => ("WordMonoids$Least", "moves", "[I", true)
  | 1 => ("WordMonoids$Least", "comesFrom", "[I", true)
  | 2 => ("WordMonoids$Least", "newNumber", "[I", true)
  | 3 => ("WordMonoids$Least", "points", "I", false)
  | 4 => ("WordMonoids$Least", "ends", "I", false)
  | _ => ("WordMonoids$Least", "apart", "I", false)
def tyX3 : Nat → FieldType := fun k => match k with
  | 0 => .array .int
  | 1 => .array .int
  | 2 => .array .int
  | 3 => .int
  | 4 => .int
  | _ => .int
def RX4 : String := "WordMonoids$Machine"
def TX4 : u_T := fun k => match k with
  | 0 => ("WordMonoids$Machine", "moves", "[I", true)
  | 1 => ("WordMonoids$Machine", "points", "I", false)
  | 2 => ("WordMonoids$Machine", "start", "I", false)
  | _ => ("WordMonoids$Machine", "ends", "I", false)
def tyX4 : Nat → FieldType := fun k => match k with
  | 0 => .array .int
  | 1 => .int
  | 2 => .int
  | _ => .int
def RX5 : String := "WordMonoids$Monoid"
def TX5 : u_T := fun k => match k with
  | 0 => ("WordMonoids$Monoid", "least", "LWordMonoids$Least;", true)
  | 1 => ("WordMonoids$Monoid", "letterCodes", "[I", true)
  | 2 => ("WordMonoids$Monoid", "codes", "[I", true)
  | 3 => ("WordMonoids$Monoid", "numbers", "[I", true)
  | 4 => ("WordMonoids$Monoid", "parents", "[I", true)
  | 5 => ("WordMonoids$Monoid", "lastLetters", "[I", true)
  | 6 => ("WordMonoids$Monoid", "lengths", "[I", true)
  | 7 => ("WordMonoids$Monoid", "omegas", "[I", true)
  | 8 => ("WordMonoids$Monoid", "gathered", "[I", true)
  | 9 => ("WordMonoids$Monoid", "queue", "[I", true)
  | 10 => ("WordMonoids$Monoid", "idealSizes", "[I", true)
  | 11 => ("WordMonoids$Monoid", "elements", "I", false)
  | 12 => ("WordMonoids$Monoid", "identityIsTie", "Z", false)
  | 13 => ("WordMonoids$Monoid", "gathering", "I", false)
  | _ => ("WordMonoids$Monoid", "learntKey", "J", false)
def tyX5 : Nat → FieldType := fun k => match k with
  | 0 => .object "WordMonoids$Least"
  | 1 => .array .int
  | 2 => .array .int
  | 3 => .array .int
  | 4 => .array .int
  | 5 => .array .int
  | 6 => .array .int
  | 7 => .array .int
  | 8 => .array .int
  | 9 => .array .int
  | 10 => .array .int
  | 11 => .int
  | 12 => .boolean
  | 13 => .int
  | _ => .long
def RX6 : String := "WordMonoids$Pairs"
def TX6 : u_T := fun k => match k with
  | 0 => ("WordMonoids$Pairs", "queue", "[I", true)
  | _ => ("WordMonoids$Pairs", "leastWords", "[J", true)
def tyX6 : Nat → FieldType := fun k => match k with
  | 0 => .array .int
  | _ => .array .long
def RX7 : String := "WordMonoids$Reader"
def TX7 : u_T := fun k => match k with
  | 0 => ("WordMonoids$Reader", "tape", "[I", true)
  | 1 => ("WordMonoids$Reader", "ops", "[I", true)
  | 2 => ("WordMonoids$Reader", "open", "[I", true)
  | 3 => ("WordMonoids$Reader", "causes", "[I", true)
  | 4 => ("WordMonoids$Reader", "size", "I", false)
  | 5 => ("WordMonoids$Reader", "opCount", "I", false)
  | 6 => ("WordMonoids$Reader", "openCount", "I", false)
  | 7 => ("WordMonoids$Reader", "causeCount", "I", false)
  | 8 => ("WordMonoids$Reader", "at", "I", false)
  | _ => ("WordMonoids$Reader", "fault", "I", false)
def tyX7 : Nat → FieldType := fun k => match k with
  | 0 => .array .int
  | 1 => .array .int
  | 2 => .array .int
  | 3 => .array .int
  | 4 => .int
  | 5 => .int
  | 6 => .int
  | 7 => .int
  | 8 => .int
  | _ => .int
def RX8 : String := "WordMonoids$Sheet"
def TX8 : u_T := fun k => match k with
  | 0 => ("WordMonoids$Sheet", "items", "[I", true)
  | 1 => ("WordMonoids$Sheet", "sort", "I", false)
  | _ => ("WordMonoids$Sheet", "size", "I", false)
def tyX8 : Nat → FieldType := fun k => match k with
  | 0 => .array .int
  | 1 => .int
  | _ => .int
def RX9 : String := "WordMonoids$Taker"
def TX9 : u_T := fun k => match k with
  | _ => ("", "", "", false)
def tyX9 : Nat → FieldType := fun k => match k with
  | _ => .int
def RX10 : String := "WordMonoids$Words"
def TX10 : u_T := fun k => match k with
  | 0 => ("WordMonoids$Words", "bits", "I", false)
  | _ => ("WordMonoids$Words", "length", "I", false)
def tyX10 : Nat → FieldType := fun k => match k with
  | 0 => .int
  | _ => .int
def RX11 : String := "WordMonoids"
def TX11 : u_T := fun k => match k with
  | 0 => ("WordMonoids", "machines", "[LWordMonoids$Machine;", true)
  | 1 => ("WordMonoids", "kept", "[LWordMonoids$Machine;", true)
  | 2 => ("WordMonoids", "formulas", "[LWordMonoids$Formula;", true)
  | 3 => ("WordMonoids", "sheets", "[LWordMonoids$Sheet;", true)
  | 4 => ("WordMonoids", "reader", "LWordMonoids$Reader;", true)
  | 5 => ("WordMonoids", "words", "LWordMonoids$Words;", true)
  | 6 => ("WordMonoids", "laws", "LWordMonoids$Laws;", true)
  | 7 => ("WordMonoids", "monoid", "LWordMonoids$Monoid;", true)
  | 8 => ("WordMonoids", "known", "LWordMonoids$Known;", true)
  | 9 => ("WordMonoids", "pairs", "LWordMonoids$Pairs;", true)
  | 10 => ("WordMonoids", "machineCount", "I", false)
  | 11 => ("WordMonoids", "keptCount", "I", false)
  | _ => ("WordMonoids", "formulaCount", "I", false)
def tyX11 : Nat → FieldType := fun k => match k with
  | 0 => .array (.object "WordMonoids$Machine")
  | 1 => .array (.object "WordMonoids$Machine")
  | 2 => .array (.object "WordMonoids$Formula")
  | 3 => .array (.object "WordMonoids$Sheet")
  | 4 => .object "WordMonoids$Reader"
  | 5 => .object "WordMonoids$Words"
  | 6 => .object "WordMonoids$Laws"
  | 7 => .object "WordMonoids$Monoid"
  | 8 => .object "WordMonoids$Known"
  | 9 => .object "WordMonoids$Pairs"
  | 10 => .int
  | 11 => .int
  | _ => .int
def RX12 : String := "WordMonoidsModel"
def TX12 : u_T := fun k => match k with
  | 0 => ("WordMonoidsModel", "now", "[I", true)
  | 1 => ("WordMonoidsModel", "many", "I", false)
  | 2 => ("WordMonoidsModel", "image", "[I", true)
  | 3 => ("WordMonoidsModel", "imageMany", "I", false)
  | 4 => ("WordMonoidsModel", "hasImage", "Z", false)
  | 5 => ("WordMonoidsModel", "letters", "[I", true)
  | 6 => ("WordMonoidsModel", "size", "I", false)
  | 7 => ("WordMonoidsModel", "leastMany", "I", false)
  | 8 => ("WordMonoidsModel", "leastEnds", "I", false)
  | 9 => ("WordMonoidsModel", "leastTo", "[I", true)
  | 10 => ("WordMonoidsModel", "sortOf", "[I", true)
  | 11 => ("WordMonoidsModel", "nextSort", "[I", true)
  | 12 => ("WordMonoidsModel", "nameOf", "[I", true)
  | 13 => ("WordMonoidsModel", "row", "[I", true)
  | 14 => ("WordMonoidsModel", "elements", "I", false)
  | 15 => ("WordMonoidsModel", "codes", "[I", true)
  | 16 => ("WordMonoidsModel", "numberOf", "[I", true)
  | 17 => ("WordMonoidsModel", "cameBy", "[I", true)
  | 18 => ("WordMonoidsModel", "cameFrom", "[I", true)
  | 19 => ("WordMonoidsModel", "table", "[I", true)
  | 20 => ("WordMonoidsModel", "omegas", "[I", true)
  | 21 => ("WordMonoidsModel", "lettersDo", "[I", true)
  | 22 => ("WordMonoidsModel", "isFirstTied", "Z", false)
  | 23 => ("WordMonoidsModel", "ready", "I", false)
  | 24 => ("WordMonoidsModel", "cameAt", "[I", true)
  | 25 => ("WordMonoidsModel", "index", "I", false)
  | 26 => ("WordMonoidsModel", "period", "I", false)
  | 27 => ("WordMonoidsModel", "comesFrom", "[Z", true)
  | 28 => ("WordMonoidsModel", "heap", "[I", true)
  | 29 => ("WordMonoidsModel", "heaped", "I", false)
  | 30 => ("WordMonoidsModel", "reaches", "[Z", true)
  | 31 => ("WordMonoidsModel", "wrongI", "I", false)
  | 32 => ("WordMonoidsModel", "wrongJ", "I", false)
  | 33 => ("WordMonoidsModel", "seen", "[Z", true)
  | 34 => ("WordMonoidsModel", "queue", "[I", true)
  | 35 => ("WordMonoidsModel", "isIn", "[Z", true)
  | 36 => ("WordMonoidsModel", "isOut", "[Z", true)
  | 37 => ("WordMonoidsModel", "isOthers", "[Z", true)
  | 38 => ("WordMonoidsModel", "words", "[J", true)
  | 39 => ("WordMonoidsModel", "formulas", "[I", true)
  | 40 => ("WordMonoidsModel", "formulaSize", "[I", true)
  | 41 => ("WordMonoidsModel", "formulaMany", "I", false)
  | 42 => ("WordMonoidsModel", "tape", "[I", true)
  | 43 => ("WordMonoidsModel", "length", "I", false)
  | 44 => ("WordMonoidsModel", "base", "I", false)
  | 45 => ("WordMonoidsModel", "end", "I", false)
  | 46 => ("WordMonoidsModel", "place", "I", false)
  | 47 => ("WordMonoidsModel", "fault", "I", false)
  | 48 => ("WordMonoidsModel", "opened", "[I", true)
  | 49 => ("WordMonoidsModel", "open", "I", false)
  | 50 => ("WordMonoidsModel", "causes", "[I", true)
  | 51 => ("WordMonoidsModel", "causeMany", "I", false)
  | 52 => ("WordMonoidsModel", "read", "[I", true)
  | 53 => ("WordMonoidsModel", "sorts", "[I", true)
  | 54 => ("WordMonoidsModel", "sizes", "[I", true)
  | _ => ("WordMonoidsModel", "items", "[I", true)
def tyX12 : Nat → FieldType := fun k => match k with
  | 0 => .array .int
  | 1 => .int
  | 2 => .array .int
  | 3 => .int
  | 4 => .boolean
  | 5 => .array .int
  | 6 => .int
  | 7 => .int
  | 8 => .int
  | 9 => .array .int
  | 10 => .array .int
  | 11 => .array .int
  | 12 => .array .int
  | 13 => .array .int
  | 14 => .int
  | 15 => .array .int
  | 16 => .array .int
  | 17 => .array .int
  | 18 => .array .int
  | 19 => .array .int
  | 20 => .array .int
  | 21 => .array .int
  | 22 => .boolean
  | 23 => .int
  | 24 => .array .int
  | 25 => .int
  | 26 => .int
  | 27 => .array .boolean
  | 28 => .array .int
  | 29 => .int
  | 30 => .array .boolean
  | 31 => .int
  | 32 => .int
  | 33 => .array .boolean
  | 34 => .array .int
  | 35 => .array .boolean
  | 36 => .array .boolean
  | 37 => .array .boolean
  | 38 => .array .long
  | 39 => .array .int
  | 40 => .array .int
  | 41 => .int
  | 42 => .array .int
  | 43 => .int
  | 44 => .int
  | 45 => .int
  | 46 => .int
  | 47 => .int
  | 48 => .array .int
  | 49 => .int
  | 50 => .array .int
  | 51 => .int
  | 52 => .array .int
  | 53 => .array .int
  | 54 => .array .int
  | _ => .array .int
theorem nmX0 : ∀ a, a < 2 → ∀ b, b < 2 → a ≠ b → (TX0 a).2.1 ≠ (TX0 b).2.1 := by decide +kernel
theorem tyX0_ok : ∀ k, k < 2 → parseFieldDescriptor (TX0 k).2.2.1 = some (tyX0 k) := by decide +kernel
theorem nmX1 : ∀ a, a < 2 → ∀ b, b < 2 → a ≠ b → (TX1 a).2.1 ≠ (TX1 b).2.1 := by decide +kernel
theorem tyX1_ok : ∀ k, k < 2 → parseFieldDescriptor (TX1 k).2.2.1 = some (tyX1 k) := by decide +kernel
theorem nmX2 : ∀ a, a < 4 → ∀ b, b < 4 → a ≠ b → (TX2 a).2.1 ≠ (TX2 b).2.1 := by decide +kernel
theorem tyX2_ok : ∀ k, k < 4 → parseFieldDescriptor (TX2 k).2.2.1 = some (tyX2 k) := by decide +kernel
theorem nmX3 : ∀ a, a < 6 → ∀ b, b < 6 → a ≠ b → (TX3 a).2.1 ≠ (TX3 b).2.1 := by decide +kernel
theorem tyX3_ok : ∀ k, k < 6 → parseFieldDescriptor (TX3 k).2.2.1 = some (tyX3 k) := by decide +kernel
theorem nmX4 : ∀ a, a < 4 → ∀ b, b < 4 → a ≠ b → (TX4 a).2.1 ≠ (TX4 b).2.1 := by decide +kernel
theorem tyX4_ok : ∀ k, k < 4 → parseFieldDescriptor (TX4 k).2.2.1 = some (tyX4 k) := by decide +kernel
theorem nmX5 : ∀ a, a < 15 → ∀ b, b < 15 → a ≠ b → (TX5 a).2.1 ≠ (TX5 b).2.1 := by decide +kernel
theorem tyX5_ok : ∀ k, k < 15 → parseFieldDescriptor (TX5 k).2.2.1 = some (tyX5 k) := by decide +kernel
theorem nmX6 : ∀ a, a < 2 → ∀ b, b < 2 → a ≠ b → (TX6 a).2.1 ≠ (TX6 b).2.1 := by decide +kernel
theorem tyX6_ok : ∀ k, k < 2 → parseFieldDescriptor (TX6 k).2.2.1 = some (tyX6 k) := by decide +kernel
theorem nmX7 : ∀ a, a < 10 → ∀ b, b < 10 → a ≠ b → (TX7 a).2.1 ≠ (TX7 b).2.1 := by decide +kernel
theorem tyX7_ok : ∀ k, k < 10 → parseFieldDescriptor (TX7 k).2.2.1 = some (tyX7 k) := by decide +kernel
theorem nmX8 : ∀ a, a < 3 → ∀ b, b < 3 → a ≠ b → (TX8 a).2.1 ≠ (TX8 b).2.1 := by decide +kernel
theorem tyX8_ok : ∀ k, k < 3 → parseFieldDescriptor (TX8 k).2.2.1 = some (tyX8 k) := by decide +kernel
theorem nmX9 : ∀ a, a < 0 → ∀ b, b < 0 → a ≠ b → (TX9 a).2.1 ≠ (TX9 b).2.1 := by decide +kernel
theorem tyX9_ok : ∀ k, k < 0 → parseFieldDescriptor (TX9 k).2.2.1 = some (tyX9 k) := by decide +kernel
theorem nmX10 : ∀ a, a < 2 → ∀ b, b < 2 → a ≠ b → (TX10 a).2.1 ≠ (TX10 b).2.1 := by decide +kernel
theorem tyX10_ok : ∀ k, k < 2 → parseFieldDescriptor (TX10 k).2.2.1 = some (tyX10 k) := by decide +kernel
theorem nmX11 : ∀ a, a < 13 → ∀ b, b < 13 → a ≠ b → (TX11 a).2.1 ≠ (TX11 b).2.1 := by decide +kernel
theorem tyX11_ok : ∀ k, k < 13 → parseFieldDescriptor (TX11 k).2.2.1 = some (tyX11 k) := by decide +kernel
theorem nmX12 : ∀ a, a < 56 → ∀ b, b < 56 → a ≠ b → (TX12 a).2.1 ≠ (TX12 b).2.1 := by decide +kernel
theorem tyX12_ok : ∀ k, k < 56 → parseFieldDescriptor (TX12 k).2.2.1 = some (tyX12 k) := by decide +kernel
/-- the classes whose objects the world holds -/
def mv_cl : List vw_C := [(RX0, TX0, 2), (RX1, TX1, 2), (RX2, TX2, 4), (RX3, TX3, 6), (RX4, TX4, 4), (RX5, TX5, 15), (RX6, TX6, 2), (RX7, TX7, 10), (RX8, TX8, 3), (RX0, TX0, 2), (RX10, TX10, 2), (RX11, TX11, 13), (RX12, TX12, 56)]
/-- the cells: of which class, or an array of which kind (20 int, 21 byte, 22 boolean, 23 long, 24 Machine, 25 Formula, 26 Sheet) -/
def mv_shL : List Nat := [11, 24, 24, 25, 26, 7, 20, 20, 20, 20, 10, 2, 5, 3, 20, 20, 20, 20, 20, 20, 20, 20, 20, 20, 20, 20, 20, 1, 21, 20, 6, 20, 23, 4, 20, 4, 20, 4, 20, 4, 20, 4, 20, 4, 20, 0, 20, 0, 20, 0, 20, 0, 20, 8, 20, 8, 20, 8, 20, 8, 20, 12, 20, 20, 20, 20, 20, 20, 20, 20, 20, 20, 20, 20, 20, 20, 20, 20, 22, 20, 22, 22, 20, 22, 22, 22, 23, 20, 20, 20, 20, 20, 20, 20, 20, 20]
def mv_sh (c : Nat) : Nat := mv_shL.getD c 19
/-- of an array its length -/
def mv_lnL : List Nat := [0, 3, 3, 4, 4, 0, 60, 60, 6, 8, 0, 0, 0, 0, 12, 4, 4, 3, 256, 256, 256, 256, 256, 256, 256, 256, 256, 0, 4609, 6460, 0, 16, 16, 0, 12, 0, 12, 0, 12, 0, 12, 0, 12, 0, 12, 0, 60, 0, 60, 0, 60, 0, 60, 0, 40, 0, 40, 0, 40, 0, 40, 0, 45, 45, 9, 12, 4, 4, 4, 4, 256, 256, 256, 256, 65536, 256, 3, 256, 256, 256, 65536, 32768, 32768, 8192, 8192, 8192, 16, 240, 4, 60, 6, 8, 60, 4, 4, 160]
def mv_ln (c : Nat) : Nat := mv_lnL.getD c 0
/-- where the references lead -/
def mv_rfL : List (List Nat) := [[1, 2, 3, 4, 5, 10, 11, 12, 27, 30], [33, 37, 41], [35, 39, 43], [45, 47, 49, 51], [53, 55, 57, 59], [6, 7, 8, 9], [], [], [], [], [], [12], [13, 17, 18, 19, 20, 21, 22, 23, 24, 25, 26], [14, 15, 16], [], [], [], [], [], [], [], [], [], [], [], [], [], [28, 29], [], [], [31, 32], [], [], [34], [], [36], [], [38], [], [40], [], [42], [], [44], [], [46], [], [48], [], [50], [], [52], [], [54], [], [56], [], [58], [], [60], [], [62, 0, 63, 0, 0, 64, 0, 0, 0, 65, 66, 67, 68, 69, 0, 70, 71, 72, 73, 74, 75, 76, 0, 0, 77, 0, 0, 78, 79, 0, 80, 0, 0, 81, 82, 83, 84, 85, 86, 87, 88, 0, 89, 0, 0, 0, 0, 0, 90, 0, 91, 0, 92, 93, 94, 95], [], [], [], [], [], [], [], [], [], [], [], [], [], [], [], [], [], [], [], [], [], [], [], [], [], [], [], [], [], [], [], [], [], []]
def mv_rf (c k : Nat) : Nat := (mv_rfL.getD c []).getD k 0
/-- the kinds of the fields, by class and place: 0 int, 1 long, 2 a reference, 3 boolean -/
def mv_fkL : List (List Nat) := [[2, 0], [2, 2], [2, 0, 0, 0], [2, 2, 2, 0, 0, 0], [2, 0, 0, 0], [2, 2, 2, 2, 2, 2, 2, 2, 2, 2, 2, 0, 3, 0, 1], [2, 2], [2, 2, 2, 2, 0, 0, 0, 0, 0, 0], [2, 0, 0], [], [0, 0], [2, 2, 2, 2, 2, 2, 2, 2, 2, 2, 0, 0, 0], [2, 0, 2, 0, 3, 2, 0, 0, 0, 2, 2, 2, 2, 2, 0, 2, 2, 2, 2, 2, 2, 2, 3, 0, 2, 0, 0, 2, 2, 0, 2, 0, 0, 2, 2, 2, 2, 2, 2, 2, 2, 0, 2, 0, 0, 0, 0, 0, 2, 0, 2, 0, 2, 2, 2, 2]]
def mv_fk (ci k : Nat) : Nat := (mv_fkL.getD ci []).getD k 9
def mv_ty (k : Nat) : FieldType := match k with
  | 20 => .int
  | 21 => .byte
  | 22 => .boolean
  | _ => .long
/-- 0: java/util/Arrays.fill([II)V -/
def m_Arrays_fillI : mv_M := (4, 0, [
  (0, .iconst 0, 1, [], 0, 0), (1, .istore_n 2, 1, [], 0, 0), (2, .aload_n 0, 1, [], 0, 0), (3, .arraylength, 1, [], 0, 0),
  (4, .istore_n 3, 1, [], 0, 0), (5, .iload_n 2, 1, [], 0, 0), (6, .iload_n 3, 1, [], 0, 0), (7, .if_icmp .ge 13, 3, [20], 0, 0),
  (10, .aload_n 0, 1, [], 0, 0), (11, .iload_n 2, 1, [], 0, 0), (12, .iload_n 1, 1, [], 0, 0), (13, .iastore, 1, [], 0, 0),
  (14, .iinc 2 1, 3, [], 1, 0), (17, .goto (-12), 3, [5], 0, 0), (20, .return_, 1, [], 0, 0)])
/-- 1: java/util/Arrays.fill([BB)V -/
def m_Arrays_fillB : mv_M := (4, 0, [
  (0, .iconst 0, 1, [], 0, 0), (1, .istore_n 2, 1, [], 0, 0), (2, .aload_n 0, 1, [], 0, 0), (3, .arraylength, 1, [], 0, 0),
  (4, .istore_n 3, 1, [], 0, 0), (5, .iload_n 2, 1, [], 0, 0), (6, .iload_n 3, 1, [], 0, 0), (7, .if_icmp .ge 13, 3, [20], 0, 0),
  (10, .aload_n 0, 1, [], 0, 0), (11, .iload_n 2, 1, [], 0, 0), (12, .iload_n 1, 1, [], 0, 0), (13, .bastore, 1, [21], 0, 0),
  (14, .iinc 2 1, 3, [], 1, 0), (17, .goto (-12), 3, [5], 0, 0), (20, .return_, 1, [], 0, 0)])
/-- 2: WordMonoids$Words.read(I)Z -/
def m_Words_read : mv_M := (6, 2, [
  (0, .iload_n 1, 1, [], 0, 0), (1, .ifCond .ge 5, 3, [6], 0, 0), (4, .iconst 0, 1, [], 0, 0), (5, .ireturn, 1, [], 0, 0),
  (6, .iconst 0, 1, [], 0, 0), (7, .istore_n 2, 1, [], 0, 0), (8, .iconst 0, 1, [], 0, 0), (9, .istore_n 3, 1, [], 0, 0),
  (10, .iload_n 1, 1, [], 0, 0), (11, .istore 4, 2, [], 0, 0), (13, .iload 4, 2, [], 0, 0), (15, .ifCond .le 54, 3, [69], 0, 0),
  (18, .iload 4, 2, [], 0, 0), (20, .bipush 10, 2, [], 10, 0), (22, .irem, 1, [], 0, 0), (23, .istore 5, 2, [], 0, 0),
  (25, .iload 5, 2, [], 0, 0), (27, .iconst 1, 1, [], 1, 0), (28, .if_icmp .lt 15, 3, [43], 0, 0), (31, .iload 5, 2, [], 0, 0),
  (33, .iconst 3, 1, [], 3, 0), (34, .if_icmp .gt 9, 3, [43], 0, 0), (37, .iload_n 3, 1, [], 0, 0), (38, .bipush 9, 2, [], 9, 0),
  (40, .if_icmp .lt 5, 3, [45], 0, 0), (43, .iconst 0, 1, [], 0, 0), (44, .ireturn, 1, [], 0, 0), (45, .iload_n 2, 1, [], 0, 0),
  (46, .iload 5, 2, [], 0, 0), (48, .iconst 1, 1, [], 1, 0), (49, .isub, 1, [], 0, 0), (50, .iconst 2, 1, [], 2, 0),
  (51, .iload_n 3, 1, [], 0, 0), (52, .imul, 1, [], 0, 0), (53, .ishl, 1, [], 0, 0), (54, .ior, 1, [], 0, 0),
  (55, .istore_n 2, 1, [], 0, 0), (56, .iinc 3 1, 3, [], 1, 0), (59, .iload 4, 2, [], 0, 0), (61, .bipush 10, 2, [], 10, 0),
  (63, .idiv, 1, [], 0, 0), (64, .istore 4, 2, [], 0, 0), (66, .goto (-53), 3, [13], 0, 0), (69, .aload_n 0, 1, [], 0, 0),
  (70, .iload_n 2, 1, [], 0, 0), (71, .putfield 9, 3, [10, 0, 0], 0, 166), (74, .aload_n 0, 1, [], 0, 0), (75, .iload_n 3, 1, [], 0, 0),
  (76, .putfield 15, 3, [10, 1, 0], 0, 168), (79, .iconst 1, 1, [], 1, 0), (80, .ireturn, 1, [], 0, 0)])
/-- 3: WordMonoids$Words.letterAt(I)I -/
def m_Words_letterAt : mv_M := (2, 1, [
  (0, .aload_n 0, 1, [], 0, 0), (1, .getfield 9, 3, [10, 0, 0], 0, 166), (4, .iconst 2, 1, [], 2, 0), (5, .aload_n 0, 1, [], 0, 0),
  (6, .getfield 15, 3, [10, 1, 0], 0, 168), (9, .iconst 1, 1, [], 1, 0), (10, .isub, 1, [], 0, 0), (11, .iload_n 1, 1, [], 0, 0),
  (12, .isub, 1, [], 0, 0), (13, .imul, 1, [], 0, 0), (14, .ishr, 1, [], 0, 0), (15, .iconst 3, 1, [], 3, 0),
  (16, .iand, 1, [], 0, 0), (17, .ireturn, 1, [], 0, 0)])
/-- 4: WordMonoids$Words.first(I)V -/
def m_Words_first : mv_M := (2, 0, [
  (0, .aload_n 0, 1, [], 0, 0), (1, .iconst 0, 1, [], 0, 0), (2, .putfield 9, 3, [10, 0, 0], 0, 166), (5, .aload_n 0, 1, [], 0, 0),
  (6, .iload_n 1, 1, [], 0, 0), (7, .putfield 15, 3, [10, 1, 0], 0, 168), (10, .return_, 1, [], 0, 0)])
/-- 5: WordMonoids$Words.advance()V -/
def m_Words_advance : mv_M := (2, 0, [
  (0, .aload_n 0, 1, [], 0, 0), (1, .dup, 1, [], 0, 0), (2, .getfield 9, 3, [10, 0, 0], 0, 166), (5, .iconst 1, 1, [], 1, 0),
  (6, .iadd, 1, [], 0, 0), (7, .putfield 9, 3, [10, 0, 0], 0, 166), (10, .iconst 0, 1, [], 0, 0), (11, .istore_n 1, 1, [], 0, 0),
  (12, .iload_n 1, 1, [], 0, 0), (13, .aload_n 0, 1, [], 0, 0), (14, .getfield 15, 3, [10, 1, 0], 0, 168), (17, .if_icmp .ge 37, 3, [54], 0, 0),
  (20, .aload_n 0, 1, [], 0, 0), (21, .getfield 9, 3, [10, 0, 0], 0, 166), (24, .iconst 2, 1, [], 2, 0), (25, .iload_n 1, 1, [], 0, 0),
  (26, .imul, 1, [], 0, 0), (27, .ishr, 1, [], 0, 0), (28, .iconst 3, 1, [], 3, 0), (29, .iand, 1, [], 0, 0),
  (30, .iconst 3, 1, [], 3, 0), (31, .if_icmp .ne 23, 3, [54], 0, 0), (34, .aload_n 0, 1, [], 0, 0), (35, .dup, 1, [], 0, 0),
  (36, .getfield 9, 3, [10, 0, 0], 0, 166), (39, .iconst 1, 1, [], 1, 0), (40, .iconst 2, 1, [], 2, 0), (41, .iload_n 1, 1, [], 0, 0),
  (42, .imul, 1, [], 0, 0), (43, .ishl, 1, [], 0, 0), (44, .iadd, 1, [], 0, 0), (45, .putfield 9, 3, [10, 0, 0], 0, 166),
  (48, .iinc 1 1, 3, [], 1, 0), (51, .goto (-39), 3, [12], 0, 0), (54, .return_, 1, [], 0, 0)])
/-- 6: WordMonoids$Words.told()I -/
def m_Words_told : mv_M := (3, 1, [
  (0, .iconst 0, 1, [], 0, 0), (1, .istore_n 1, 1, [], 0, 0), (2, .iconst 0, 1, [], 0, 0), (3, .istore_n 2, 1, [], 0, 0),
  (4, .iload_n 2, 1, [], 0, 0), (5, .aload_n 0, 1, [], 0, 0), (6, .getfield 15, 3, [10, 1, 0], 0, 168), (9, .if_icmp .ge 22, 3, [31], 0, 0),
  (12, .iload_n 1, 1, [], 0, 0), (13, .bipush 10, 2, [], 10, 0), (15, .imul, 1, [], 0, 0), (16, .aload_n 0, 1, [], 0, 0),
  (17, .iload_n 2, 1, [], 0, 0), (18, .invokevirtual 18, 3, [3, 2, 1, 1, 10], 0, 917), (21, .iadd, 1, [], 0, 0), (22, .iconst 1, 1, [], 1, 0),
  (23, .iadd, 1, [], 0, 0), (24, .istore_n 1, 1, [], 0, 0), (25, .iinc 2 1, 3, [], 1, 0), (28, .goto (-24), 3, [4], 0, 0),
  (31, .iload_n 1, 1, [], 0, 0), (32, .ireturn, 1, [], 0, 0)])
/-- 7: WordMonoids$Words.howMany(I)I -/
def m_Words_howMany : mv_M := (3, 1, [
  (0, .iconst 1, 1, [], 1, 0), (1, .istore_n 1, 1, [], 0, 0), (2, .iconst 0, 1, [], 0, 0), (3, .istore_n 2, 1, [], 0, 0),
  (4, .iload_n 2, 1, [], 0, 0), (5, .iload_n 0, 1, [], 0, 0), (6, .if_icmp .ge 19, 3, [25], 0, 0), (9, .iload_n 2, 1, [], 0, 0),
  (10, .bipush 9, 2, [], 9, 0), (12, .if_icmp .ge 13, 3, [25], 0, 0), (15, .iload_n 1, 1, [], 0, 0), (16, .iconst 3, 1, [], 3, 0),
  (17, .imul, 1, [], 0, 0), (18, .istore_n 1, 1, [], 0, 0), (19, .iinc 2 1, 3, [], 1, 0), (22, .goto (-18), 3, [4], 0, 0),
  (25, .iload_n 1, 1, [], 0, 0), (26, .ireturn, 1, [], 0, 0)])
/-- 8: WordMonoids$Machine.renew(I)V -/
def m_Machine_renew : mv_M := (3, 0, [
  (0, .aload_n 0, 1, [], 0, 0), (1, .iload_n 1, 1, [], 0, 0), (2, .putfield 15, 3, [4, 1, 0], 0, 321), (5, .aload_n 0, 1, [], 0, 0),
  (6, .iconst 0, 1, [], 0, 0), (7, .putfield 19, 3, [4, 2, 0], 0, 324), (10, .aload_n 0, 1, [], 0, 0), (11, .iconst 0, 1, [], 0, 0),
  (12, .putfield 22, 3, [4, 3, 0], 0, 329), (15, .iconst 0, 1, [], 0, 0), (16, .istore_n 2, 1, [], 0, 0), (17, .iload_n 2, 1, [], 0, 0),
  (18, .aload_n 0, 1, [], 0, 0), (19, .getfield 9, 3, [4, 0, 2], 0, 320), (22, .arraylength, 1, [], 0, 0), (23, .if_icmp .ge 18, 3, [41], 0, 0),
  (26, .aload_n 0, 1, [], 0, 0), (27, .getfield 9, 3, [4, 0, 2], 0, 320), (30, .iload_n 2, 1, [], 0, 0), (31, .iload_n 2, 1, [], 0, 0),
  (32, .iconst 3, 1, [], 3, 0), (33, .idiv, 1, [], 0, 0), (34, .iastore, 1, [], 0, 0), (35, .iinc 2 1, 3, [], 1, 0),
  (38, .goto (-21), 3, [17], 0, 0), (41, .return_, 1, [], 0, 0)])
/-- 9: WordMonoids$Machine.become(LWordMonoids$Machine;)V -/
def m_Machine_become : mv_M := (2, 0, [
  (0, .aload_n 0, 1, [], 0, 0), (1, .aload_n 1, 1, [], 0, 0), (2, .getfield 15, 3, [4, 1, 0], 0, 321), (5, .putfield 15, 3, [4, 1, 0], 0, 321),
  (8, .aload_n 0, 1, [], 0, 0), (9, .aload_n 1, 1, [], 0, 0), (10, .getfield 19, 3, [4, 2, 0], 0, 324), (13, .putfield 19, 3, [4, 2, 0], 0, 324),
  (16, .aload_n 0, 1, [], 0, 0), (17, .aload_n 1, 1, [], 0, 0), (18, .getfield 22, 3, [4, 3, 0], 0, 329), (21, .putfield 22, 3, [4, 3, 0], 0, 329),
  (24, .aload_n 1, 1, [], 0, 0), (25, .getfield 9, 3, [4, 0, 2], 0, 320), (28, .iconst 0, 1, [], 0, 0), (29, .aload_n 0, 1, [], 0, 0),
  (30, .getfield 9, 3, [4, 0, 2], 0, 320), (33, .iconst 0, 1, [], 0, 0), (34, .aload_n 0, 1, [], 0, 0), (35, .getfield 9, 3, [4, 0, 2], 0, 320),
  (38, .arraylength, 1, [], 0, 0), (39, .invokestatic 25, 3, [0, 0, 0, 3, 20], 0, 990), (42, .return_, 1, [], 0, 0)])
/-- 10: WordMonoids$Machine.hasPoint(I)Z -/
def m_Machine_hasPoint : mv_M := (2, 2, [
  (0, .iload_n 1, 1, [], 0, 0), (1, .ifCond .lt 15, 3, [16], 0, 0), (4, .iload_n 1, 1, [], 0, 0), (5, .aload_n 0, 1, [], 0, 0),
  (6, .getfield 15, 3, [4, 1, 0], 0, 321), (9, .if_icmp .ge 7, 3, [16], 0, 0), (12, .iconst 1, 1, [], 1, 0), (13, .goto 4, 3, [17], 0, 0),
  (16, .iconst 0, 1, [], 0, 0), (17, .ireturn, 1, [], 0, 0)])
/-- 11: WordMonoids$Machine.everyPoint()I -/
def m_Machine_everyPoint : mv_M := (1, 1, [
  (0, .iconst 1, 1, [], 1, 0), (1, .aload_n 0, 1, [], 0, 0), (2, .getfield 15, 3, [4, 1, 0], 0, 321), (5, .ishl, 1, [], 0, 0),
  (6, .iconst 1, 1, [], 1, 0), (7, .isub, 1, [], 0, 0), (8, .ireturn, 1, [], 0, 0)])
/-- 12: WordMonoids$Machine.isEnd(I)Z -/
def m_Machine_isEnd : mv_M := (2, 2, [
  (0, .aload_n 0, 1, [], 0, 0), (1, .getfield 22, 3, [4, 3, 0], 0, 329), (4, .iload_n 1, 1, [], 0, 0), (5, .ishr, 1, [], 0, 0),
  (6, .iconst 1, 1, [], 1, 0), (7, .iand, 1, [], 0, 0), (8, .iconst 1, 1, [], 1, 0), (9, .if_icmp .ne 7, 3, [16], 0, 0),
  (12, .iconst 1, 1, [], 1, 0), (13, .goto 4, 3, [17], 0, 0), (16, .iconst 0, 1, [], 0, 0), (17, .ireturn, 1, [], 0, 0)])
/-- 13: WordMonoids$Machine.next(II)I -/
def m_Machine_next : mv_M := (4, 1, [
  (0, .iconst 3, 1, [], 3, 0), (1, .iload_n 1, 1, [], 0, 0), (2, .imul, 1, [], 0, 0), (3, .iload_n 2, 1, [], 0, 0),
  (4, .iadd, 1, [], 0, 0), (5, .istore_n 3, 1, [], 0, 0), (6, .iload_n 3, 1, [], 0, 0), (7, .ifCond .lt 21, 3, [28], 0, 0),
  (10, .iload_n 3, 1, [], 0, 0), (11, .aload_n 0, 1, [], 0, 0), (12, .getfield 9, 3, [4, 0, 2], 0, 320), (15, .arraylength, 1, [], 0, 0),
  (16, .if_icmp .ge 12, 3, [28], 0, 0), (19, .aload_n 0, 1, [], 0, 0), (20, .getfield 9, 3, [4, 0, 2], 0, 320), (23, .iload_n 3, 1, [], 0, 0),
  (24, .iaload, 1, [], 0, 0), (25, .goto 4, 3, [29], 0, 0), (28, .iconst 0, 1, [], 0, 0), (29, .ireturn, 1, [], 0, 0)])
/-- 14: WordMonoids$Machine.lead(III)V -/
def m_Machine_lead : mv_M := (5, 0, [
  (0, .iconst 3, 1, [], 3, 0), (1, .iload_n 1, 1, [], 0, 0), (2, .imul, 1, [], 0, 0), (3, .iload_n 2, 1, [], 0, 0),
  (4, .iadd, 1, [], 0, 0), (5, .istore 4, 2, [], 0, 0), (7, .iload 4, 2, [], 0, 0), (9, .ifCond .lt 21, 3, [30], 0, 0),
  (12, .iload 4, 2, [], 0, 0), (14, .aload_n 0, 1, [], 0, 0), (15, .getfield 9, 3, [4, 0, 2], 0, 320), (18, .arraylength, 1, [], 0, 0),
  (19, .if_icmp .ge 11, 3, [30], 0, 0), (22, .aload_n 0, 1, [], 0, 0), (23, .getfield 9, 3, [4, 0, 2], 0, 320), (26, .iload 4, 2, [], 0, 0),
  (28, .iload_n 3, 1, [], 0, 0), (29, .iastore, 1, [], 0, 0), (30, .return_, 1, [], 0, 0)])
/-- 15: WordMonoids$Machine.pointsThatLeadToEnds(I)I -/
def m_Machine_pointsThatLeadToEnds : mv_M := (4, 1, [
  (0, .iconst 0, 1, [], 0, 0), (1, .istore_n 2, 1, [], 0, 0), (2, .iconst 0, 1, [], 0, 0), (3, .istore_n 3, 1, [], 0, 0),
  (4, .iload_n 3, 1, [], 0, 0), (5, .aload_n 0, 1, [], 0, 0), (6, .getfield 15, 3, [4, 1, 0], 0, 321), (9, .if_icmp .ge 28, 3, [37], 0, 0),
  (12, .aload_n 0, 1, [], 0, 0), (13, .aload_n 0, 1, [], 0, 0), (14, .iload_n 3, 1, [], 0, 0), (15, .iload_n 1, 1, [], 0, 0),
  (16, .invokevirtual 31, 3, [13, 3, 1, 1, 4], 0, 553), (19, .invokevirtual 35, 3, [12, 2, 2, 1, 4], 0, 554), (22, .ifCond .eq 9, 3, [31], 0, 0), (25, .iload_n 2, 1, [], 0, 0),
  (26, .iconst 1, 1, [], 1, 0), (27, .iload_n 3, 1, [], 0, 0), (28, .ishl, 1, [], 0, 0), (29, .ior, 1, [], 0, 0),
  (30, .istore_n 2, 1, [], 0, 0), (31, .iinc 3 1, 3, [], 1, 0), (34, .goto (-30), 3, [4], 0, 0), (37, .iload_n 2, 1, [], 0, 0),
  (38, .ireturn, 1, [], 0, 0)])
/-- 16: WordMonoids$Machine.accepts(LWordMonoids$Words;)Z -/
def m_Machine_accepts : mv_M := (4, 2, [
  (0, .aload_n 0, 1, [], 0, 0), (1, .getfield 19, 3, [4, 2, 0], 0, 324), (4, .istore_n 2, 1, [], 0, 0), (5, .iconst 0, 1, [], 0, 0),
  (6, .istore_n 3, 1, [], 0, 0), (7, .iload_n 3, 1, [], 0, 0), (8, .aload_n 1, 1, [], 0, 0), (9, .getfield 39, 3, [10, 1, 0], 0, 170),
  (12, .if_icmp .ge 20, 3, [32], 0, 0), (15, .aload_n 0, 1, [], 0, 0), (16, .iload_n 2, 1, [], 0, 0), (17, .aload_n 1, 1, [], 0, 0),
  (18, .iload_n 3, 1, [], 0, 0), (19, .invokevirtual 44, 3, [3, 2, 1, 1, 10], 0, 549), (22, .invokevirtual 31, 3, [13, 3, 1, 1, 4], 0, 553), (25, .istore_n 2, 1, [], 0, 0),
  (26, .iinc 3 1, 3, [], 1, 0), (29, .goto (-22), 3, [7], 0, 0), (32, .aload_n 0, 1, [], 0, 0), (33, .iload_n 2, 1, [], 0, 0),
  (34, .invokevirtual 35, 3, [12, 2, 2, 1, 4], 0, 554), (37, .ireturn, 1, [], 0, 0)])
/-- 17: WordMonoids$Machine.key()J -/
def m_Machine_key : mv_M := (4, 3, [
  (0, .aload_n 0, 1, [], 0, 0), (1, .getfield 15, 3, [4, 1, 0], 0, 321), (4, .i2l, 1, [], 0, 0), (5, .lstore_n 1, 1, [], 0, 0),
  (6, .lload_n 1, 1, [], 0, 0), (7, .iconst 2, 1, [], 2, 0), (8, .lshl, 1, [], 0, 0), (9, .aload_n 0, 1, [], 0, 0),
  (10, .getfield 19, 3, [4, 2, 0], 0, 324), (13, .i2l, 1, [], 0, 0), (14, .lor, 1, [], 0, 0), (15, .lstore_n 1, 1, [], 0, 0),
  (16, .lload_n 1, 1, [], 0, 0), (17, .iconst 4, 1, [], 4, 0), (18, .lshl, 1, [], 0, 0), (19, .aload_n 0, 1, [], 0, 0),
  (20, .getfield 22, 3, [4, 3, 0], 0, 329), (23, .i2l, 1, [], 0, 0), (24, .lor, 1, [], 0, 0), (25, .lstore_n 1, 1, [], 0, 0),
  (26, .iconst 0, 1, [], 0, 0), (27, .istore_n 3, 1, [], 0, 0), (28, .iload_n 3, 1, [], 0, 0), (29, .aload_n 0, 1, [], 0, 0),
  (30, .getfield 9, 3, [4, 0, 2], 0, 320), (33, .arraylength, 1, [], 0, 0), (34, .if_icmp .ge 21, 3, [55], 0, 0), (37, .lload_n 1, 1, [], 0, 0),
  (38, .iconst 2, 1, [], 2, 0), (39, .lshl, 1, [], 0, 0), (40, .aload_n 0, 1, [], 0, 0), (41, .getfield 9, 3, [4, 0, 2], 0, 320),
  (44, .iload_n 3, 1, [], 0, 0), (45, .iaload, 1, [], 0, 0), (46, .i2l, 1, [], 0, 0), (47, .lor, 1, [], 0, 0),
  (48, .lstore_n 1, 1, [], 0, 0), (49, .iinc 3 1, 3, [], 1, 0), (52, .goto (-24), 3, [28], 0, 0), (55, .lload_n 1, 1, [], 0, 0),
  (56, .lreturn, 1, [], 0, 0)])
/-- 18: WordMonoids$Sheet.renew(II)V -/
def m_Sheet_renew : mv_M := (3, 0, [
  (0, .aload_n 0, 1, [], 0, 0), (1, .iload_n 1, 1, [], 0, 0), (2, .putfield 15, 3, [8, 1, 0], 0, 360), (5, .aload_n 0, 1, [], 0, 0),
  (6, .iconst 0, 1, [], 0, 0), (7, .iload_n 2, 1, [], 0, 0), (8, .bipush 40, 2, [], 40, 0), (10, .invokestatic 22, 3, [0, 0, 0, 5], 0, 964),
  (13, .invokestatic 28, 3, [0, 0, 0, 4], 0, 965), (16, .putfield 19, 3, [8, 2, 0], 0, 362), (19, .aload_n 0, 1, [], 0, 0), (20, .getfield 9, 3, [8, 0, 2], 0, 358),
  (23, .iconst 0, 1, [], 0, 0), (24, .invokestatic 31, 3, [0, 2, 0, 0], 0, 966), (27, .return_, 1, [], 0, 0)])
/-- 19: WordMonoids$Sheet.isMissing()Z -/
def m_Sheet_isMissing : mv_M := (1, 2, [
  (0, .aload_n 0, 1, [], 0, 0), (1, .getfield 15, 3, [8, 1, 0], 0, 360), (4, .iconst (-1), 1, [], (-1), 0), (5, .if_icmp .ne 7, 3, [12], 0, 0),
  (8, .iconst 1, 1, [], 1, 0), (9, .goto 4, 3, [13], 0, 0), (12, .iconst 0, 1, [], 0, 0), (13, .ireturn, 1, [], 0, 0)])
/-- 20: WordMonoids$Sheet.hasItem(I)Z -/
def m_Sheet_hasItem : mv_M := (2, 2, [
  (0, .iload_n 1, 1, [], 0, 0), (1, .ifCond .lt 15, 3, [16], 0, 0), (4, .iload_n 1, 1, [], 0, 0), (5, .aload_n 0, 1, [], 0, 0),
  (6, .getfield 19, 3, [8, 2, 0], 0, 362), (9, .if_icmp .ge 7, 3, [16], 0, 0), (12, .iconst 1, 1, [], 1, 0), (13, .goto 4, 3, [17], 0, 0),
  (16, .iconst 0, 1, [], 0, 0), (17, .ireturn, 1, [], 0, 0)])
/-- 21: WordMonoids$Sheet.hasRun(II)Z -/
def m_Sheet_hasRun : mv_M := (3, 2, [
  (0, .iload_n 1, 1, [], 0, 0), (1, .ifCond .lt 29, 3, [30], 0, 0), (4, .iload_n 2, 1, [], 0, 0), (5, .ifCond .lt 25, 3, [30], 0, 0),
  (8, .iload_n 1, 1, [], 0, 0), (9, .aload_n 0, 1, [], 0, 0), (10, .getfield 19, 3, [8, 2, 0], 0, 362), (13, .if_icmp .gt 17, 3, [30], 0, 0),
  (16, .iload_n 2, 1, [], 0, 0), (17, .aload_n 0, 1, [], 0, 0), (18, .getfield 19, 3, [8, 2, 0], 0, 362), (21, .iload_n 1, 1, [], 0, 0),
  (22, .isub, 1, [], 0, 0), (23, .if_icmp .gt 7, 3, [30], 0, 0), (26, .iconst 1, 1, [], 1, 0), (27, .goto 4, 3, [31], 0, 0),
  (30, .iconst 0, 1, [], 0, 0), (31, .ireturn, 1, [], 0, 0)])
/-- 22: WordMonoids$Sheet.item(I)I -/
def m_Sheet_item : mv_M := (2, 1, [
  (0, .iload_n 1, 1, [], 0, 0), (1, .ifCond .lt 18, 3, [19], 0, 0), (4, .iload_n 1, 1, [], 0, 0), (5, .bipush 40, 2, [], 40, 0),
  (7, .if_icmp .ge 12, 3, [19], 0, 0), (10, .aload_n 0, 1, [], 0, 0), (11, .getfield 9, 3, [8, 0, 2], 0, 358), (14, .iload_n 1, 1, [], 0, 0),
  (15, .iaload, 1, [], 0, 0), (16, .goto 4, 3, [20], 0, 0), (19, .iconst 0, 1, [], 0, 0), (20, .ireturn, 1, [], 0, 0)])
/-- 23: WordMonoids$Sheet.write(II)V -/
def m_Sheet_write : mv_M := (3, 0, [
  (0, .iload_n 1, 1, [], 0, 0), (1, .ifCond .lt 28, 3, [29], 0, 0), (4, .iload_n 1, 1, [], 0, 0), (5, .bipush 40, 2, [], 40, 0),
  (7, .if_icmp .ge 22, 3, [29], 0, 0), (10, .aload_n 0, 1, [], 0, 0), (11, .getfield 9, 3, [8, 0, 2], 0, 358), (14, .iload_n 1, 1, [], 0, 0),
  (15, .aload_n 0, 1, [], 0, 0), (16, .getfield 15, 3, [8, 1, 0], 0, 360), (19, .ifCond .ne 8, 3, [27], 0, 0), (22, .iload_n 2, 1, [], 0, 0),
  (23, .i2s, 1, [], 0, 0), (24, .goto 4, 3, [28], 0, 0), (27, .iload_n 2, 1, [], 0, 0), (28, .iastore, 1, [], 0, 0),
  (29, .return_, 1, [], 0, 0)])
/-- 24: WordMonoids$Formula.atom(III)I -/
def m_Formula_atom : mv_M := (3, 1, [
  (0, .iload_n 0, 1, [], 0, 0), (1, .iload_n 1, 1, [], 0, 0), (2, .iconst 4, 1, [], 4, 0), (3, .ishl, 1, [], 0, 0),
  (4, .ior, 1, [], 0, 0), (5, .iload_n 2, 1, [], 0, 0), (6, .bipush 8, 2, [], 8, 0), (8, .ishl, 1, [], 0, 0),
  (9, .ior, 1, [], 0, 0), (10, .ireturn, 1, [], 0, 0)])
/-- 25: WordMonoids$Formula.keep([II)V -/
def m_Formula_keep : mv_M := (3, 0, [
  (0, .aload_n 0, 1, [], 0, 0), (1, .iconst 0, 1, [], 0, 0), (2, .iload_n 2, 1, [], 0, 0), (3, .aload_n 1, 1, [], 0, 0),
  (4, .arraylength, 1, [], 0, 0), (5, .aload_n 0, 1, [], 0, 0), (6, .getfield 9, 3, [0, 0, 2], 0, 346), (9, .arraylength, 1, [], 0, 0),
  (10, .invokestatic 19, 3, [0, 0, 0, 5], 0, 848), (13, .invokestatic 19, 3, [0, 0, 0, 5], 0, 848), (16, .invokestatic 25, 3, [0, 0, 0, 4], 0, 849), (19, .putfield 15, 3, [0, 1, 0], 0, 347),
  (22, .aload_n 1, 1, [], 0, 0), (23, .iconst 0, 1, [], 0, 0), (24, .aload_n 0, 1, [], 0, 0), (25, .getfield 9, 3, [0, 0, 2], 0, 346),
  (28, .iconst 0, 1, [], 0, 0), (29, .aload_n 0, 1, [], 0, 0), (30, .getfield 15, 3, [0, 1, 0], 0, 347), (33, .invokestatic 28, 3, [0, 0, 0, 3, 20], 0, 850),
  (36, .return_, 1, [], 0, 0)])
/-- 26: WordMonoids$Formula.accepts(LWordMonoids$Words;)Z -/
def m_Formula_accepts : mv_M := (4, 2, [
  (0, .iconst 0, 1, [], 0, 0), (1, .istore_n 2, 1, [], 0, 0), (2, .iconst 0, 1, [], 0, 0), (3, .istore_n 3, 1, [], 0, 0),
  (4, .iload_n 3, 1, [], 0, 0), (5, .aload_n 0, 1, [], 0, 0), (6, .getfield 15, 3, [0, 1, 0], 0, 347), (9, .if_icmp .ge 98, 3, [107], 0, 0),
  (12, .aload_n 0, 1, [], 0, 0), (13, .getfield 9, 3, [0, 0, 2], 0, 346), (16, .iload_n 3, 1, [], 0, 0), (17, .iaload, 1, [], 0, 0),
  (18, .bipush 15, 2, [], 15, 0), (20, .iand, 1, [], 0, 0), (21, .tableswitch 57 0 2 #[27, 39, 50], 27, [78, 48, 60, 71], 0, 0), (48, .iload_n 2, 1, [], 0, 0),
  (49, .iconst 1, 1, [], 1, 0), (50, .ishr, 1, [], 0, 0), (51, .iload_n 2, 1, [], 0, 0), (52, .bipush (-2), 2, [], (-2), 0),
  (54, .ior, 1, [], 0, 0), (55, .iand, 1, [], 0, 0), (56, .istore_n 2, 1, [], 0, 0), (57, .goto 44, 3, [101], 0, 0),
  (60, .iload_n 2, 1, [], 0, 0), (61, .iconst 1, 1, [], 1, 0), (62, .ishr, 1, [], 0, 0), (63, .iload_n 2, 1, [], 0, 0),
  (64, .iconst 1, 1, [], 1, 0), (65, .iand, 1, [], 0, 0), (66, .ior, 1, [], 0, 0), (67, .istore_n 2, 1, [], 0, 0),
  (68, .goto 33, 3, [101], 0, 0), (71, .iload_n 2, 1, [], 0, 0), (72, .iconst 1, 1, [], 1, 0), (73, .ixor, 1, [], 0, 0),
  (74, .istore_n 2, 1, [], 0, 0), (75, .goto 26, 3, [101], 0, 0), (78, .iload_n 2, 1, [], 0, 0), (79, .iconst 1, 1, [], 1, 0),
  (80, .ishl, 1, [], 0, 0), (81, .aload_n 0, 1, [], 0, 0), (82, .getfield 9, 3, [0, 0, 2], 0, 346), (85, .iload_n 3, 1, [], 0, 0),
  (86, .iaload, 1, [], 0, 0), (87, .aload_n 1, 1, [], 0, 0), (88, .invokestatic 34, 3, [28, 2, 2, 0], 0, 873), (91, .ifCond .eq 7, 3, [98], 0, 0),
  (94, .iconst 1, 1, [], 1, 0), (95, .goto 4, 3, [99], 0, 0), (98, .iconst 0, 1, [], 0, 0), (99, .ior, 1, [], 0, 0),
  (100, .istore_n 2, 1, [], 0, 0), (101, .iinc 3 1, 3, [], 1, 0), (104, .goto (-100), 3, [4], 0, 0), (107, .iload_n 2, 1, [], 0, 0),
  (108, .iconst 1, 1, [], 1, 0), (109, .iand, 1, [], 0, 0), (110, .iconst 1, 1, [], 1, 0), (111, .if_icmp .ne 7, 3, [118], 0, 0),
  (114, .iconst 1, 1, [], 1, 0), (115, .goto 4, 3, [119], 0, 0), (118, .iconst 0, 1, [], 0, 0), (119, .ireturn, 1, [], 0, 0)])
/-- 27: WordMonoids$Formula.howMany(I)I -/
def m_Formula_howMany : mv_M := (1, 1, [
  (0, .iload_n 0, 1, [], 0, 0), (1, .iconst 4, 1, [], 4, 0), (2, .ishr, 1, [], 0, 0), (3, .bipush 15, 2, [], 15, 0),
  (5, .iand, 1, [], 0, 0), (6, .ireturn, 1, [], 0, 0)])
/-- 28: WordMonoids$Formula.isSo(ILWordMonoids$Words;)Z -/
def m_Formula_isSo : mv_M := (3, 2, [
  (0, .iload_n 0, 1, [], 0, 0), (1, .invokestatic 38, 3, [27, 1, 1, 0], 0, 876), (4, .istore_n 2, 1, [], 0, 0), (5, .iload_n 0, 1, [], 0, 0),
  (6, .bipush 15, 2, [], 15, 0), (8, .iand, 1, [], 0, 0), (9, .tableswitch 144 3 7 #[35, 48, 67, 101, 134], 35, [153, 44, 57, 76, 110, 143], 3, 0), (44, .aload_n 1, 1, [], 0, 0),
  (45, .getfield 42, 3, [10, 1, 0], 0, 169), (48, .ifCond .ne 7, 3, [55], 0, 0), (51, .iconst 1, 1, [], 1, 0), (52, .goto 4, 3, [56], 0, 0),
  (55, .iconst 0, 1, [], 0, 0), (56, .ireturn, 1, [], 0, 0), (57, .iload_n 2, 1, [], 0, 0), (58, .ifCond .le 16, 3, [74], 0, 0),
  (61, .aload_n 1, 1, [], 0, 0), (62, .getfield 42, 3, [10, 1, 0], 0, 169), (65, .iload_n 2, 1, [], 0, 0), (66, .irem, 1, [], 0, 0),
  (67, .ifCond .ne 7, 3, [74], 0, 0), (70, .iconst 1, 1, [], 1, 0), (71, .goto 4, 3, [75], 0, 0), (74, .iconst 0, 1, [], 0, 0),
  (75, .ireturn, 1, [], 0, 0), (76, .aload_n 1, 1, [], 0, 0), (77, .getfield 42, 3, [10, 1, 0], 0, 169), (80, .iload_n 2, 1, [], 0, 0),
  (81, .if_icmp .lt 27, 3, [108], 0, 0), (84, .aload_n 1, 1, [], 0, 0), (85, .getfield 47, 3, [10, 0, 0], 0, 167), (88, .iconst 2, 1, [], 2, 0),
  (89, .aload_n 1, 1, [], 0, 0), (90, .getfield 42, 3, [10, 1, 0], 0, 169), (93, .iload_n 2, 1, [], 0, 0), (94, .isub, 1, [], 0, 0),
  (95, .imul, 1, [], 0, 0), (96, .ishr, 1, [], 0, 0), (97, .iload_n 0, 1, [], 0, 0), (98, .bipush 8, 2, [], 8, 0),
  (100, .ishr, 1, [], 0, 0), (101, .if_icmp .ne 7, 3, [108], 0, 0), (104, .iconst 1, 1, [], 1, 0), (105, .goto 4, 3, [109], 0, 0),
  (108, .iconst 0, 1, [], 0, 0), (109, .ireturn, 1, [], 0, 0), (110, .aload_n 1, 1, [], 0, 0), (111, .getfield 42, 3, [10, 1, 0], 0, 169),
  (114, .iload_n 2, 1, [], 0, 0), (115, .if_icmp .lt 26, 3, [141], 0, 0), (118, .aload_n 1, 1, [], 0, 0), (119, .getfield 47, 3, [10, 0, 0], 0, 167),
  (122, .iconst 1, 1, [], 1, 0), (123, .iconst 2, 1, [], 2, 0), (124, .iload_n 2, 1, [], 0, 0), (125, .imul, 1, [], 0, 0),
  (126, .ishl, 1, [], 0, 0), (127, .iconst 1, 1, [], 1, 0), (128, .isub, 1, [], 0, 0), (129, .iand, 1, [], 0, 0),
  (130, .iload_n 0, 1, [], 0, 0), (131, .bipush 8, 2, [], 8, 0), (133, .ishr, 1, [], 0, 0), (134, .if_icmp .ne 7, 3, [141], 0, 0),
  (137, .iconst 1, 1, [], 1, 0), (138, .goto 4, 3, [142], 0, 0), (141, .iconst 0, 1, [], 0, 0), (142, .ireturn, 1, [], 0, 0),
  (143, .iload_n 0, 1, [], 0, 0), (144, .bipush 8, 2, [], 8, 0), (146, .ishr, 1, [], 0, 0), (147, .iload_n 2, 1, [], 0, 0),
  (148, .aload_n 1, 1, [], 0, 0), (149, .invokestatic 50, 3, [29, 3, 2, 0], 0, 879), (152, .ireturn, 1, [], 0, 0), (153, .iload_n 0, 1, [], 0, 0),
  (154, .bipush 8, 2, [], 8, 0), (156, .ishr, 1, [], 0, 0), (157, .iload_n 2, 1, [], 0, 0), (158, .aload_n 1, 1, [], 0, 0),
  (159, .invokestatic 54, 3, [30, 3, 2, 0], 0, 882), (162, .ireturn, 1, [], 0, 0)])
/-- 29: WordMonoids$Formula.standsBeside(IILWordMonoids$Words;)Z -/
def m_Formula_standsBeside : mv_M := (6, 2, [
  (0, .iconst 1, 1, [], 1, 0), (1, .iconst 2, 1, [], 2, 0), (2, .iload_n 1, 1, [], 0, 0), (3, .imul, 1, [], 0, 0),
  (4, .ishl, 1, [], 0, 0), (5, .iconst 1, 1, [], 1, 0), (6, .isub, 1, [], 0, 0), (7, .istore_n 3, 1, [], 0, 0),
  (8, .aload_n 2, 1, [], 0, 0), (9, .getfield 47, 3, [10, 0, 0], 0, 167), (12, .istore 4, 2, [], 0, 0), (14, .aload_n 2, 1, [], 0, 0),
  (15, .getfield 42, 3, [10, 1, 0], 0, 169), (18, .istore 5, 2, [], 0, 0), (20, .iload 5, 2, [], 0, 0), (22, .iload_n 1, 1, [], 0, 0),
  (23, .if_icmp .lt 25, 3, [48], 0, 0), (26, .iload 4, 2, [], 0, 0), (28, .iload_n 3, 1, [], 0, 0), (29, .iand, 1, [], 0, 0),
  (30, .iload_n 0, 1, [], 0, 0), (31, .if_icmp .ne 5, 3, [36], 0, 0), (34, .iconst 1, 1, [], 1, 0), (35, .ireturn, 1, [], 0, 0),
  (36, .iload 4, 2, [], 0, 0), (38, .iconst 2, 1, [], 2, 0), (39, .ishr, 1, [], 0, 0), (40, .istore 4, 2, [], 0, 0),
  (42, .iinc 5 (-1), 3, [], (-1), 0), (45, .goto (-25), 3, [20], 0, 0), (48, .iconst 0, 1, [], 0, 0), (49, .ireturn, 1, [], 0, 0)])
/-- 30: WordMonoids$Formula.standsScattered(IILWordMonoids$Words;)Z -/
def m_Formula_standsScattered : mv_M := (7, 2, [
  (0, .aload_n 2, 1, [], 0, 0), (1, .getfield 47, 3, [10, 0, 0], 0, 167), (4, .istore_n 3, 1, [], 0, 0), (5, .iload_n 0, 1, [], 0, 0),
  (6, .istore 4, 2, [], 0, 0), (8, .iload_n 1, 1, [], 0, 0), (9, .istore 5, 2, [], 0, 0), (11, .aload_n 2, 1, [], 0, 0),
  (12, .getfield 42, 3, [10, 1, 0], 0, 169), (15, .istore 6, 2, [], 0, 0), (17, .iload 6, 2, [], 0, 0), (19, .iload 5, 2, [], 0, 0),
  (21, .if_icmp .lt 37, 3, [58], 0, 0), (24, .iload 5, 2, [], 0, 0), (26, .ifCond .le 32, 3, [58], 0, 0), (29, .iload_n 3, 1, [], 0, 0),
  (30, .iconst 3, 1, [], 3, 0), (31, .iand, 1, [], 0, 0), (32, .iload 4, 2, [], 0, 0), (34, .iconst 3, 1, [], 3, 0),
  (35, .iand, 1, [], 0, 0), (36, .if_icmp .ne 12, 3, [48], 0, 0), (39, .iload 4, 2, [], 0, 0), (41, .iconst 2, 1, [], 2, 0),
  (42, .ishr, 1, [], 0, 0), (43, .istore 4, 2, [], 0, 0), (45, .iinc 5 (-1), 3, [], (-1), 0), (48, .iload_n 3, 1, [], 0, 0),
  (49, .iconst 2, 1, [], 2, 0), (50, .ishr, 1, [], 0, 0), (51, .istore_n 3, 1, [], 0, 0), (52, .iinc 6 (-1), 3, [], (-1), 0),
  (55, .goto (-38), 3, [17], 0, 0), (58, .iload 5, 2, [], 0, 0), (60, .ifCond .ne 7, 3, [67], 0, 0), (63, .iconst 1, 1, [], 1, 0),
  (64, .goto 4, 3, [68], 0, 0), (67, .iconst 0, 1, [], 0, 0), (68, .ireturn, 1, [], 0, 0)])
/-- 31: WordMonoids$Reader.append(I)V -/
def m_Reader_append : mv_M := (2, 0, [
  (0, .aload_n 0, 1, [], 0, 0), (1, .getfield 24, 3, [7, 4, 0], 0, 128), (4, .bipush 60, 2, [], 60, 0), (6, .if_icmp .ge 23, 3, [29], 0, 0),
  (9, .aload_n 0, 1, [], 0, 0), (10, .getfield 9, 3, [7, 0, 2], 0, 123), (13, .aload_n 0, 1, [], 0, 0), (14, .getfield 24, 3, [7, 4, 0], 0, 128),
  (17, .iload_n 1, 1, [], 0, 0), (18, .iastore, 1, [], 0, 0), (19, .aload_n 0, 1, [], 0, 0), (20, .dup, 1, [], 0, 0),
  (21, .getfield 24, 3, [7, 4, 0], 0, 128), (24, .iconst 1, 1, [], 1, 0), (25, .iadd, 1, [], 0, 0), (26, .putfield 24, 3, [7, 4, 0], 0, 128),
  (29, .return_, 1, [], 0, 0)])
/-- 32: WordMonoids$Reader.causeAt(I)I -/
def m_Reader_causeAt : mv_M := (2, 1, [
  (0, .iload_n 1, 1, [], 0, 0), (1, .ifCond .lt 29, 3, [30], 0, 0), (4, .iload_n 1, 1, [], 0, 0), (5, .aload_n 0, 1, [], 0, 0),
  (6, .getfield 34, 3, [7, 7, 0], 0, 133), (9, .if_icmp .ge 21, 3, [30], 0, 0), (12, .iload_n 1, 1, [], 0, 0), (13, .aload_n 0, 1, [], 0, 0),
  (14, .getfield 21, 3, [7, 3, 2], 0, 127), (17, .arraylength, 1, [], 0, 0), (18, .if_icmp .ge 12, 3, [30], 0, 0), (21, .aload_n 0, 1, [], 0, 0),
  (22, .getfield 21, 3, [7, 3, 2], 0, 127), (25, .iload_n 1, 1, [], 0, 0), (26, .iaload, 1, [], 0, 0), (27, .goto 4, 3, [31], 0, 0),
  (30, .iconst (-1), 1, [], (-1), 0), (31, .ireturn, 1, [], 0, 0)])
/-- 33: WordMonoids$Reader.readTape()Z -/
def m_Reader_readTape : mv_M := (2, 2, [
  (0, .aload_n 0, 1, [], 0, 0), (1, .iconst 0, 1, [], 0, 0), (2, .putfield 37, 3, [7, 8, 0], 0, 135), (5, .aload_n 0, 1, [], 0, 0),
  (6, .iconst 0, 1, [], 0, 0), (7, .putfield 28, 3, [7, 5, 0], 0, 130), (10, .aload_n 0, 1, [], 0, 0), (11, .iconst 0, 1, [], 0, 0),
  (12, .putfield 31, 3, [7, 6, 0], 0, 132), (15, .aload_n 0, 1, [], 0, 0), (16, .iconst 0, 1, [], 0, 0), (17, .putfield 34, 3, [7, 7, 0], 0, 133),
  (20, .aload_n 0, 1, [], 0, 0), (21, .iconst (-1), 1, [], (-1), 0), (22, .putfield 40, 3, [7, 9, 0], 0, 136), (25, .aload_n 0, 1, [], 0, 0),
  (26, .invokevirtual 43, 3, [34, 1, 2, 1, 7], 0, 790), (29, .istore_n 1, 1, [], 0, 0), (30, .iload_n 1, 1, [], 0, 0), (31, .ifCond .eq 19, 3, [50], 0, 0),
  (34, .aload_n 0, 1, [], 0, 0), (35, .getfield 37, 3, [7, 8, 0], 0, 135), (38, .aload_n 0, 1, [], 0, 0), (39, .getfield 24, 3, [7, 4, 0], 0, 128),
  (42, .if_icmp .ge 8, 3, [50], 0, 0), (45, .aload_n 0, 1, [], 0, 0), (46, .invokevirtual 47, 3, [44, 1, 2, 1, 7], 0, 818), (49, .istore_n 1, 1, [], 0, 0),
  (50, .iload_n 1, 1, [], 0, 0), (51, .ifCond .ne 7, 3, [58], 0, 0), (54, .aload_n 0, 1, [], 0, 0), (55, .invokevirtual 50, 3, [45, 1, 0, 1, 7], 0, 837),
  (58, .aload_n 0, 1, [], 0, 0), (59, .iconst 0, 1, [], 0, 0), (60, .putfield 24, 3, [7, 4, 0], 0, 128), (63, .iload_n 1, 1, [], 0, 0),
  (64, .ireturn, 1, [], 0, 0)])
/-- 34: WordMonoids$Reader.readEither()Z -/
def m_Reader_readEither : mv_M := (2, 2, [
  (0, .aload_n 0, 1, [], 0, 0), (1, .invokevirtual 53, 3, [35, 1, 2, 1, 7], 0, 794), (4, .ifCond .ne 5, 3, [9], 0, 0), (7, .iconst 0, 1, [], 0, 0),
  (8, .ireturn, 1, [], 0, 0), (9, .iconst 0, 1, [], 0, 0), (10, .istore_n 1, 1, [], 0, 0), (11, .iload_n 1, 1, [], 0, 0),
  (12, .bipush 60, 2, [], 60, 0), (14, .if_icmp .ge 42, 3, [56], 0, 0), (17, .aload_n 0, 1, [], 0, 0), (18, .invokevirtual 56, 3, [42, 1, 1, 1, 7], 0, 802),
  (21, .bipush 124, 2, [], 124, 0), (23, .if_icmp .ne 33, 3, [56], 0, 0), (26, .aload_n 0, 1, [], 0, 0), (27, .dup, 1, [], 0, 0),
  (28, .getfield 37, 3, [7, 8, 0], 0, 135), (31, .iconst 1, 1, [], 1, 0), (32, .iadd, 1, [], 0, 0), (33, .putfield 37, 3, [7, 8, 0], 0, 135),
  (36, .aload_n 0, 1, [], 0, 0), (37, .invokevirtual 53, 3, [35, 1, 2, 1, 7], 0, 794), (40, .ifCond .ne 5, 3, [45], 0, 0), (43, .iconst 0, 1, [], 0, 0),
  (44, .ireturn, 1, [], 0, 0), (45, .aload_n 0, 1, [], 0, 0), (46, .iconst 1, 1, [], 1, 0), (47, .invokevirtual 62, 3, [43, 2, 0, 1, 7], 0, 810),
  (50, .iinc 1 1, 3, [], 1, 0), (53, .goto (-42), 3, [11], 0, 0), (56, .iconst 1, 1, [], 1, 0), (57, .ireturn, 1, [], 0, 0)])
/-- 35: WordMonoids$Reader.readBoth()Z -/
def m_Reader_readBoth : mv_M := (2, 2, [
  (0, .aload_n 0, 1, [], 0, 0), (1, .invokevirtual 66, 3, [36, 1, 2, 1, 7], 0, 798), (4, .ifCond .ne 5, 3, [9], 0, 0), (7, .iconst 0, 1, [], 0, 0),
  (8, .ireturn, 1, [], 0, 0), (9, .iconst 0, 1, [], 0, 0), (10, .istore_n 1, 1, [], 0, 0), (11, .iload_n 1, 1, [], 0, 0),
  (12, .bipush 60, 2, [], 60, 0), (14, .if_icmp .ge 42, 3, [56], 0, 0), (17, .aload_n 0, 1, [], 0, 0), (18, .invokevirtual 56, 3, [42, 1, 1, 1, 7], 0, 802),
  (21, .bipush 38, 2, [], 38, 0), (23, .if_icmp .ne 33, 3, [56], 0, 0), (26, .aload_n 0, 1, [], 0, 0), (27, .dup, 1, [], 0, 0),
  (28, .getfield 37, 3, [7, 8, 0], 0, 135), (31, .iconst 1, 1, [], 1, 0), (32, .iadd, 1, [], 0, 0), (33, .putfield 37, 3, [7, 8, 0], 0, 135),
  (36, .aload_n 0, 1, [], 0, 0), (37, .invokevirtual 66, 3, [36, 1, 2, 1, 7], 0, 798), (40, .ifCond .ne 5, 3, [45], 0, 0), (43, .iconst 0, 1, [], 0, 0),
  (44, .ireturn, 1, [], 0, 0), (45, .aload_n 0, 1, [], 0, 0), (46, .iconst 0, 1, [], 0, 0), (47, .invokevirtual 62, 3, [43, 2, 0, 1, 7], 0, 810),
  (50, .iinc 1 1, 3, [], 1, 0), (53, .goto (-42), 3, [11], 0, 0), (56, .iconst 1, 1, [], 1, 0), (57, .ireturn, 1, [], 0, 0)])
/-- 36: WordMonoids$Reader.readOne()Z -/
def m_Reader_readOne : mv_M := (2, 2, [
  (0, .aload_n 0, 1, [], 0, 0), (1, .invokevirtual 56, 3, [42, 1, 1, 1, 7], 0, 802), (4, .istore_n 1, 1, [], 0, 0), (5, .iload_n 1, 1, [], 0, 0),
  (6, .bipush 33, 2, [], 33, 0), (8, .if_icmp .eq 14, 3, [22], 0, 0), (11, .iload_n 1, 1, [], 0, 0), (12, .bipush 40, 2, [], 40, 0),
  (14, .if_icmp .eq 8, 3, [22], 0, 0), (17, .aload_n 0, 1, [], 0, 0), (18, .invokevirtual 69, 3, [39, 1, 2, 1, 7], 0, 806), (21, .ireturn, 1, [], 0, 0),
  (22, .aload_n 0, 1, [], 0, 0), (23, .getfield 31, 3, [7, 6, 0], 0, 132), (26, .ifCond .lt 12, 3, [38], 0, 0), (29, .aload_n 0, 1, [], 0, 0),
  (30, .getfield 31, 3, [7, 6, 0], 0, 132), (33, .bipush 6, 2, [], 6, 0), (35, .if_icmp .lt 8, 3, [43], 0, 0), (38, .aload_n 0, 1, [], 0, 0),
  (39, .invokevirtual 47, 3, [44, 1, 2, 1, 7], 0, 818), (42, .ireturn, 1, [], 0, 0), (43, .aload_n 0, 1, [], 0, 0), (44, .getfield 18, 3, [7, 2, 2], 0, 126),
  (47, .aload_n 0, 1, [], 0, 0), (48, .getfield 31, 3, [7, 6, 0], 0, 132), (51, .aload_n 0, 1, [], 0, 0), (52, .getfield 37, 3, [7, 8, 0], 0, 135),
  (55, .iastore, 1, [], 0, 0), (56, .aload_n 0, 1, [], 0, 0), (57, .dup, 1, [], 0, 0), (58, .getfield 31, 3, [7, 6, 0], 0, 132),
  (61, .iconst 1, 1, [], 1, 0), (62, .iadd, 1, [], 0, 0), (63, .putfield 31, 3, [7, 6, 0], 0, 132), (66, .aload_n 0, 1, [], 0, 0),
  (67, .dup, 1, [], 0, 0), (68, .getfield 37, 3, [7, 8, 0], 0, 135), (71, .iconst 1, 1, [], 1, 0), (72, .iadd, 1, [], 0, 0),
  (73, .putfield 37, 3, [7, 8, 0], 0, 135), (76, .iload_n 1, 1, [], 0, 0), (77, .bipush 33, 2, [], 33, 0), (79, .if_icmp .ne 13, 3, [92], 0, 0),
  (82, .aload_n 0, 1, [], 0, 0), (83, .invokevirtual 72, 3, [37, 1, 2, 1, 7], 0, 829), (86, .ifCond .eq 13, 3, [99], 0, 0), (89, .goto 12, 3, [101], 0, 0),
  (92, .aload_n 0, 1, [], 0, 0), (93, .invokevirtual 75, 3, [38, 1, 2, 1, 7], 0, 833), (96, .ifCond .ne 5, 3, [101], 0, 0), (99, .iconst 0, 1, [], 0, 0),
  (100, .ireturn, 1, [], 0, 0), (101, .aload_n 0, 1, [], 0, 0), (102, .dup, 1, [], 0, 0), (103, .getfield 31, 3, [7, 6, 0], 0, 132),
  (106, .iconst 1, 1, [], 1, 0), (107, .isub, 1, [], 0, 0), (108, .putfield 31, 3, [7, 6, 0], 0, 132), (111, .iconst 1, 1, [], 1, 0),
  (112, .ireturn, 1, [], 0, 0)])
/-- 37: WordMonoids$Reader.readNegated()Z -/
def m_Reader_readNegated : mv_M := (1, 2, [
  (0, .aload_n 0, 1, [], 0, 0), (1, .invokevirtual 66, 3, [36, 1, 2, 1, 7], 0, 798), (4, .ifCond .ne 5, 3, [9], 0, 0), (7, .iconst 0, 1, [], 0, 0),
  (8, .ireturn, 1, [], 0, 0), (9, .aload_n 0, 1, [], 0, 0), (10, .iconst 2, 1, [], 2, 0), (11, .invokevirtual 62, 3, [43, 2, 0, 1, 7], 0, 810),
  (14, .iconst 1, 1, [], 1, 0), (15, .ireturn, 1, [], 0, 0)])
/-- 38: WordMonoids$Reader.readEnclosed()Z -/
def m_Reader_readEnclosed : mv_M := (1, 2, [
  (0, .aload_n 0, 1, [], 0, 0), (1, .invokevirtual 43, 3, [34, 1, 2, 1, 7], 0, 790), (4, .ifCond .ne 5, 3, [9], 0, 0), (7, .iconst 0, 1, [], 0, 0),
  (8, .ireturn, 1, [], 0, 0), (9, .aload_n 0, 1, [], 0, 0), (10, .invokevirtual 56, 3, [42, 1, 1, 1, 7], 0, 802), (13, .bipush 41, 2, [], 41, 0),
  (15, .if_icmp .eq 8, 3, [23], 0, 0), (18, .aload_n 0, 1, [], 0, 0), (19, .invokevirtual 47, 3, [44, 1, 2, 1, 7], 0, 818), (22, .ireturn, 1, [], 0, 0),
  (23, .aload_n 0, 1, [], 0, 0), (24, .dup, 1, [], 0, 0), (25, .getfield 37, 3, [7, 8, 0], 0, 135), (28, .iconst 1, 1, [], 1, 0),
  (29, .iadd, 1, [], 0, 0), (30, .putfield 37, 3, [7, 8, 0], 0, 135), (33, .iconst 1, 1, [], 1, 0), (34, .ireturn, 1, [], 0, 0)])
/-- 39: WordMonoids$Reader.readAtom()Z -/
def m_Reader_readAtom : mv_M := (1, 2, [
  (0, .aload_n 0, 1, [], 0, 0), (1, .invokevirtual 56, 3, [42, 1, 1, 1, 7], 0, 802), (4, .lookupswitch 109 #[(35, 95), (36, 88), (37, 77), (94, 82), (101, 60), (126, 102)], 60, [113, 35, 99, 36, 92, 37, 81, 94, 86, 101, 64, 126, 106], 0, 0), (64, .aload_n 0, 1, [], 0, 0),
  (65, .dup, 1, [], 0, 0), (66, .getfield 37, 3, [7, 8, 0], 0, 135), (69, .iconst 1, 1, [], 1, 0), (70, .iadd, 1, [], 0, 0),
  (71, .putfield 37, 3, [7, 8, 0], 0, 135), (74, .aload_n 0, 1, [], 0, 0), (75, .iconst 3, 1, [], 3, 0), (76, .invokevirtual 62, 3, [43, 2, 0, 1, 7], 0, 810),
  (79, .iconst 1, 1, [], 1, 0), (80, .ireturn, 1, [], 0, 0), (81, .aload_n 0, 1, [], 0, 0), (82, .invokevirtual 78, 3, [40, 1, 2, 1, 7], 0, 814),
  (85, .ireturn, 1, [], 0, 0), (86, .aload_n 0, 1, [], 0, 0), (87, .iconst 5, 1, [], 5, 0), (88, .invokevirtual 81, 3, [41, 2, 2, 1, 7], 0, 825),
  (91, .ireturn, 1, [], 0, 0), (92, .aload_n 0, 1, [], 0, 0), (93, .bipush 6, 2, [], 6, 0), (95, .invokevirtual 81, 3, [41, 2, 2, 1, 7], 0, 825),
  (98, .ireturn, 1, [], 0, 0), (99, .aload_n 0, 1, [], 0, 0), (100, .bipush 7, 2, [], 7, 0), (102, .invokevirtual 81, 3, [41, 2, 2, 1, 7], 0, 825),
  (105, .ireturn, 1, [], 0, 0), (106, .aload_n 0, 1, [], 0, 0), (107, .bipush 8, 2, [], 8, 0), (109, .invokevirtual 81, 3, [41, 2, 2, 1, 7], 0, 825),
  (112, .ireturn, 1, [], 0, 0), (113, .aload_n 0, 1, [], 0, 0), (114, .invokevirtual 47, 3, [44, 1, 2, 1, 7], 0, 818), (117, .ireturn, 1, [], 0, 0)])
/-- 40: WordMonoids$Reader.readMultiple()Z -/
def m_Reader_readMultiple : mv_M := (2, 2, [
  (0, .aload_n 0, 1, [], 0, 0), (1, .dup, 1, [], 0, 0), (2, .getfield 37, 3, [7, 8, 0], 0, 135), (5, .iconst 1, 1, [], 1, 0),
  (6, .iadd, 1, [], 0, 0), (7, .putfield 37, 3, [7, 8, 0], 0, 135), (10, .aload_n 0, 1, [], 0, 0), (11, .invokevirtual 56, 3, [42, 1, 1, 1, 7], 0, 802),
  (14, .istore_n 1, 1, [], 0, 0), (15, .iload_n 1, 1, [], 0, 0), (16, .bipush 50, 2, [], 50, 0), (18, .if_icmp .lt 9, 3, [27], 0, 0),
  (21, .iload_n 1, 1, [], 0, 0), (22, .bipush 53, 2, [], 53, 0), (24, .if_icmp .le 8, 3, [32], 0, 0), (27, .aload_n 0, 1, [], 0, 0),
  (28, .invokevirtual 47, 3, [44, 1, 2, 1, 7], 0, 818), (31, .ireturn, 1, [], 0, 0), (32, .aload_n 0, 1, [], 0, 0), (33, .dup, 1, [], 0, 0),
  (34, .getfield 37, 3, [7, 8, 0], 0, 135), (37, .iconst 1, 1, [], 1, 0), (38, .iadd, 1, [], 0, 0), (39, .putfield 37, 3, [7, 8, 0], 0, 135),
  (42, .aload_n 0, 1, [], 0, 0), (43, .iconst 4, 1, [], 4, 0), (44, .iload_n 1, 1, [], 0, 0), (45, .bipush 48, 2, [], 48, 0),
  (47, .isub, 1, [], 0, 0), (48, .iconst 0, 1, [], 0, 0), (49, .invokestatic 85, 3, [24, 3, 1, 0], 0, 822), (52, .invokevirtual 62, 3, [43, 2, 0, 1, 7], 0, 810),
  (55, .iconst 1, 1, [], 1, 0), (56, .ireturn, 1, [], 0, 0)])
/-- 41: WordMonoids$Reader.readLetters(I)Z -/
def m_Reader_readLetters : mv_M := (4, 2, [
  (0, .aload_n 0, 1, [], 0, 0), (1, .dup, 1, [], 0, 0), (2, .getfield 37, 3, [7, 8, 0], 0, 135), (5, .iconst 1, 1, [], 1, 0),
  (6, .iadd, 1, [], 0, 0), (7, .putfield 37, 3, [7, 8, 0], 0, 135), (10, .iconst 0, 1, [], 0, 0), (11, .istore_n 2, 1, [], 0, 0),
  (12, .iconst 0, 1, [], 0, 0), (13, .istore_n 3, 1, [], 0, 0), (14, .iload_n 2, 1, [], 0, 0), (15, .iconst 3, 1, [], 3, 0),
  (16, .if_icmp .ge 49, 3, [65], 0, 0), (19, .aload_n 0, 1, [], 0, 0), (20, .invokevirtual 56, 3, [42, 1, 1, 1, 7], 0, 802), (23, .bipush 97, 2, [], 97, 0),
  (25, .if_icmp .lt 40, 3, [65], 0, 0), (28, .aload_n 0, 1, [], 0, 0), (29, .invokevirtual 56, 3, [42, 1, 1, 1, 7], 0, 802), (32, .bipush 99, 2, [], 99, 0),
  (34, .if_icmp .gt 31, 3, [65], 0, 0), (37, .iload_n 3, 1, [], 0, 0), (38, .iconst 2, 1, [], 2, 0), (39, .ishl, 1, [], 0, 0),
  (40, .aload_n 0, 1, [], 0, 0), (41, .invokevirtual 56, 3, [42, 1, 1, 1, 7], 0, 802), (44, .bipush 97, 2, [], 97, 0), (46, .isub, 1, [], 0, 0),
  (47, .ior, 1, [], 0, 0), (48, .istore_n 3, 1, [], 0, 0), (49, .iinc 2 1, 3, [], 1, 0), (52, .aload_n 0, 1, [], 0, 0),
  (53, .dup, 1, [], 0, 0), (54, .getfield 37, 3, [7, 8, 0], 0, 135), (57, .iconst 1, 1, [], 1, 0), (58, .iadd, 1, [], 0, 0),
  (59, .putfield 37, 3, [7, 8, 0], 0, 135), (62, .goto (-48), 3, [14], 0, 0), (65, .iload_n 2, 1, [], 0, 0), (66, .ifCond .ne 8, 3, [74], 0, 0),
  (69, .aload_n 0, 1, [], 0, 0), (70, .invokevirtual 47, 3, [44, 1, 2, 1, 7], 0, 818), (73, .ireturn, 1, [], 0, 0), (74, .aload_n 0, 1, [], 0, 0),
  (75, .iload_n 1, 1, [], 0, 0), (76, .iload_n 2, 1, [], 0, 0), (77, .iload_n 3, 1, [], 0, 0), (78, .invokestatic 85, 3, [24, 3, 1, 0], 0, 822),
  (81, .invokevirtual 62, 3, [43, 2, 0, 1, 7], 0, 810), (84, .iconst 1, 1, [], 1, 0), (85, .ireturn, 1, [], 0, 0)])
/-- 42: WordMonoids$Reader.peek()I -/
def m_Reader_peek : mv_M := (1, 1, [
  (0, .aload_n 0, 1, [], 0, 0), (1, .getfield 37, 3, [7, 8, 0], 0, 135), (4, .ifCond .lt 35, 3, [39], 0, 0), (7, .aload_n 0, 1, [], 0, 0),
  (8, .getfield 37, 3, [7, 8, 0], 0, 135), (11, .aload_n 0, 1, [], 0, 0), (12, .getfield 24, 3, [7, 4, 0], 0, 128), (15, .if_icmp .ge 24, 3, [39], 0, 0),
  (18, .aload_n 0, 1, [], 0, 0), (19, .getfield 37, 3, [7, 8, 0], 0, 135), (22, .bipush 60, 2, [], 60, 0), (24, .if_icmp .ge 15, 3, [39], 0, 0),
  (27, .aload_n 0, 1, [], 0, 0), (28, .getfield 9, 3, [7, 0, 2], 0, 123), (31, .aload_n 0, 1, [], 0, 0), (32, .getfield 37, 3, [7, 8, 0], 0, 135),
  (35, .iaload, 1, [], 0, 0), (36, .goto 4, 3, [40], 0, 0), (39, .iconst (-1), 1, [], (-1), 0), (40, .ireturn, 1, [], 0, 0)])
/-- 43: WordMonoids$Reader.emit(I)V -/
def m_Reader_emit : mv_M := (2, 0, [
  (0, .aload_n 0, 1, [], 0, 0), (1, .getfield 28, 3, [7, 5, 0], 0, 130), (4, .ifCond .lt 35, 3, [39], 0, 0), (7, .aload_n 0, 1, [], 0, 0),
  (8, .getfield 28, 3, [7, 5, 0], 0, 130), (11, .aload_n 0, 1, [], 0, 0), (12, .getfield 15, 3, [7, 1, 2], 0, 124), (15, .arraylength, 1, [], 0, 0),
  (16, .if_icmp .ge 23, 3, [39], 0, 0), (19, .aload_n 0, 1, [], 0, 0), (20, .getfield 15, 3, [7, 1, 2], 0, 124), (23, .aload_n 0, 1, [], 0, 0),
  (24, .getfield 28, 3, [7, 5, 0], 0, 130), (27, .iload_n 1, 1, [], 0, 0), (28, .iastore, 1, [], 0, 0), (29, .aload_n 0, 1, [], 0, 0),
  (30, .dup, 1, [], 0, 0), (31, .getfield 28, 3, [7, 5, 0], 0, 130), (34, .iconst 1, 1, [], 1, 0), (35, .iadd, 1, [], 0, 0),
  (36, .putfield 28, 3, [7, 5, 0], 0, 130), (39, .return_, 1, [], 0, 0)])
/-- 44: WordMonoids$Reader.refuse()Z -/
def m_Reader_refuse : mv_M := (1, 2, [
  (0, .aload_n 0, 1, [], 0, 0), (1, .aload_n 0, 1, [], 0, 0), (2, .getfield 37, 3, [7, 8, 0], 0, 135), (5, .putfield 40, 3, [7, 9, 0], 0, 136),
  (8, .iconst 0, 1, [], 0, 0), (9, .ireturn, 1, [], 0, 0)])
/-- 45: WordMonoids$Reader.keepCauses()V -/
def m_Reader_keepCauses : mv_M := (2, 0, [
  (0, .aload_n 0, 1, [], 0, 0), (1, .getfield 21, 3, [7, 3, 2], 0, 127), (4, .iconst 0, 1, [], 0, 0), (5, .iconst 0, 1, [], 0, 0),
  (6, .iastore, 1, [], 0, 0), (7, .iconst 0, 1, [], 0, 0), (8, .istore_n 1, 1, [], 0, 0), (9, .iload_n 1, 1, [], 0, 0),
  (10, .aload_n 0, 1, [], 0, 0), (11, .getfield 31, 3, [7, 6, 0], 0, 132), (14, .if_icmp .ge 29, 3, [43], 0, 0), (17, .iload_n 1, 1, [], 0, 0),
  (18, .bipush 6, 2, [], 6, 0), (20, .if_icmp .ge 23, 3, [43], 0, 0), (23, .aload_n 0, 1, [], 0, 0), (24, .getfield 21, 3, [7, 3, 2], 0, 127),
  (27, .iload_n 1, 1, [], 0, 0), (28, .iconst 1, 1, [], 1, 0), (29, .iadd, 1, [], 0, 0), (30, .aload_n 0, 1, [], 0, 0),
  (31, .getfield 18, 3, [7, 2, 2], 0, 126), (34, .iload_n 1, 1, [], 0, 0), (35, .iaload, 1, [], 0, 0), (36, .iastore, 1, [], 0, 0),
  (37, .iinc 1 1, 3, [], 1, 0), (40, .goto (-31), 3, [9], 0, 0), (43, .aload_n 0, 1, [], 0, 0), (44, .aload_n 0, 1, [], 0, 0),
  (45, .getfield 31, 3, [7, 6, 0], 0, 132), (48, .bipush 6, 2, [], 6, 0), (50, .invokestatic 89, 3, [0, 0, 0, 5], 0, 841), (53, .iconst 2, 1, [], 2, 0),
  (54, .iadd, 1, [], 0, 0), (55, .putfield 34, 3, [7, 7, 0], 0, 133), (58, .aload_n 0, 1, [], 0, 0), (59, .getfield 21, 3, [7, 3, 2], 0, 127),
  (62, .aload_n 0, 1, [], 0, 0), (63, .getfield 34, 3, [7, 7, 0], 0, 133), (66, .iconst 1, 1, [], 1, 0), (67, .isub, 1, [], 0, 0),
  (68, .aload_n 0, 1, [], 0, 0), (69, .getfield 40, 3, [7, 9, 0], 0, 136), (72, .iastore, 1, [], 0, 0), (73, .return_, 1, [], 0, 0)])
/-- 46: WordMonoids$Least.minimise(LWordMonoids$Machine;)V -/
def m_Least_minimise : mv_M := (4, 0, [
  (0, .aload_n 0, 1, [], 0, 0), (1, .aload_n 1, 1, [], 0, 0), (2, .invokevirtual 31, 3, [51, 2, 0, 1, 3], 0, 474), (5, .aload_n 0, 1, [], 0, 0),
  (6, .getfield 18, 3, [3, 2, 2], 0, 197), (9, .iconst (-1), 1, [], (-1), 0), (10, .invokestatic 35, 3, [0, 2, 0, 0], 0, 491), (13, .aload_n 0, 1, [], 0, 0),
  (14, .iconst 0, 1, [], 0, 0), (15, .putfield 21, 3, [3, 3, 0], 0, 198), (18, .aload_n 0, 1, [], 0, 0), (19, .iconst 0, 1, [], 0, 0),
  (20, .putfield 25, 3, [3, 4, 0], 0, 201), (23, .aload_n 0, 1, [], 0, 0), (24, .aload_n 1, 1, [], 0, 0), (25, .aload_n 1, 1, [], 0, 0),
  (26, .getfield 41, 3, [4, 2, 0], 0, 326), (29, .invokevirtual 46, 3, [48, 3, 1, 1, 3], 0, 494), (32, .pop, 1, [], 0, 0), (33, .iconst 0, 1, [], 0, 0),
  (34, .istore_n 2, 1, [], 0, 0), (35, .iload_n 2, 1, [], 0, 0), (36, .aload_n 0, 1, [], 0, 0), (37, .getfield 21, 3, [3, 3, 0], 0, 198),
  (40, .if_icmp .ge 53, 3, [93], 0, 0), (43, .iload_n 2, 1, [], 0, 0), (44, .iconst 4, 1, [], 4, 0), (45, .if_icmp .ge 48, 3, [93], 0, 0),
  (48, .iconst 0, 1, [], 0, 0), (49, .istore_n 3, 1, [], 0, 0), (50, .iload_n 3, 1, [], 0, 0), (51, .iconst 3, 1, [], 3, 0),
  (52, .if_icmp .ge 35, 3, [87], 0, 0), (55, .aload_n 0, 1, [], 0, 0), (56, .getfield 9, 3, [3, 0, 2], 0, 195), (59, .iconst 3, 1, [], 3, 0),
  (60, .iload_n 2, 1, [], 0, 0), (61, .imul, 1, [], 0, 0), (62, .iload_n 3, 1, [], 0, 0), (63, .iadd, 1, [], 0, 0),
  (64, .aload_n 0, 1, [], 0, 0), (65, .aload_n 1, 1, [], 0, 0), (66, .aload_n 1, 1, [], 0, 0), (67, .aload_n 0, 1, [], 0, 0),
  (68, .getfield 15, 3, [3, 1, 2], 0, 196), (71, .iload_n 2, 1, [], 0, 0), (72, .iaload, 1, [], 0, 0), (73, .iload_n 3, 1, [], 0, 0),
  (74, .invokevirtual 50, 3, [13, 3, 1, 1, 4], 0, 486), (77, .invokevirtual 46, 3, [48, 3, 1, 1, 3], 0, 494), (80, .iastore, 1, [], 0, 0), (81, .iinc 3 1, 3, [], 1, 0),
  (84, .goto (-34), 3, [50], 0, 0), (87, .iinc 2 1, 3, [], 1, 0), (90, .goto (-55), 3, [35], 0, 0), (93, .return_, 1, [], 0, 0)])
/-- 47: WordMonoids$Least.next(II)I -/
def m_Least_next : mv_M := (4, 1, [
  (0, .iconst 3, 1, [], 3, 0), (1, .iload_n 1, 1, [], 0, 0), (2, .imul, 1, [], 0, 0), (3, .iload_n 2, 1, [], 0, 0),
  (4, .iadd, 1, [], 0, 0), (5, .istore_n 3, 1, [], 0, 0), (6, .iload_n 3, 1, [], 0, 0), (7, .ifCond .lt 21, 3, [28], 0, 0),
  (10, .iload_n 3, 1, [], 0, 0), (11, .aload_n 0, 1, [], 0, 0), (12, .getfield 9, 3, [3, 0, 2], 0, 195), (15, .arraylength, 1, [], 0, 0),
  (16, .if_icmp .ge 12, 3, [28], 0, 0), (19, .aload_n 0, 1, [], 0, 0), (20, .getfield 9, 3, [3, 0, 2], 0, 195), (23, .iload_n 3, 1, [], 0, 0),
  (24, .iaload, 1, [], 0, 0), (25, .goto 4, 3, [29], 0, 0), (28, .iconst 0, 1, [], 0, 0), (29, .ireturn, 1, [], 0, 0)])
/-- 48: WordMonoids$Least.numberFor(LWordMonoids$Machine;I)I -/
def m_Least_numberFor : mv_M := (4, 1, [
  (0, .aload_n 0, 1, [], 0, 0), (1, .iload_n 2, 1, [], 0, 0), (2, .invokevirtual 54, 3, [49, 2, 1, 1, 3], 0, 498), (5, .istore_n 3, 1, [], 0, 0),
  (6, .aload_n 0, 1, [], 0, 0), (7, .getfield 18, 3, [3, 2, 2], 0, 197), (10, .iload_n 3, 1, [], 0, 0), (11, .iaload, 1, [], 0, 0),
  (12, .iconst (-1), 1, [], (-1), 0), (13, .if_icmp .ne 64, 3, [77], 0, 0), (16, .aload_n 0, 1, [], 0, 0), (17, .getfield 21, 3, [3, 3, 0], 0, 198),
  (20, .iconst 4, 1, [], 4, 0), (21, .if_icmp .ge 56, 3, [77], 0, 0), (24, .aload_n 0, 1, [], 0, 0), (25, .getfield 18, 3, [3, 2, 2], 0, 197),
  (28, .iload_n 3, 1, [], 0, 0), (29, .aload_n 0, 1, [], 0, 0), (30, .getfield 21, 3, [3, 3, 0], 0, 198), (33, .iastore, 1, [], 0, 0),
  (34, .aload_n 0, 1, [], 0, 0), (35, .getfield 15, 3, [3, 1, 2], 0, 196), (38, .aload_n 0, 1, [], 0, 0), (39, .getfield 21, 3, [3, 3, 0], 0, 198),
  (42, .iload_n 3, 1, [], 0, 0), (43, .iastore, 1, [], 0, 0), (44, .aload_n 1, 1, [], 0, 0), (45, .iload_n 3, 1, [], 0, 0),
  (46, .invokevirtual 58, 3, [12, 2, 2, 1, 4], 0, 478), (49, .ifCond .eq 18, 3, [67], 0, 0), (52, .aload_n 0, 1, [], 0, 0), (53, .dup, 1, [], 0, 0),
  (54, .getfield 25, 3, [3, 4, 0], 0, 201), (57, .iconst 1, 1, [], 1, 0), (58, .aload_n 0, 1, [], 0, 0), (59, .getfield 21, 3, [3, 3, 0], 0, 198),
  (62, .ishl, 1, [], 0, 0), (63, .ior, 1, [], 0, 0), (64, .putfield 25, 3, [3, 4, 0], 0, 201), (67, .aload_n 0, 1, [], 0, 0),
  (68, .dup, 1, [], 0, 0), (69, .getfield 21, 3, [3, 3, 0], 0, 198), (72, .iconst 1, 1, [], 1, 0), (73, .iadd, 1, [], 0, 0),
  (74, .putfield 21, 3, [3, 3, 0], 0, 198), (77, .aload_n 0, 1, [], 0, 0), (78, .getfield 18, 3, [3, 2, 2], 0, 197), (81, .iload_n 3, 1, [], 0, 0),
  (82, .iaload, 1, [], 0, 0), (83, .ireturn, 1, [], 0, 0)])
/-- 49: WordMonoids$Least.firstAlike(I)I -/
def m_Least_firstAlike : mv_M := (3, 1, [
  (0, .iconst 0, 1, [], 0, 0), (1, .istore_n 2, 1, [], 0, 0), (2, .iload_n 2, 1, [], 0, 0), (3, .iload_n 1, 1, [], 0, 0),
  (4, .if_icmp .ge 25, 3, [29], 0, 0), (7, .iload_n 2, 1, [], 0, 0), (8, .iconst 4, 1, [], 4, 0), (9, .if_icmp .ge 20, 3, [29], 0, 0),
  (12, .aload_n 0, 1, [], 0, 0), (13, .iload_n 2, 1, [], 0, 0), (14, .iload_n 1, 1, [], 0, 0), (15, .invokevirtual 62, 3, [50, 3, 2, 1, 3], 0, 487),
  (18, .ifCond .ne 5, 3, [23], 0, 0), (21, .iload_n 2, 1, [], 0, 0), (22, .ireturn, 1, [], 0, 0), (23, .iinc 2 1, 3, [], 1, 0),
  (26, .goto (-24), 3, [2], 0, 0), (29, .iload_n 1, 1, [], 0, 0), (30, .ifCond .lt 12, 3, [42], 0, 0), (33, .iload_n 1, 1, [], 0, 0),
  (34, .iconst 4, 1, [], 4, 0), (35, .if_icmp .ge 7, 3, [42], 0, 0), (38, .iload_n 1, 1, [], 0, 0), (39, .goto 4, 3, [43], 0, 0),
  (42, .iconst 0, 1, [], 0, 0), (43, .ireturn, 1, [], 0, 0)])
/-- 50: WordMonoids$Least.areApart(II)Z -/
def m_Least_areApart : mv_M := (3, 2, [
  (0, .aload_n 0, 1, [], 0, 0), (1, .getfield 28, 3, [3, 5, 0], 0, 204), (4, .iconst 4, 1, [], 4, 0), (5, .iload_n 1, 1, [], 0, 0),
  (6, .imul, 1, [], 0, 0), (7, .iload_n 2, 1, [], 0, 0), (8, .iadd, 1, [], 0, 0), (9, .ishr, 1, [], 0, 0),
  (10, .iconst 1, 1, [], 1, 0), (11, .iand, 1, [], 0, 0), (12, .iconst 1, 1, [], 1, 0), (13, .if_icmp .ne 7, 3, [20], 0, 0),
  (16, .iconst 1, 1, [], 1, 0), (17, .goto 4, 3, [21], 0, 0), (20, .iconst 0, 1, [], 0, 0), (21, .ireturn, 1, [], 0, 0)])
/-- 51: WordMonoids$Least.findApart(LWordMonoids$Machine;)V -/
def m_Least_findApart : mv_M := (5, 0, [
  (0, .aload_n 0, 1, [], 0, 0), (1, .iconst 0, 1, [], 0, 0), (2, .putfield 28, 3, [3, 5, 0], 0, 204), (5, .iconst 0, 1, [], 0, 0),
  (6, .istore_n 2, 1, [], 0, 0), (7, .iload_n 2, 1, [], 0, 0), (8, .aload_n 1, 1, [], 0, 0), (9, .getfield 66, 3, [4, 1, 0], 0, 322),
  (12, .if_icmp .gt 85, 3, [97], 0, 0), (15, .iconst 0, 1, [], 0, 0), (16, .istore_n 3, 1, [], 0, 0), (17, .iload_n 3, 1, [], 0, 0),
  (18, .aload_n 1, 1, [], 0, 0), (19, .getfield 66, 3, [4, 1, 0], 0, 322), (22, .if_icmp .ge 69, 3, [91], 0, 0), (25, .iconst 0, 1, [], 0, 0),
  (26, .istore 4, 2, [], 0, 0), (28, .iload 4, 2, [], 0, 0), (30, .aload_n 1, 1, [], 0, 0), (31, .getfield 66, 3, [4, 1, 0], 0, 322),
  (34, .if_icmp .ge 51, 3, [85], 0, 0), (37, .aload_n 1, 1, [], 0, 0), (38, .iload_n 3, 1, [], 0, 0), (39, .invokevirtual 58, 3, [12, 2, 2, 1, 4], 0, 478),
  (42, .aload_n 1, 1, [], 0, 0), (43, .iload 4, 2, [], 0, 0), (45, .invokevirtual 58, 3, [12, 2, 2, 1, 4], 0, 478), (48, .if_icmp .ne 14, 3, [62], 0, 0),
  (51, .aload_n 0, 1, [], 0, 0), (52, .aload_n 1, 1, [], 0, 0), (53, .iload_n 3, 1, [], 0, 0), (54, .iload 4, 2, [], 0, 0),
  (56, .invokevirtual 67, 3, [52, 4, 2, 1, 3], 0, 482), (59, .ifCond .eq 20, 3, [79], 0, 0), (62, .aload_n 0, 1, [], 0, 0), (63, .dup, 1, [], 0, 0),
  (64, .getfield 28, 3, [3, 5, 0], 0, 204), (67, .iconst 1, 1, [], 1, 0), (68, .iconst 4, 1, [], 4, 0), (69, .iload_n 3, 1, [], 0, 0),
  (70, .imul, 1, [], 0, 0), (71, .iload 4, 2, [], 0, 0), (73, .iadd, 1, [], 0, 0), (74, .ishl, 1, [], 0, 0),
  (75, .ior, 1, [], 0, 0), (76, .putfield 28, 3, [3, 5, 0], 0, 204), (79, .iinc 4 1, 3, [], 1, 0), (82, .goto (-54), 3, [28], 0, 0),
  (85, .iinc 3 1, 3, [], 1, 0), (88, .goto (-71), 3, [17], 0, 0), (91, .iinc 2 1, 3, [], 1, 0), (94, .goto (-87), 3, [7], 0, 0),
  (97, .return_, 1, [], 0, 0)])
/-- 52: WordMonoids$Least.leadApart(LWordMonoids$Machine;II)Z -/
def m_Least_leadApart : mv_M := (5, 2, [
  (0, .iconst 0, 1, [], 0, 0), (1, .istore 4, 2, [], 0, 0), (3, .iload 4, 2, [], 0, 0), (5, .iconst 3, 1, [], 3, 0),
  (6, .if_icmp .ge 32, 3, [38], 0, 0), (9, .aload_n 0, 1, [], 0, 0), (10, .aload_n 1, 1, [], 0, 0), (11, .iload_n 2, 1, [], 0, 0),
  (12, .iload 4, 2, [], 0, 0), (14, .invokevirtual 50, 3, [13, 3, 1, 1, 4], 0, 486), (17, .aload_n 1, 1, [], 0, 0), (18, .iload_n 3, 1, [], 0, 0),
  (19, .iload 4, 2, [], 0, 0), (21, .invokevirtual 50, 3, [13, 3, 1, 1, 4], 0, 486), (24, .invokevirtual 62, 3, [50, 3, 2, 1, 3], 0, 487), (27, .ifCond .eq 5, 3, [32], 0, 0),
  (30, .iconst 1, 1, [], 1, 0), (31, .ireturn, 1, [], 0, 0), (32, .iinc 4 1, 3, [], 1, 0), (35, .goto (-32), 3, [3], 0, 0),
  (38, .iconst 0, 1, [], 0, 0), (39, .ireturn, 1, [], 0, 0)])
/-- 53: WordMonoids$Monoid.then(II)I -/
def m_Monoid_then : mv_M := (2, 1, [
  (0, .iload_n 1, 1, [], 0, 0), (1, .iload_n 0, 1, [], 0, 0), (2, .iconst 1, 1, [], 1, 0), (3, .ishl, 1, [], 0, 0),
  (4, .bipush 6, 2, [], 6, 0), (6, .iand, 1, [], 0, 0), (7, .ishr, 1, [], 0, 0), (8, .iconst 3, 1, [], 3, 0),
  (9, .iand, 1, [], 0, 0), (10, .iload_n 1, 1, [], 0, 0), (11, .iload_n 0, 1, [], 0, 0), (12, .iconst 1, 1, [], 1, 0),
  (13, .ishr, 1, [], 0, 0), (14, .bipush 6, 2, [], 6, 0), (16, .iand, 1, [], 0, 0), (17, .ishr, 1, [], 0, 0),
  (18, .iconst 3, 1, [], 3, 0), (19, .iand, 1, [], 0, 0), (20, .iconst 2, 1, [], 2, 0), (21, .ishl, 1, [], 0, 0),
  (22, .ior, 1, [], 0, 0), (23, .iload_n 1, 1, [], 0, 0), (24, .iload_n 0, 1, [], 0, 0), (25, .iconst 3, 1, [], 3, 0),
  (26, .ishr, 1, [], 0, 0), (27, .bipush 6, 2, [], 6, 0), (29, .iand, 1, [], 0, 0), (30, .ishr, 1, [], 0, 0),
  (31, .iconst 3, 1, [], 3, 0), (32, .iand, 1, [], 0, 0), (33, .iconst 4, 1, [], 4, 0), (34, .ishl, 1, [], 0, 0),
  (35, .ior, 1, [], 0, 0), (36, .iload_n 1, 1, [], 0, 0), (37, .iload_n 0, 1, [], 0, 0), (38, .iconst 5, 1, [], 5, 0),
  (39, .ishr, 1, [], 0, 0), (40, .bipush 6, 2, [], 6, 0), (42, .iand, 1, [], 0, 0), (43, .ishr, 1, [], 0, 0),
  (44, .iconst 3, 1, [], 3, 0), (45, .iand, 1, [], 0, 0), (46, .bipush 6, 2, [], 6, 0), (48, .ishl, 1, [], 0, 0),
  (49, .ior, 1, [], 0, 0), (50, .ireturn, 1, [], 0, 0)])
/-- 54: WordMonoids$Monoid.isIdempotent(I)Z -/
def m_Monoid_isIdempotent : mv_M := (1, 2, [
  (0, .iload_n 0, 1, [], 0, 0), (1, .iload_n 0, 1, [], 0, 0), (2, .invokestatic 66, 3, [53, 2, 1, 0], 0, 523), (5, .iload_n 0, 1, [], 0, 0),
  (6, .if_icmp .ne 7, 3, [13], 0, 0), (9, .iconst 1, 1, [], 1, 0), (10, .goto 4, 3, [14], 0, 0), (13, .iconst 0, 1, [], 0, 0),
  (14, .ireturn, 1, [], 0, 0)])
/-- 55: WordMonoids$Monoid.learn(LWordMonoids$Machine;)V -/
def m_Monoid_learn : mv_M := (5, 0, [
  (0, .aload_n 1, 1, [], 0, 0), (1, .invokevirtual 70, 3, [17, 1, 3, 1, 4], 0, 466), (4, .lstore_n 2, 1, [], 0, 0), (5, .lload_n 2, 1, [], 0, 0),
  (6, .aload_n 0, 1, [], 0, 0), (7, .getfield 62, 3, [5, 14, 1], 0, 236), (10, .lcmp, 1, [], 0, 0), (11, .ifCond .ne 4, 3, [15], 0, 0),
  (14, .return_, 1, [], 0, 0), (15, .aload_n 0, 1, [], 0, 0), (16, .lload_n 2, 1, [], 0, 0), (17, .putfield 62, 3, [5, 14, 1], 0, 236),
  (20, .aload_n 0, 1, [], 0, 0), (21, .getfield 14, 3, [5, 0, 2], 0, 219), (24, .aload_n 1, 1, [], 0, 0), (25, .invokevirtual 76, 3, [46, 2, 0, 1, 3], 0, 470),
  (28, .iconst 0, 1, [], 0, 0), (29, .istore 4, 2, [], 0, 0), (31, .iload 4, 2, [], 0, 0), (33, .iconst 3, 1, [], 3, 0),
  (34, .if_icmp .ge 22, 3, [56], 0, 0), (37, .aload_n 0, 1, [], 0, 0), (38, .getfield 18, 3, [5, 1, 2], 0, 221), (41, .iload 4, 2, [], 0, 0),
  (43, .aload_n 0, 1, [], 0, 0), (44, .iload 4, 2, [], 0, 0), (46, .invokevirtual 80, 3, [79, 2, 1, 1, 5], 0, 502), (49, .iastore, 1, [], 0, 0),
  (50, .iinc 4 1, 3, [], 1, 0), (53, .goto (-22), 3, [31], 0, 0), (56, .aload_n 0, 1, [], 0, 0), (57, .invokevirtual 84, 3, [80, 1, 0, 1, 5], 0, 510),
  (60, .iconst 0, 1, [], 0, 0), (61, .istore 4, 2, [], 0, 0), (63, .iload 4, 2, [], 0, 0), (65, .aload_n 0, 1, [], 0, 0),
  (66, .getfield 49, 3, [5, 11, 0], 0, 231), (69, .if_icmp .ge 44, 3, [113], 0, 0), (72, .iload 4, 2, [], 0, 0), (74, .sipush 256, 3, [], 256, 0),
  (77, .if_icmp .ge 36, 3, [113], 0, 0), (80, .aload_n 0, 1, [], 0, 0), (81, .getfield 37, 3, [5, 7, 2], 0, 227), (84, .aload_n 0, 1, [], 0, 0),
  (85, .getfield 22, 3, [5, 2, 2], 0, 222), (88, .iload 4, 2, [], 0, 0), (90, .iaload, 1, [], 0, 0), (91, .sipush 255, 3, [], 255, 0),
  (94, .iand, 1, [], 0, 0), (95, .aload_n 0, 1, [], 0, 0), (96, .aload_n 0, 1, [], 0, 0), (97, .getfield 22, 3, [5, 2, 2], 0, 222),
  (100, .iload 4, 2, [], 0, 0), (102, .iaload, 1, [], 0, 0), (103, .invokevirtual 87, 3, [82, 2, 1, 1, 5], 0, 530), (106, .iastore, 1, [], 0, 0),
  (107, .iinc 4 1, 3, [], 1, 0), (110, .goto (-47), 3, [63], 0, 0), (113, .return_, 1, [], 0, 0)])
/-- 56: WordMonoids$Monoid.hasElement(I)Z -/
def m_Monoid_hasElement : mv_M := (2, 2, [
  (0, .iload_n 1, 1, [], 0, 0), (1, .ifCond .lt 15, 3, [16], 0, 0), (4, .iload_n 1, 1, [], 0, 0), (5, .aload_n 0, 1, [], 0, 0),
  (6, .getfield 49, 3, [5, 11, 0], 0, 231), (9, .if_icmp .ge 7, 3, [16], 0, 0), (12, .iconst 1, 1, [], 1, 0), (13, .goto 4, 3, [17], 0, 0),
  (16, .iconst 0, 1, [], 0, 0), (17, .ireturn, 1, [], 0, 0)])
/-- 57: WordMonoids$Monoid.codeOf(I)I -/
def m_Monoid_codeOf : mv_M := (2, 1, [
  (0, .aload_n 0, 1, [], 0, 0), (1, .getfield 22, 3, [5, 2, 2], 0, 222), (4, .iload_n 1, 1, [], 0, 0), (5, .sipush 255, 3, [], 255, 0),
  (8, .iand, 1, [], 0, 0), (9, .iaload, 1, [], 0, 0), (10, .ireturn, 1, [], 0, 0)])
/-- 58: WordMonoids$Monoid.numberOf(I)I -/
def m_Monoid_numberOf : mv_M := (2, 1, [
  (0, .aload_n 0, 1, [], 0, 0), (1, .getfield 25, 3, [5, 3, 2], 0, 223), (4, .iload_n 1, 1, [], 0, 0), (5, .sipush 255, 3, [], 255, 0),
  (8, .iand, 1, [], 0, 0), (9, .iaload, 1, [], 0, 0), (10, .ireturn, 1, [], 0, 0)])
/-- 59: WordMonoids$Monoid.omegaOf(I)I -/
def m_Monoid_omegaOf : mv_M := (2, 1, [
  (0, .aload_n 0, 1, [], 0, 0), (1, .getfield 37, 3, [5, 7, 2], 0, 227), (4, .iload_n 1, 1, [], 0, 0), (5, .sipush 255, 3, [], 255, 0),
  (8, .iand, 1, [], 0, 0), (9, .iaload, 1, [], 0, 0), (10, .ireturn, 1, [], 0, 0)])
/-- 60: WordMonoids$Monoid.behind(II)I -/
def m_Monoid_behind : mv_M := (3, 1, [
  (0, .iload_n 2, 1, [], 0, 0), (1, .ifCond .lt 21, 3, [22], 0, 0), (4, .iload_n 2, 1, [], 0, 0), (5, .iconst 3, 1, [], 3, 0),
  (6, .if_icmp .ge 16, 3, [22], 0, 0), (9, .iload_n 1, 1, [], 0, 0), (10, .aload_n 0, 1, [], 0, 0), (11, .getfield 18, 3, [5, 1, 2], 0, 221),
  (14, .iload_n 2, 1, [], 0, 0), (15, .iaload, 1, [], 0, 0), (16, .invokestatic 66, 3, [53, 2, 1, 0], 0, 523), (19, .goto 4, 3, [23], 0, 0),
  (22, .iload_n 1, 1, [], 0, 0), (23, .ireturn, 1, [], 0, 0)])
/-- 61: WordMonoids$Monoid.ahead(II)I -/
def m_Monoid_ahead : mv_M := (3, 1, [
  (0, .iload_n 2, 1, [], 0, 0), (1, .ifCond .lt 21, 3, [22], 0, 0), (4, .iload_n 2, 1, [], 0, 0), (5, .iconst 3, 1, [], 3, 0),
  (6, .if_icmp .ge 16, 3, [22], 0, 0), (9, .aload_n 0, 1, [], 0, 0), (10, .getfield 18, 3, [5, 1, 2], 0, 221), (13, .iload_n 2, 1, [], 0, 0),
  (14, .iaload, 1, [], 0, 0), (15, .iload_n 1, 1, [], 0, 0), (16, .invokestatic 66, 3, [53, 2, 1, 0], 0, 523), (19, .goto 4, 3, [23], 0, 0),
  (22, .iload_n 1, 1, [], 0, 0), (23, .ireturn, 1, [], 0, 0)])
/-- 62: WordMonoids$Monoid.lettersOf(I)I -/
def m_Monoid_lettersOf : mv_M := (2, 1, [
  (0, .aload_n 0, 1, [], 0, 0), (1, .getfield 34, 3, [5, 6, 2], 0, 226), (4, .iload_n 1, 1, [], 0, 0), (5, .sipush 255, 3, [], 255, 0),
  (8, .iand, 1, [], 0, 0), (9, .iaload, 1, [], 0, 0), (10, .ireturn, 1, [], 0, 0)])
/-- 63: WordMonoids$Monoid.letterOf(II)I -/
def m_Monoid_letterOf : mv_M := (6, 1, [
  (0, .aload_n 0, 1, [], 0, 0), (1, .iload_n 1, 1, [], 0, 0), (2, .invokevirtual 90, 3, [62, 2, 1, 1, 5], 0, 591), (5, .istore_n 3, 1, [], 0, 0),
  (6, .iload_n 2, 1, [], 0, 0), (7, .ifCond .lt 8, 3, [15], 0, 0), (10, .iload_n 2, 1, [], 0, 0), (11, .iload_n 3, 1, [], 0, 0),
  (12, .if_icmp .lt 5, 3, [17], 0, 0), (15, .iconst (-1), 1, [], (-1), 0), (16, .ireturn, 1, [], 0, 0), (17, .iload_n 1, 1, [], 0, 0),
  (18, .sipush 255, 3, [], 255, 0), (21, .iand, 1, [], 0, 0), (22, .istore 4, 2, [], 0, 0), (24, .iload_n 3, 1, [], 0, 0),
  (25, .iconst 1, 1, [], 1, 0), (26, .isub, 1, [], 0, 0), (27, .istore 5, 2, [], 0, 0), (29, .iload 5, 2, [], 0, 0),
  (31, .iload_n 2, 1, [], 0, 0), (32, .if_icmp .le 22, 3, [54], 0, 0), (35, .aload_n 0, 1, [], 0, 0), (36, .getfield 28, 3, [5, 4, 2], 0, 224),
  (39, .iload 4, 2, [], 0, 0), (41, .iaload, 1, [], 0, 0), (42, .sipush 255, 3, [], 255, 0), (45, .iand, 1, [], 0, 0),
  (46, .istore 4, 2, [], 0, 0), (48, .iinc 5 (-1), 3, [], (-1), 0), (51, .goto (-22), 3, [29], 0, 0), (54, .aload_n 0, 1, [], 0, 0),
  (55, .getfield 31, 3, [5, 5, 2], 0, 225), (58, .iload 4, 2, [], 0, 0), (60, .iaload, 1, [], 0, 0), (61, .ireturn, 1, [], 0, 0)])
/-- 64: WordMonoids$Monoid.isTie(I)Z -/
def m_Monoid_isTie : mv_M := (2, 2, [
  (0, .aload_n 0, 1, [], 0, 0), (1, .iload_n 1, 1, [], 0, 0), (2, .invokevirtual 93, 3, [57, 2, 1, 1, 5], 0, 620), (5, .invokestatic 96, 3, [54, 1, 2, 0], 0, 534),
  (8, .ifCond .eq 18, 3, [26], 0, 0), (11, .iload_n 1, 1, [], 0, 0), (12, .ifCond .ne 10, 3, [22], 0, 0), (15, .aload_n 0, 1, [], 0, 0),
  (16, .getfield 53, 3, [5, 12, 3], 0, 234), (19, .ifCond .eq 7, 3, [26], 0, 0), (22, .iconst 1, 1, [], 1, 0), (23, .goto 4, 3, [27], 0, 0),
  (26, .iconst 0, 1, [], 0, 0), (27, .ireturn, 1, [], 0, 0)])
/-- 65: WordMonoids$Monoid.isTaken(I)Z -/
def m_Monoid_isTaken : mv_M := (2, 2, [
  (0, .aload_n 0, 1, [], 0, 0), (1, .getfield 14, 3, [5, 0, 2], 0, 219), (4, .getfield 100, 3, [3, 4, 0], 0, 203), (7, .aload_n 0, 1, [], 0, 0),
  (8, .iload_n 1, 1, [], 0, 0), (9, .invokevirtual 93, 3, [57, 2, 1, 1, 5], 0, 620), (12, .iconst 3, 1, [], 3, 0), (13, .iand, 1, [], 0, 0),
  (14, .ishr, 1, [], 0, 0), (15, .iconst 1, 1, [], 1, 0), (16, .iand, 1, [], 0, 0), (17, .iconst 1, 1, [], 1, 0),
  (18, .if_icmp .ne 7, 3, [25], 0, 0), (21, .iconst 1, 1, [], 1, 0), (22, .goto 4, 3, [26], 0, 0), (25, .iconst 0, 1, [], 0, 0),
  (26, .ireturn, 1, [], 0, 0)])
/-- 66: WordMonoids$Monoid.indexOf(I)I -/
def m_Monoid_indexOf : mv_M := (4, 1, [
  (0, .aload_n 0, 1, [], 0, 0), (1, .iload_n 1, 1, [], 0, 0), (2, .invokevirtual 93, 3, [57, 2, 1, 1, 5], 0, 620), (5, .istore_n 2, 1, [], 0, 0),
  (6, .iconst 1, 1, [], 1, 0), (7, .istore_n 3, 1, [], 0, 0), (8, .iload_n 3, 1, [], 0, 0), (9, .sipush 256, 3, [], 256, 0),
  (12, .if_icmp .ge 38, 3, [50], 0, 0), (15, .iload_n 2, 1, [], 0, 0), (16, .aload_n 0, 1, [], 0, 0), (17, .aload_n 0, 1, [], 0, 0),
  (18, .iload_n 1, 1, [], 0, 0), (19, .invokevirtual 93, 3, [57, 2, 1, 1, 5], 0, 620), (22, .invokevirtual 103, 3, [59, 2, 1, 1, 5], 0, 621), (25, .invokestatic 66, 3, [53, 2, 1, 0], 0, 523),
  (28, .iload_n 2, 1, [], 0, 0), (29, .if_icmp .ne 5, 3, [34], 0, 0), (32, .iload_n 3, 1, [], 0, 0), (33, .ireturn, 1, [], 0, 0),
  (34, .iload_n 2, 1, [], 0, 0), (35, .aload_n 0, 1, [], 0, 0), (36, .iload_n 1, 1, [], 0, 0), (37, .invokevirtual 93, 3, [57, 2, 1, 1, 5], 0, 620),
  (40, .invokestatic 66, 3, [53, 2, 1, 0], 0, 523), (43, .istore_n 2, 1, [], 0, 0), (44, .iinc 3 1, 3, [], 1, 0), (47, .goto (-39), 3, [8], 0, 0),
  (50, .sipush 256, 3, [], 256, 0), (53, .ireturn, 1, [], 0, 0)])
/-- 67: WordMonoids$Monoid.periodOf(I)I -/
def m_Monoid_periodOf : mv_M := (5, 1, [
  (0, .aload_n 0, 1, [], 0, 0), (1, .aload_n 0, 1, [], 0, 0), (2, .iload_n 1, 1, [], 0, 0), (3, .invokevirtual 93, 3, [57, 2, 1, 1, 5], 0, 620),
  (6, .invokevirtual 103, 3, [59, 2, 1, 1, 5], 0, 621), (9, .istore_n 2, 1, [], 0, 0), (10, .iload_n 2, 1, [], 0, 0), (11, .aload_n 0, 1, [], 0, 0),
  (12, .iload_n 1, 1, [], 0, 0), (13, .invokevirtual 93, 3, [57, 2, 1, 1, 5], 0, 620), (16, .invokestatic 66, 3, [53, 2, 1, 0], 0, 523), (19, .istore_n 3, 1, [], 0, 0),
  (20, .iconst 1, 1, [], 1, 0), (21, .istore 4, 2, [], 0, 0), (23, .iload 4, 2, [], 0, 0), (25, .sipush 256, 3, [], 256, 0),
  (28, .if_icmp .ge 27, 3, [55], 0, 0), (31, .iload_n 3, 1, [], 0, 0), (32, .iload_n 2, 1, [], 0, 0), (33, .if_icmp .ne 6, 3, [39], 0, 0),
  (36, .iload 4, 2, [], 0, 0), (38, .ireturn, 1, [], 0, 0), (39, .iload_n 3, 1, [], 0, 0), (40, .aload_n 0, 1, [], 0, 0),
  (41, .iload_n 1, 1, [], 0, 0), (42, .invokevirtual 93, 3, [57, 2, 1, 1, 5], 0, 620), (45, .invokestatic 66, 3, [53, 2, 1, 0], 0, 523), (48, .istore_n 3, 1, [], 0, 0),
  (49, .iinc 4 1, 3, [], 1, 0), (52, .goto (-29), 3, [23], 0, 0), (55, .sipush 256, 3, [], 256, 0), (58, .ireturn, 1, [], 0, 0)])
/-- 68: WordMonoids$Monoid.idempotents()I -/
def m_Monoid_idempotents : mv_M := (3, 1, [
  (0, .iconst 0, 1, [], 0, 0), (1, .istore_n 1, 1, [], 0, 0), (2, .iconst 0, 1, [], 0, 0), (3, .istore_n 2, 1, [], 0, 0),
  (4, .iload_n 2, 1, [], 0, 0), (5, .aload_n 0, 1, [], 0, 0), (6, .getfield 49, 3, [5, 11, 0], 0, 231), (9, .if_icmp .ge 23, 3, [32], 0, 0),
  (12, .aload_n 0, 1, [], 0, 0), (13, .iload_n 2, 1, [], 0, 0), (14, .invokevirtual 93, 3, [57, 2, 1, 1, 5], 0, 620), (17, .invokestatic 96, 3, [54, 1, 2, 0], 0, 534),
  (20, .ifCond .eq 6, 3, [26], 0, 0), (23, .iinc 1 1, 3, [], 1, 0), (26, .iinc 2 1, 3, [], 1, 0), (29, .goto (-25), 3, [4], 0, 0),
  (32, .iload_n 1, 1, [], 0, 0), (33, .ireturn, 1, [], 0, 0)])
/-- 69: WordMonoids$Monoid.greatestPeriod()I -/
def m_Monoid_greatestPeriod : mv_M := (3, 1, [
  (0, .iconst 1, 1, [], 1, 0), (1, .istore_n 1, 1, [], 0, 0), (2, .iconst 0, 1, [], 0, 0), (3, .istore_n 2, 1, [], 0, 0),
  (4, .iload_n 2, 1, [], 0, 0), (5, .aload_n 0, 1, [], 0, 0), (6, .getfield 49, 3, [5, 11, 0], 0, 231), (9, .if_icmp .ge 19, 3, [28], 0, 0),
  (12, .iload_n 1, 1, [], 0, 0), (13, .aload_n 0, 1, [], 0, 0), (14, .iload_n 2, 1, [], 0, 0), (15, .invokevirtual 106, 3, [67, 2, 1, 1, 5], 0, 664),
  (18, .invokestatic 109, 3, [0, 0, 0, 4], 0, 665), (21, .istore_n 1, 1, [], 0, 0), (22, .iinc 2 1, 3, [], 1, 0), (25, .goto (-21), 3, [4], 0, 0),
  (28, .iload_n 1, 1, [], 0, 0), (29, .ireturn, 1, [], 0, 0)])
/-- 70: WordMonoids$Monoid.takenElements()I -/
def m_Monoid_takenElements : mv_M := (3, 1, [
  (0, .iconst 0, 1, [], 0, 0), (1, .istore_n 1, 1, [], 0, 0), (2, .iconst 0, 1, [], 0, 0), (3, .istore_n 2, 1, [], 0, 0),
  (4, .iload_n 2, 1, [], 0, 0), (5, .aload_n 0, 1, [], 0, 0), (6, .getfield 49, 3, [5, 11, 0], 0, 231), (9, .if_icmp .ge 20, 3, [29], 0, 0),
  (12, .aload_n 0, 1, [], 0, 0), (13, .iload_n 2, 1, [], 0, 0), (14, .invokevirtual 114, 3, [65, 2, 2, 1, 5], 0, 672), (17, .ifCond .eq 6, 3, [23], 0, 0),
  (20, .iinc 1 1, 3, [], 1, 0), (23, .iinc 2 1, 3, [], 1, 0), (26, .goto (-22), 3, [4], 0, 0), (29, .iload_n 1, 1, [], 0, 0),
  (30, .ireturn, 1, [], 0, 0)])
/-- 71: WordMonoids$Monoid.zero()I -/
def m_Monoid_zero : mv_M := (2, 1, [
  (0, .iconst 0, 1, [], 0, 0), (1, .istore_n 1, 1, [], 0, 0), (2, .iload_n 1, 1, [], 0, 0), (3, .aload_n 0, 1, [], 0, 0),
  (4, .getfield 49, 3, [5, 11, 0], 0, 231), (7, .if_icmp .ge 23, 3, [30], 0, 0), (10, .aload_n 0, 1, [], 0, 0), (11, .aload_n 0, 1, [], 0, 0),
  (12, .iload_n 1, 1, [], 0, 0), (13, .invokevirtual 93, 3, [57, 2, 1, 1, 5], 0, 620), (16, .invokevirtual 117, 3, [72, 2, 2, 1, 5], 0, 680), (19, .ifCond .eq 5, 3, [24], 0, 0),
  (22, .iload_n 1, 1, [], 0, 0), (23, .ireturn, 1, [], 0, 0), (24, .iinc 1 1, 3, [], 1, 0), (27, .goto (-25), 3, [2], 0, 0),
  (30, .iconst (-1), 1, [], (-1), 0), (31, .ireturn, 1, [], 0, 0)])
/-- 72: WordMonoids$Monoid.isZero(I)Z -/
def m_Monoid_isZero : mv_M := (3, 2, [
  (0, .iconst 0, 1, [], 0, 0), (1, .istore_n 2, 1, [], 0, 0), (2, .iload_n 2, 1, [], 0, 0), (3, .iconst 3, 1, [], 3, 0),
  (4, .if_icmp .ge 31, 3, [35], 0, 0), (7, .aload_n 0, 1, [], 0, 0), (8, .iload_n 1, 1, [], 0, 0), (9, .iload_n 2, 1, [], 0, 0),
  (10, .invokevirtual 120, 3, [60, 3, 1, 1, 5], 0, 519), (13, .iload_n 1, 1, [], 0, 0), (14, .if_icmp .ne 13, 3, [27], 0, 0), (17, .aload_n 0, 1, [], 0, 0),
  (18, .iload_n 1, 1, [], 0, 0), (19, .iload_n 2, 1, [], 0, 0), (20, .invokevirtual 123, 3, [61, 3, 1, 1, 5], 0, 638), (23, .iload_n 1, 1, [], 0, 0),
  (24, .if_icmp .eq 5, 3, [29], 0, 0), (27, .iconst 0, 1, [], 0, 0), (28, .ireturn, 1, [], 0, 0), (29, .iinc 2 1, 3, [], 1, 0),
  (32, .goto (-30), 3, [2], 0, 0), (35, .iconst 1, 1, [], 1, 0), (36, .ireturn, 1, [], 0, 0)])
/-- 73: WordMonoids$Monoid.gatherFrom(II)I -/
def m_Monoid_gatherFrom : mv_M := (6, 1, [
  (0, .aload_n 0, 1, [], 0, 0), (1, .dup, 1, [], 0, 0), (2, .getfield 57, 3, [5, 13, 0], 0, 235), (5, .iconst 1, 1, [], 1, 0),
  (6, .iadd, 1, [], 0, 0), (7, .putfield 57, 3, [5, 13, 0], 0, 235), (10, .aload_n 0, 1, [], 0, 0), (11, .aload_n 0, 1, [], 0, 0),
  (12, .iload_n 1, 1, [], 0, 0), (13, .invokevirtual 93, 3, [57, 2, 1, 1, 5], 0, 620), (16, .iconst 0, 1, [], 0, 0), (17, .invokevirtual 126, 3, [78, 3, 1, 1, 5], 0, 634),
  (20, .istore_n 3, 1, [], 0, 0), (21, .iconst 0, 1, [], 0, 0), (22, .istore 4, 2, [], 0, 0), (24, .iload 4, 2, [], 0, 0),
  (26, .iload_n 3, 1, [], 0, 0), (27, .if_icmp .ge 79, 3, [106], 0, 0), (30, .iload 4, 2, [], 0, 0), (32, .sipush 256, 3, [], 256, 0),
  (35, .if_icmp .ge 71, 3, [106], 0, 0), (38, .iconst 0, 1, [], 0, 0), (39, .istore 5, 2, [], 0, 0), (41, .iload 5, 2, [], 0, 0),
  (43, .iconst 3, 1, [], 3, 0), (44, .if_icmp .ge 56, 3, [100], 0, 0), (47, .iload_n 2, 1, [], 0, 0), (48, .iconst 1, 1, [], 1, 0),
  (49, .if_icmp .eq 22, 3, [71], 0, 0), (52, .aload_n 0, 1, [], 0, 0), (53, .aload_n 0, 1, [], 0, 0), (54, .aload_n 0, 1, [], 0, 0),
  (55, .getfield 43, 3, [5, 9, 2], 0, 229), (58, .iload 4, 2, [], 0, 0), (60, .iaload, 1, [], 0, 0), (61, .iload 5, 2, [], 0, 0),
  (63, .invokevirtual 120, 3, [60, 3, 1, 1, 5], 0, 519), (66, .iload_n 3, 1, [], 0, 0), (67, .invokevirtual 126, 3, [78, 3, 1, 1, 5], 0, 634), (70, .istore_n 3, 1, [], 0, 0),
  (71, .iload_n 2, 1, [], 0, 0), (72, .ifCond .eq 22, 3, [94], 0, 0), (75, .aload_n 0, 1, [], 0, 0), (76, .aload_n 0, 1, [], 0, 0),
  (77, .aload_n 0, 1, [], 0, 0), (78, .getfield 43, 3, [5, 9, 2], 0, 229), (81, .iload 4, 2, [], 0, 0), (83, .iaload, 1, [], 0, 0),
  (84, .iload 5, 2, [], 0, 0), (86, .invokevirtual 123, 3, [61, 3, 1, 1, 5], 0, 638), (89, .iload_n 3, 1, [], 0, 0), (90, .invokevirtual 126, 3, [78, 3, 1, 1, 5], 0, 634),
  (93, .istore_n 3, 1, [], 0, 0), (94, .iinc 5 1, 3, [], 1, 0), (97, .goto (-56), 3, [41], 0, 0), (100, .iinc 4 1, 3, [], 1, 0),
  (103, .goto (-79), 3, [24], 0, 0), (106, .iload_n 3, 1, [], 0, 0), (107, .ireturn, 1, [], 0, 0)])
/-- 74: WordMonoids$Monoid.gatherAround(I)I -/
def m_Monoid_gatherAround : mv_M := (4, 1, [
  (0, .aload_n 0, 1, [], 0, 0), (1, .dup, 1, [], 0, 0), (2, .getfield 57, 3, [5, 13, 0], 0, 235), (5, .iconst 1, 1, [], 1, 0),
  (6, .iadd, 1, [], 0, 0), (7, .putfield 57, 3, [5, 13, 0], 0, 235), (10, .iconst 0, 1, [], 0, 0), (11, .istore_n 2, 1, [], 0, 0),
  (12, .iconst 0, 1, [], 0, 0), (13, .istore_n 3, 1, [], 0, 0), (14, .iload_n 3, 1, [], 0, 0), (15, .aload_n 0, 1, [], 0, 0),
  (16, .getfield 49, 3, [5, 11, 0], 0, 231), (19, .if_icmp .ge 28, 3, [47], 0, 0), (22, .aload_n 0, 1, [], 0, 0), (23, .iload_n 1, 1, [], 0, 0),
  (24, .aload_n 0, 1, [], 0, 0), (25, .iload_n 3, 1, [], 0, 0), (26, .invokevirtual 93, 3, [57, 2, 1, 1, 5], 0, 620), (29, .invokestatic 66, 3, [53, 2, 1, 0], 0, 523),
  (32, .iload_n 1, 1, [], 0, 0), (33, .invokestatic 66, 3, [53, 2, 1, 0], 0, 523), (36, .iload_n 2, 1, [], 0, 0), (37, .invokevirtual 126, 3, [78, 3, 1, 1, 5], 0, 634),
  (40, .istore_n 2, 1, [], 0, 0), (41, .iinc 3 1, 3, [], 1, 0), (44, .goto (-30), 3, [14], 0, 0), (47, .iload_n 2, 1, [], 0, 0),
  (48, .ireturn, 1, [], 0, 0)])
/-- 75: WordMonoids$Monoid.gatheredAt(I)I -/
def m_Monoid_gatheredAt : mv_M := (2, 1, [
  (0, .aload_n 0, 1, [], 0, 0), (1, .getfield 43, 3, [5, 9, 2], 0, 229), (4, .iload_n 1, 1, [], 0, 0), (5, .sipush 255, 3, [], 255, 0),
  (8, .iand, 1, [], 0, 0), (9, .iaload, 1, [], 0, 0), (10, .ireturn, 1, [], 0, 0)])
/-- 76: WordMonoids$Monoid.isGathered(I)Z -/
def m_Monoid_isGathered : mv_M := (2, 2, [
  (0, .aload_n 0, 1, [], 0, 0), (1, .getfield 40, 3, [5, 8, 2], 0, 228), (4, .aload_n 0, 1, [], 0, 0), (5, .iload_n 1, 1, [], 0, 0),
  (6, .invokevirtual 93, 3, [57, 2, 1, 1, 5], 0, 620), (9, .sipush 255, 3, [], 255, 0), (12, .iand, 1, [], 0, 0), (13, .iaload, 1, [], 0, 0),
  (14, .aload_n 0, 1, [], 0, 0), (15, .getfield 57, 3, [5, 13, 0], 0, 235), (18, .if_icmp .ne 7, 3, [25], 0, 0), (21, .iconst 1, 1, [], 1, 0),
  (22, .goto 4, 3, [26], 0, 0), (25, .iconst 0, 1, [], 0, 0), (26, .ireturn, 1, [], 0, 0)])
/-- 77: WordMonoids$Monoid.classesBy(I)I -/
def m_Monoid_classesBy : mv_M := (6, 1, [
  (0, .iconst 0, 1, [], 0, 0), (1, .istore_n 2, 1, [], 0, 0), (2, .iconst 0, 1, [], 0, 0), (3, .istore_n 3, 1, [], 0, 0),
  (4, .iload_n 3, 1, [], 0, 0), (5, .aload_n 0, 1, [], 0, 0), (6, .getfield 49, 3, [5, 11, 0], 0, 231), (9, .if_icmp .ge 91, 3, [100], 0, 0),
  (12, .iload_n 3, 1, [], 0, 0), (13, .sipush 256, 3, [], 256, 0), (16, .if_icmp .ge 84, 3, [100], 0, 0), (19, .aload_n 0, 1, [], 0, 0),
  (20, .getfield 46, 3, [5, 10, 2], 0, 230), (23, .iload_n 3, 1, [], 0, 0), (24, .aload_n 0, 1, [], 0, 0), (25, .iload_n 3, 1, [], 0, 0),
  (26, .iload_n 1, 1, [], 0, 0), (27, .invokevirtual 129, 3, [73, 3, 1, 1, 5], 0, 658), (30, .iastore, 1, [], 0, 0), (31, .iconst 1, 1, [], 1, 0),
  (32, .istore 4, 2, [], 0, 0), (34, .iconst 0, 1, [], 0, 0), (35, .istore 5, 2, [], 0, 0), (37, .iload 5, 2, [], 0, 0),
  (39, .iload_n 3, 1, [], 0, 0), (40, .if_icmp .ge 46, 3, [86], 0, 0), (43, .iload 4, 2, [], 0, 0), (45, .ifCond .eq 41, 3, [86], 0, 0),
  (48, .aload_n 0, 1, [], 0, 0), (49, .iload 5, 2, [], 0, 0), (51, .invokevirtual 132, 3, [76, 2, 2, 1, 5], 0, 659), (54, .ifCond .eq 19, 3, [73], 0, 0),
  (57, .aload_n 0, 1, [], 0, 0), (58, .getfield 46, 3, [5, 10, 2], 0, 230), (61, .iload 5, 2, [], 0, 0), (63, .iaload, 1, [], 0, 0),
  (64, .aload_n 0, 1, [], 0, 0), (65, .getfield 46, 3, [5, 10, 2], 0, 230), (68, .iload_n 3, 1, [], 0, 0), (69, .iaload, 1, [], 0, 0),
  (70, .if_icmp .eq 7, 3, [77], 0, 0), (73, .iconst 1, 1, [], 1, 0), (74, .goto 4, 3, [78], 0, 0), (77, .iconst 0, 1, [], 0, 0),
  (78, .istore 4, 2, [], 0, 0), (80, .iinc 5 1, 3, [], 1, 0), (83, .goto (-46), 3, [37], 0, 0), (86, .iload 4, 2, [], 0, 0),
  (88, .ifCond .eq 6, 3, [94], 0, 0), (91, .iinc 2 1, 3, [], 1, 0), (94, .iinc 3 1, 3, [], 1, 0), (97, .goto (-93), 3, [4], 0, 0),
  (100, .iload_n 2, 1, [], 0, 0), (101, .ireturn, 1, [], 0, 0)])
/-- 78: WordMonoids$Monoid.gather(II)I -/
def m_Monoid_gather : mv_M := (4, 1, [
  (0, .iload_n 1, 1, [], 0, 0), (1, .sipush 255, 3, [], 255, 0), (4, .iand, 1, [], 0, 0), (5, .istore_n 3, 1, [], 0, 0),
  (6, .aload_n 0, 1, [], 0, 0), (7, .getfield 40, 3, [5, 8, 2], 0, 228), (10, .iload_n 3, 1, [], 0, 0), (11, .iaload, 1, [], 0, 0),
  (12, .aload_n 0, 1, [], 0, 0), (13, .getfield 57, 3, [5, 13, 0], 0, 235), (16, .if_icmp .eq 14, 3, [30], 0, 0), (19, .iload_n 2, 1, [], 0, 0),
  (20, .ifCond .lt 10, 3, [30], 0, 0), (23, .iload_n 2, 1, [], 0, 0), (24, .sipush 256, 3, [], 256, 0), (27, .if_icmp .lt 5, 3, [32], 0, 0),
  (30, .iload_n 2, 1, [], 0, 0), (31, .ireturn, 1, [], 0, 0), (32, .aload_n 0, 1, [], 0, 0), (33, .getfield 40, 3, [5, 8, 2], 0, 228),
  (36, .iload_n 3, 1, [], 0, 0), (37, .aload_n 0, 1, [], 0, 0), (38, .getfield 57, 3, [5, 13, 0], 0, 235), (41, .iastore, 1, [], 0, 0),
  (42, .aload_n 0, 1, [], 0, 0), (43, .getfield 43, 3, [5, 9, 2], 0, 229), (46, .iload_n 2, 1, [], 0, 0), (47, .iload_n 3, 1, [], 0, 0),
  (48, .iastore, 1, [], 0, 0), (49, .iload_n 2, 1, [], 0, 0), (50, .iconst 1, 1, [], 1, 0), (51, .iadd, 1, [], 0, 0),
  (52, .ireturn, 1, [], 0, 0)])
/-- 79: WordMonoids$Monoid.codeOfLetter(I)I -/
def m_Monoid_codeOfLetter : mv_M := (5, 1, [
  (0, .iconst 0, 1, [], 0, 0), (1, .istore_n 2, 1, [], 0, 0), (2, .iconst 0, 1, [], 0, 0), (3, .istore_n 3, 1, [], 0, 0),
  (4, .iload_n 3, 1, [], 0, 0), (5, .iconst 4, 1, [], 4, 0), (6, .if_icmp .ge 46, 3, [52], 0, 0), (9, .iload_n 3, 1, [], 0, 0),
  (10, .aload_n 0, 1, [], 0, 0), (11, .getfield 14, 3, [5, 0, 2], 0, 219), (14, .getfield 135, 3, [3, 3, 0], 0, 200), (17, .if_icmp .ge 15, 3, [32], 0, 0),
  (20, .aload_n 0, 1, [], 0, 0), (21, .getfield 14, 3, [5, 0, 2], 0, 219), (24, .iload_n 3, 1, [], 0, 0), (25, .iload_n 1, 1, [], 0, 0),
  (26, .invokevirtual 138, 3, [47, 3, 1, 1, 3], 0, 506), (29, .goto 4, 3, [33], 0, 0), (32, .iload_n 3, 1, [], 0, 0), (33, .istore 4, 2, [], 0, 0),
  (35, .iload_n 2, 1, [], 0, 0), (36, .iload 4, 2, [], 0, 0), (38, .iconst 3, 1, [], 3, 0), (39, .iand, 1, [], 0, 0),
  (40, .iconst 2, 1, [], 2, 0), (41, .iload_n 3, 1, [], 0, 0), (42, .imul, 1, [], 0, 0), (43, .ishl, 1, [], 0, 0),
  (44, .ior, 1, [], 0, 0), (45, .istore_n 2, 1, [], 0, 0), (46, .iinc 3 1, 3, [], 1, 0), (49, .goto (-45), 3, [4], 0, 0),
  (52, .iload_n 2, 1, [], 0, 0), (53, .ireturn, 1, [], 0, 0)])
/-- 80: WordMonoids$Monoid.findElements()V -/
def m_Monoid_findElements : mv_M := (4, 0, [
  (0, .aload_n 0, 1, [], 0, 0), (1, .getfield 25, 3, [5, 3, 2], 0, 223), (4, .iconst (-1), 1, [], (-1), 0), (5, .invokestatic 141, 3, [0, 2, 0, 0], 0, 514),
  (8, .aload_n 0, 1, [], 0, 0), (9, .iconst 0, 1, [], 0, 0), (10, .putfield 49, 3, [5, 11, 0], 0, 231), (13, .aload_n 0, 1, [], 0, 0),
  (14, .iconst 0, 1, [], 0, 0), (15, .putfield 53, 3, [5, 12, 3], 0, 234), (18, .aload_n 0, 1, [], 0, 0), (19, .sipush 228, 3, [], 228, 0),
  (22, .iconst 0, 1, [], 0, 0), (23, .iconst 0, 1, [], 0, 0), (24, .invokevirtual 147, 3, [81, 4, 0, 1, 5], 0, 515), (27, .iconst 0, 1, [], 0, 0),
  (28, .istore_n 1, 1, [], 0, 0), (29, .iload_n 1, 1, [], 0, 0), (30, .aload_n 0, 1, [], 0, 0), (31, .getfield 49, 3, [5, 11, 0], 0, 231),
  (34, .if_icmp .ge 69, 3, [103], 0, 0), (37, .iload_n 1, 1, [], 0, 0), (38, .sipush 256, 3, [], 256, 0), (41, .if_icmp .ge 62, 3, [103], 0, 0),
  (44, .iconst 0, 1, [], 0, 0), (45, .istore_n 2, 1, [], 0, 0), (46, .iload_n 2, 1, [], 0, 0), (47, .iconst 3, 1, [], 3, 0),
  (48, .if_icmp .ge 49, 3, [97], 0, 0), (51, .aload_n 0, 1, [], 0, 0), (52, .aload_n 0, 1, [], 0, 0), (53, .getfield 22, 3, [5, 2, 2], 0, 222),
  (56, .iload_n 1, 1, [], 0, 0), (57, .iaload, 1, [], 0, 0), (58, .iload_n 2, 1, [], 0, 0), (59, .invokevirtual 120, 3, [60, 3, 1, 1, 5], 0, 519),
  (62, .istore_n 3, 1, [], 0, 0), (63, .iload_n 3, 1, [], 0, 0), (64, .sipush 228, 3, [], 228, 0), (67, .if_icmp .ne 8, 3, [75], 0, 0),
  (70, .aload_n 0, 1, [], 0, 0), (71, .iconst 1, 1, [], 1, 0), (72, .putfield 53, 3, [5, 12, 3], 0, 234), (75, .aload_n 0, 1, [], 0, 0),
  (76, .iload_n 3, 1, [], 0, 0), (77, .invokevirtual 151, 3, [58, 2, 1, 1, 5], 0, 526), (80, .iconst (-1), 1, [], (-1), 0), (81, .if_icmp .ne 10, 3, [91], 0, 0),
  (84, .aload_n 0, 1, [], 0, 0), (85, .iload_n 3, 1, [], 0, 0), (86, .iload_n 1, 1, [], 0, 0), (87, .iload_n 2, 1, [], 0, 0),
  (88, .invokevirtual 147, 3, [81, 4, 0, 1, 5], 0, 515), (91, .iinc 2 1, 3, [], 1, 0), (94, .goto (-48), 3, [46], 0, 0), (97, .iinc 1 1, 3, [], 1, 0),
  (100, .goto (-71), 3, [29], 0, 0), (103, .return_, 1, [], 0, 0)])
/-- 81: WordMonoids$Monoid.addElement(III)V -/
def m_Monoid_addElement : mv_M := (4, 0, [
  (0, .aload_n 0, 1, [], 0, 0), (1, .getfield 49, 3, [5, 11, 0], 0, 231), (4, .sipush 256, 3, [], 256, 0), (7, .if_icmp .ge 10, 3, [17], 0, 0),
  (10, .aload_n 0, 1, [], 0, 0), (11, .getfield 49, 3, [5, 11, 0], 0, 231), (14, .ifCond .ge 4, 3, [18], 0, 0), (17, .return_, 1, [], 0, 0),
  (18, .aload_n 0, 1, [], 0, 0), (19, .getfield 22, 3, [5, 2, 2], 0, 222), (22, .aload_n 0, 1, [], 0, 0), (23, .getfield 49, 3, [5, 11, 0], 0, 231),
  (26, .iload_n 1, 1, [], 0, 0), (27, .iastore, 1, [], 0, 0), (28, .aload_n 0, 1, [], 0, 0), (29, .getfield 25, 3, [5, 3, 2], 0, 223),
  (32, .iload_n 1, 1, [], 0, 0), (33, .sipush 255, 3, [], 255, 0), (36, .iand, 1, [], 0, 0), (37, .aload_n 0, 1, [], 0, 0),
  (38, .getfield 49, 3, [5, 11, 0], 0, 231), (41, .iastore, 1, [], 0, 0), (42, .aload_n 0, 1, [], 0, 0), (43, .getfield 28, 3, [5, 4, 2], 0, 224),
  (46, .aload_n 0, 1, [], 0, 0), (47, .getfield 49, 3, [5, 11, 0], 0, 231), (50, .iload_n 2, 1, [], 0, 0), (51, .iastore, 1, [], 0, 0),
  (52, .aload_n 0, 1, [], 0, 0), (53, .getfield 31, 3, [5, 5, 2], 0, 225), (56, .aload_n 0, 1, [], 0, 0), (57, .getfield 49, 3, [5, 11, 0], 0, 231),
  (60, .iload_n 3, 1, [], 0, 0), (61, .iastore, 1, [], 0, 0), (62, .aload_n 0, 1, [], 0, 0), (63, .getfield 34, 3, [5, 6, 2], 0, 226),
  (66, .aload_n 0, 1, [], 0, 0), (67, .getfield 49, 3, [5, 11, 0], 0, 231), (70, .aload_n 0, 1, [], 0, 0), (71, .getfield 49, 3, [5, 11, 0], 0, 231),
  (74, .ifCond .ne 7, 3, [81], 0, 0), (77, .iconst 0, 1, [], 0, 0), (78, .goto 15, 3, [93], 0, 0), (81, .aload_n 0, 1, [], 0, 0),
  (82, .getfield 34, 3, [5, 6, 2], 0, 226), (85, .iload_n 2, 1, [], 0, 0), (86, .sipush 255, 3, [], 255, 0), (89, .iand, 1, [], 0, 0),
  (90, .iaload, 1, [], 0, 0), (91, .iconst 1, 1, [], 1, 0), (92, .iadd, 1, [], 0, 0), (93, .iastore, 1, [], 0, 0),
  (94, .aload_n 0, 1, [], 0, 0), (95, .dup, 1, [], 0, 0), (96, .getfield 49, 3, [5, 11, 0], 0, 231), (99, .iconst 1, 1, [], 1, 0),
  (100, .iadd, 1, [], 0, 0), (101, .putfield 49, 3, [5, 11, 0], 0, 231), (104, .return_, 1, [], 0, 0)])
/-- 82: WordMonoids$Monoid.findOmega(I)I -/
def m_Monoid_findOmega : mv_M := (4, 1, [
  (0, .iload_n 1, 1, [], 0, 0), (1, .istore_n 2, 1, [], 0, 0), (2, .iconst 1, 1, [], 1, 0), (3, .istore_n 3, 1, [], 0, 0),
  (4, .iload_n 3, 1, [], 0, 0), (5, .sipush 256, 3, [], 256, 0), (8, .if_icmp .ge 22, 3, [30], 0, 0), (11, .iload_n 2, 1, [], 0, 0),
  (12, .invokestatic 96, 3, [54, 1, 2, 0], 0, 534), (15, .ifCond .ne 15, 3, [30], 0, 0), (18, .iload_n 2, 1, [], 0, 0), (19, .iload_n 1, 1, [], 0, 0),
  (20, .invokestatic 66, 3, [53, 2, 1, 0], 0, 523), (23, .istore_n 2, 1, [], 0, 0), (24, .iinc 3 1, 3, [], 1, 0), (27, .goto (-23), 3, [4], 0, 0),
  (30, .iload_n 2, 1, [], 0, 0), (31, .ireturn, 1, [], 0, 0)])
/-- 83: WordMonoids$Laws.findWrong(I)Z -/
def m_Laws_findWrong : mv_M := (6, 2, [
  (0, .iload_n 1, 1, [], 0, 0), (1, .ifCond .eq 13, 3, [14], 0, 0), (4, .iload_n 1, 1, [], 0, 0), (5, .iconst 1, 1, [], 1, 0),
  (6, .if_icmp .eq 8, 3, [14], 0, 0), (9, .iload_n 1, 1, [], 0, 0), (10, .iconst 3, 1, [], 3, 0), (11, .if_icmp .ne 7, 3, [18], 0, 0),
  (14, .iconst 1, 1, [], 1, 0), (15, .goto 4, 3, [19], 0, 0), (18, .iconst 0, 1, [], 0, 0), (19, .istore_n 2, 1, [], 0, 0),
  (20, .iload_n 2, 1, [], 0, 0), (21, .ifCond .eq 7, 3, [28], 0, 0), (24, .iconst 1, 1, [], 1, 0), (25, .goto 10, 3, [35], 0, 0),
  (28, .aload_n 0, 1, [], 0, 0), (29, .getfield 12, 3, [2, 0, 2], 0, 268), (32, .getfield 28, 3, [5, 11, 0], 0, 232), (35, .istore_n 3, 1, [], 0, 0),
  (36, .iconst 0, 1, [], 0, 0), (37, .istore 4, 2, [], 0, 0), (39, .iload 4, 2, [], 0, 0), (41, .aload_n 0, 1, [], 0, 0),
  (42, .getfield 12, 3, [2, 0, 2], 0, 268), (45, .getfield 28, 3, [5, 11, 0], 0, 232), (48, .if_icmp .ge 96, 3, [144], 0, 0), (51, .iload_n 1, 1, [], 0, 0),
  (52, .bipush 7, 2, [], 7, 0), (54, .if_icmp .ne 35, 3, [89], 0, 0), (57, .aload_n 0, 1, [], 0, 0), (58, .getfield 12, 3, [2, 0, 2], 0, 268),
  (61, .iload 4, 2, [], 0, 0), (63, .invokevirtual 31, 3, [64, 2, 2, 1, 5], 0, 692), (66, .ifCond .eq 23, 3, [89], 0, 0), (69, .aload_n 0, 1, [], 0, 0),
  (70, .aload_n 0, 1, [], 0, 0), (71, .getfield 12, 3, [2, 0, 2], 0, 268), (74, .aload_n 0, 1, [], 0, 0), (75, .getfield 12, 3, [2, 0, 2], 0, 268),
  (78, .iload 4, 2, [], 0, 0), (80, .invokevirtual 35, 3, [57, 2, 1, 1, 5], 0, 696), (83, .invokevirtual 39, 3, [74, 2, 1, 1, 5], 0, 697), (86, .putfield 18, 3, [2, 1, 0], 0, 270),
  (89, .iconst 0, 1, [], 0, 0), (90, .istore 5, 2, [], 0, 0), (92, .iload 5, 2, [], 0, 0), (94, .iload_n 3, 1, [], 0, 0),
  (95, .if_icmp .ge 43, 3, [138], 0, 0), (98, .aload_n 0, 1, [], 0, 0), (99, .iload_n 1, 1, [], 0, 0), (100, .iload 4, 2, [], 0, 0),
  (102, .iload 5, 2, [], 0, 0), (104, .invokevirtual 42, 3, [84, 4, 2, 1, 2], 0, 701), (107, .ifCond .ne 25, 3, [132], 0, 0), (110, .aload_n 0, 1, [], 0, 0),
  (111, .iload 4, 2, [], 0, 0), (113, .putfield 22, 3, [2, 2, 0], 0, 271), (116, .aload_n 0, 1, [], 0, 0), (117, .iload_n 2, 1, [], 0, 0),
  (118, .ifCond .eq 7, 3, [125], 0, 0), (121, .iconst (-1), 1, [], (-1), 0), (122, .goto 5, 3, [127], 0, 0), (125, .iload 5, 2, [], 0, 0),
  (127, .putfield 25, 3, [2, 3, 0], 0, 273), (130, .iconst 1, 1, [], 1, 0), (131, .ireturn, 1, [], 0, 0), (132, .iinc 5 1, 3, [], 1, 0),
  (135, .goto (-43), 3, [92], 0, 0), (138, .iinc 4 1, 3, [], 1, 0), (141, .goto (-102), 3, [39], 0, 0), (144, .iconst 0, 1, [], 0, 0),
  (145, .ireturn, 1, [], 0, 0)])
/-- 84: WordMonoids$Laws.isLawful(III)Z -/
def m_Laws_isLawful : mv_M := (6, 2, [
  (0, .aload_n 0, 1, [], 0, 0), (1, .getfield 12, 3, [2, 0, 2], 0, 268), (4, .iload_n 2, 1, [], 0, 0), (5, .invokevirtual 35, 3, [57, 2, 1, 1, 5], 0, 696),
  (8, .istore 4, 2, [], 0, 0), (10, .aload_n 0, 1, [], 0, 0), (11, .getfield 12, 3, [2, 0, 2], 0, 268), (14, .iload_n 3, 1, [], 0, 0),
  (15, .invokevirtual 35, 3, [57, 2, 1, 1, 5], 0, 696), (18, .istore 5, 2, [], 0, 0), (20, .iload_n 1, 1, [], 0, 0), (21, .tableswitch 152 0 11 #[63, 95, 113, 136, 142, 142, 142, 152, 152, 152, 152, 142], 63, [173, 84, 116, 134, 157, 163, 163, 163, 173, 173, 173, 173, 163], 0, 0),
  (84, .aload_n 0, 1, [], 0, 0), (85, .getfield 12, 3, [2, 0, 2], 0, 268), (88, .iload 4, 2, [], 0, 0), (90, .invokevirtual 46, 3, [59, 2, 1, 1, 5], 0, 705),
  (93, .iload 4, 2, [], 0, 0), (95, .invokestatic 49, 3, [53, 2, 1, 0], 0, 706), (98, .aload_n 0, 1, [], 0, 0), (99, .getfield 12, 3, [2, 0, 2], 0, 268),
  (102, .iload 4, 2, [], 0, 0), (104, .invokevirtual 46, 3, [59, 2, 1, 1, 5], 0, 705), (107, .if_icmp .ne 7, 3, [114], 0, 0), (110, .iconst 1, 1, [], 1, 0),
  (111, .goto 4, 3, [115], 0, 0), (114, .iconst 0, 1, [], 0, 0), (115, .ireturn, 1, [], 0, 0), (116, .iload_n 2, 1, [], 0, 0),
  (117, .ifCond .eq 11, 3, [128], 0, 0), (120, .iload 4, 2, [], 0, 0), (122, .invokestatic 53, 3, [54, 1, 2, 0], 0, 707), (125, .ifCond .ne 7, 3, [132], 0, 0),
  (128, .iconst 1, 1, [], 1, 0), (129, .goto 4, 3, [133], 0, 0), (132, .iconst 0, 1, [], 0, 0), (133, .ireturn, 1, [], 0, 0),
  (134, .iload 4, 2, [], 0, 0), (136, .iload 5, 2, [], 0, 0), (138, .invokestatic 49, 3, [53, 2, 1, 0], 0, 706), (141, .iload 5, 2, [], 0, 0),
  (143, .iload 4, 2, [], 0, 0), (145, .invokestatic 49, 3, [53, 2, 1, 0], 0, 706), (148, .if_icmp .ne 7, 3, [155], 0, 0), (151, .iconst 1, 1, [], 1, 0),
  (152, .goto 4, 3, [156], 0, 0), (155, .iconst 0, 1, [], 0, 0), (156, .ireturn, 1, [], 0, 0), (157, .iload 4, 2, [], 0, 0),
  (159, .invokestatic 53, 3, [54, 1, 2, 0], 0, 707), (162, .ireturn, 1, [], 0, 0), (163, .aload_n 0, 1, [], 0, 0), (164, .iload_n 1, 1, [], 0, 0),
  (165, .iload 4, 2, [], 0, 0), (167, .iload 5, 2, [], 0, 0), (169, .invokevirtual 56, 3, [85, 4, 2, 1, 2], 0, 708), (172, .ireturn, 1, [], 0, 0),
  (173, .aload_n 0, 1, [], 0, 0), (174, .getfield 12, 3, [2, 0, 2], 0, 268), (177, .iload_n 2, 1, [], 0, 0), (178, .invokevirtual 31, 3, [64, 2, 2, 1, 5], 0, 692),
  (181, .ifCond .eq 15, 3, [196], 0, 0), (184, .aload_n 0, 1, [], 0, 0), (185, .iload_n 1, 1, [], 0, 0), (186, .iload 4, 2, [], 0, 0),
  (188, .iload 5, 2, [], 0, 0), (190, .invokevirtual 59, 3, [86, 4, 2, 1, 2], 0, 712), (193, .ifCond .eq 7, 3, [200], 0, 0), (196, .iconst 1, 1, [], 1, 0),
  (197, .goto 4, 3, [201], 0, 0), (200, .iconst 0, 1, [], 0, 0), (201, .ireturn, 1, [], 0, 0)])
/-- 85: WordMonoids$Laws.isLawfulByOmegas(III)Z -/
def m_Laws_isLawfulByOmegas : mv_M := (5, 2, [
  (0, .aload_n 0, 1, [], 0, 0), (1, .getfield 12, 3, [2, 0, 2], 0, 268), (4, .iload_n 2, 1, [], 0, 0), (5, .iload_n 3, 1, [], 0, 0),
  (6, .invokestatic 49, 3, [53, 2, 1, 0], 0, 706), (9, .invokevirtual 46, 3, [59, 2, 1, 1, 5], 0, 705), (12, .istore 4, 2, [], 0, 0), (14, .iload_n 1, 1, [], 0, 0),
  (15, .tableswitch 87 4 6 #[25, 42, 59], 25, [102, 40, 57, 74], 4, 0), (40, .iload 4, 2, [], 0, 0), (42, .iload_n 2, 1, [], 0, 0), (43, .invokestatic 49, 3, [53, 2, 1, 0], 0, 706),
  (46, .iload 4, 2, [], 0, 0), (48, .if_icmp .ne 7, 3, [55], 0, 0), (51, .iconst 1, 1, [], 1, 0), (52, .goto 4, 3, [56], 0, 0),
  (55, .iconst 0, 1, [], 0, 0), (56, .ireturn, 1, [], 0, 0), (57, .iload_n 3, 1, [], 0, 0), (58, .iload 4, 2, [], 0, 0),
  (60, .invokestatic 49, 3, [53, 2, 1, 0], 0, 706), (63, .iload 4, 2, [], 0, 0), (65, .if_icmp .ne 7, 3, [72], 0, 0), (68, .iconst 1, 1, [], 1, 0),
  (69, .goto 4, 3, [73], 0, 0), (72, .iconst 0, 1, [], 0, 0), (73, .ireturn, 1, [], 0, 0), (74, .iload 4, 2, [], 0, 0),
  (76, .iload_n 2, 1, [], 0, 0), (77, .invokestatic 49, 3, [53, 2, 1, 0], 0, 706), (80, .iload 4, 2, [], 0, 0), (82, .if_icmp .ne 18, 3, [100], 0, 0),
  (85, .iload_n 3, 1, [], 0, 0), (86, .iload 4, 2, [], 0, 0), (88, .invokestatic 49, 3, [53, 2, 1, 0], 0, 706), (91, .iload 4, 2, [], 0, 0),
  (93, .if_icmp .ne 7, 3, [100], 0, 0), (96, .iconst 1, 1, [], 1, 0), (97, .goto 4, 3, [101], 0, 0), (100, .iconst 0, 1, [], 0, 0),
  (101, .ireturn, 1, [], 0, 0), (102, .iload 4, 2, [], 0, 0), (104, .aload_n 0, 1, [], 0, 0), (105, .getfield 12, 3, [2, 0, 2], 0, 268),
  (108, .iload_n 3, 1, [], 0, 0), (109, .iload_n 2, 1, [], 0, 0), (110, .invokestatic 49, 3, [53, 2, 1, 0], 0, 706), (113, .invokevirtual 46, 3, [59, 2, 1, 1, 5], 0, 705),
  (116, .invokestatic 49, 3, [53, 2, 1, 0], 0, 706), (119, .iload 4, 2, [], 0, 0), (121, .invokestatic 49, 3, [53, 2, 1, 0], 0, 706), (124, .iload 4, 2, [], 0, 0),
  (126, .if_icmp .ne 7, 3, [133], 0, 0), (129, .iconst 1, 1, [], 1, 0), (130, .goto 4, 3, [134], 0, 0), (133, .iconst 0, 1, [], 0, 0),
  (134, .ireturn, 1, [], 0, 0)])
/-- 86: WordMonoids$Laws.isLawfulOfTie(III)Z -/
def m_Laws_isLawfulOfTie : mv_M := (4, 2, [
  (0, .iload_n 1, 1, [], 0, 0), (1, .tableswitch 71 7 9 #[27, 41, 56], 27, [72, 28, 42, 57], 7, 0), (28, .aload_n 0, 1, [], 0, 0), (29, .iload_n 2, 1, [], 0, 0),
  (30, .iload_n 3, 1, [], 0, 0), (31, .invokestatic 49, 3, [53, 2, 1, 0], 0, 706), (34, .iload_n 2, 1, [], 0, 0), (35, .invokestatic 49, 3, [53, 2, 1, 0], 0, 706),
  (38, .invokevirtual 62, 3, [87, 2, 2, 1, 2], 0, 716), (41, .ireturn, 1, [], 0, 0), (42, .iload_n 3, 1, [], 0, 0), (43, .iload_n 2, 1, [], 0, 0),
  (44, .invokestatic 49, 3, [53, 2, 1, 0], 0, 706), (47, .iload_n 2, 1, [], 0, 0), (48, .if_icmp .ne 7, 3, [55], 0, 0), (51, .iconst 1, 1, [], 1, 0),
  (52, .goto 4, 3, [56], 0, 0), (55, .iconst 0, 1, [], 0, 0), (56, .ireturn, 1, [], 0, 0), (57, .iload_n 2, 1, [], 0, 0),
  (58, .iload_n 3, 1, [], 0, 0), (59, .invokestatic 49, 3, [53, 2, 1, 0], 0, 706), (62, .iload_n 2, 1, [], 0, 0), (63, .if_icmp .ne 7, 3, [70], 0, 0),
  (66, .iconst 1, 1, [], 1, 0), (67, .goto 4, 3, [71], 0, 0), (70, .iconst 0, 1, [], 0, 0), (71, .ireturn, 1, [], 0, 0),
  (72, .iload_n 2, 1, [], 0, 0), (73, .iload_n 3, 1, [], 0, 0), (74, .invokestatic 49, 3, [53, 2, 1, 0], 0, 706), (77, .iload_n 2, 1, [], 0, 0),
  (78, .invokestatic 49, 3, [53, 2, 1, 0], 0, 706), (81, .iload_n 2, 1, [], 0, 0), (82, .if_icmp .ne 7, 3, [89], 0, 0), (85, .iconst 1, 1, [], 1, 0),
  (86, .goto 4, 3, [90], 0, 0), (89, .iconst 0, 1, [], 0, 0), (90, .ireturn, 1, [], 0, 0)])
/-- 87: WordMonoids$Laws.isQuietAround(I)Z -/
def m_Laws_isQuietAround : mv_M := (4, 2, [
  (0, .iload_n 1, 1, [], 0, 0), (1, .invokestatic 53, 3, [54, 1, 2, 0], 0, 707), (4, .ifCond .ne 5, 3, [9], 0, 0), (7, .iconst 0, 1, [], 0, 0),
  (8, .ireturn, 1, [], 0, 0), (9, .iconst 0, 1, [], 0, 0), (10, .istore_n 2, 1, [], 0, 0), (11, .iload_n 2, 1, [], 0, 0),
  (12, .aload_n 0, 1, [], 0, 0), (13, .getfield 18, 3, [2, 1, 0], 0, 270), (16, .if_icmp .ge 33, 3, [49], 0, 0), (19, .aload_n 0, 1, [], 0, 0),
  (20, .getfield 12, 3, [2, 0, 2], 0, 268), (23, .iload_n 2, 1, [], 0, 0), (24, .invokevirtual 65, 3, [75, 2, 1, 1, 5], 0, 720), (27, .istore_n 3, 1, [], 0, 0),
  (28, .iload_n 1, 1, [], 0, 0), (29, .iload_n 3, 1, [], 0, 0), (30, .invokestatic 49, 3, [53, 2, 1, 0], 0, 706), (33, .iload_n 3, 1, [], 0, 0),
  (34, .iload_n 1, 1, [], 0, 0), (35, .invokestatic 49, 3, [53, 2, 1, 0], 0, 706), (38, .if_icmp .eq 5, 3, [43], 0, 0), (41, .iconst 0, 1, [], 0, 0),
  (42, .ireturn, 1, [], 0, 0), (43, .iinc 2 1, 3, [], 1, 0), (46, .goto (-35), 3, [11], 0, 0), (49, .iconst 1, 1, [], 1, 0),
  (50, .ireturn, 1, [], 0, 0)])
/-- 88: WordMonoids$Known.tellsTaken(LWordMonoids$Machine;II)Z -/
def m_Known_tellsTaken : mv_M := (6, 2, [
  (0, .aload_n 0, 1, [], 0, 0), (1, .getfield 11, 3, [1, 0, 2], 0, 290), (4, .iconst 0, 1, [], 0, 0), (5, .invokestatic 19, 3, [1, 2, 0, 0], 0, 736),
  (8, .aload_n 0, 1, [], 0, 0), (9, .aload_n 1, 1, [], 0, 0), (10, .iload_n 2, 1, [], 0, 0), (11, .iload_n 3, 1, [], 0, 0),
  (12, .iconst 0, 1, [], 0, 0), (13, .invokevirtual 25, 3, [90, 5, 0, 1, 1], 0, 739), (16, .aload_n 1, 1, [], 0, 0), (17, .invokevirtual 29, 3, [11, 1, 1, 1, 4], 0, 757),
  (20, .aload_n 1, 1, [], 0, 0), (21, .getfield 35, 3, [4, 3, 0], 0, 330), (24, .iconst (-1), 1, [], (-1), 0), (25, .ixor, 1, [], 0, 0),
  (26, .iand, 1, [], 0, 0), (27, .istore 4, 2, [], 0, 0), (29, .iconst 0, 1, [], 0, 0), (30, .istore 5, 2, [], 0, 0),
  (32, .iload 5, 2, [], 0, 0), (34, .sipush 4609, 3, [], 4609, 0), (37, .if_icmp .ge 39, 3, [76], 0, 0), (40, .aload_n 0, 1, [], 0, 0),
  (41, .getfield 11, 3, [1, 0, 2], 0, 290), (44, .iload 5, 2, [], 0, 0), (46, .baload, 1, [21], 0, 0), (47, .aload_n 1, 1, [], 0, 0),
  (48, .getfield 35, 3, [4, 3, 0], 0, 330), (51, .iand, 1, [], 0, 0), (52, .ifCond .eq 18, 3, [70], 0, 0), (55, .aload_n 0, 1, [], 0, 0),
  (56, .getfield 11, 3, [1, 0, 2], 0, 290), (59, .iload 5, 2, [], 0, 0), (61, .baload, 1, [21], 0, 0), (62, .iload 4, 2, [], 0, 0),
  (64, .iand, 1, [], 0, 0), (65, .ifCond .eq 5, 3, [70], 0, 0), (68, .iconst 0, 1, [], 0, 0), (69, .ireturn, 1, [], 0, 0),
  (70, .iinc 5 1, 3, [], 1, 0), (73, .goto (-41), 3, [32], 0, 0), (76, .iconst 1, 1, [], 1, 0), (77, .ireturn, 1, [], 0, 0)])
/-- 89: WordMonoids$Known.keepsApart(LWordMonoids$Machine;LWordMonoids$Machine;II)Z -/
def m_Known_keepsApart : mv_M := (6, 2, [
  (0, .aload_n 0, 1, [], 0, 0), (1, .getfield 11, 3, [1, 0, 2], 0, 290), (4, .iconst 0, 1, [], 0, 0), (5, .invokestatic 19, 3, [1, 2, 0, 0], 0, 736),
  (8, .aload_n 0, 1, [], 0, 0), (9, .aload_n 1, 1, [], 0, 0), (10, .iload_n 3, 1, [], 0, 0), (11, .iload 4, 2, [], 0, 0),
  (13, .iconst 0, 1, [], 0, 0), (14, .invokevirtual 25, 3, [90, 5, 0, 1, 1], 0, 739), (17, .aload_n 0, 1, [], 0, 0), (18, .aload_n 2, 1, [], 0, 0),
  (19, .iload_n 3, 1, [], 0, 0), (20, .iload 4, 2, [], 0, 0), (22, .iconst 4, 1, [], 4, 0), (23, .invokevirtual 25, 3, [90, 5, 0, 1, 1], 0, 739),
  (26, .iconst 0, 1, [], 0, 0), (27, .istore 5, 2, [], 0, 0), (29, .iload 5, 2, [], 0, 0), (31, .sipush 4609, 3, [], 4609, 0),
  (34, .if_icmp .ge 43, 3, [77], 0, 0), (37, .aload_n 0, 1, [], 0, 0), (38, .getfield 11, 3, [1, 0, 2], 0, 290), (41, .iload 5, 2, [], 0, 0),
  (43, .baload, 1, [21], 0, 0), (44, .aload_n 1, 1, [], 0, 0), (45, .getfield 35, 3, [4, 3, 0], 0, 330), (48, .iand, 1, [], 0, 0),
  (49, .ifCond .eq 22, 3, [71], 0, 0), (52, .aload_n 0, 1, [], 0, 0), (53, .getfield 11, 3, [1, 0, 2], 0, 290), (56, .iload 5, 2, [], 0, 0),
  (58, .baload, 1, [21], 0, 0), (59, .aload_n 2, 1, [], 0, 0), (60, .getfield 35, 3, [4, 3, 0], 0, 330), (63, .iconst 4, 1, [], 4, 0),
  (64, .ishl, 1, [], 0, 0), (65, .iand, 1, [], 0, 0), (66, .ifCond .eq 5, 3, [71], 0, 0), (69, .iconst 0, 1, [], 0, 0),
  (70, .ireturn, 1, [], 0, 0), (71, .iinc 5 1, 3, [], 1, 0), (74, .goto (-45), 3, [29], 0, 0), (77, .iconst 1, 1, [], 1, 0),
  (78, .ireturn, 1, [], 0, 0)])
/-- 90: WordMonoids$Known.explore(LWordMonoids$Machine;III)V -/
def m_Known_explore : mv_M := (10, 0, [
  (0, .aload_n 0, 1, [], 0, 0), (1, .iconst 0, 1, [], 0, 0), (2, .aload_n 1, 1, [], 0, 0), (3, .getfield 39, 3, [4, 2, 0], 0, 327),
  (6, .iload 4, 2, [], 0, 0), (8, .iconst 0, 1, [], 0, 0), (9, .invokevirtual 42, 3, [91, 5, 1, 1, 1], 0, 743), (12, .istore 5, 2, [], 0, 0),
  (14, .iconst 0, 1, [], 0, 0), (15, .istore 6, 2, [], 0, 0), (17, .iload 6, 2, [], 0, 0), (19, .iload 5, 2, [], 0, 0),
  (21, .if_icmp .ge 81, 3, [102], 0, 0), (24, .iload 6, 2, [], 0, 0), (26, .sipush 6460, 3, [], 6460, 0), (29, .if_icmp .ge 73, 3, [102], 0, 0),
  (32, .aload_n 0, 1, [], 0, 0), (33, .getfield 15, 3, [1, 1, 2], 0, 291), (36, .iload 6, 2, [], 0, 0), (38, .iaload, 1, [], 0, 0),
  (39, .iconst 4, 1, [], 4, 0), (40, .idiv, 1, [], 0, 0), (41, .istore 7, 2, [], 0, 0), (43, .aload_n 0, 1, [], 0, 0),
  (44, .getfield 15, 3, [1, 1, 2], 0, 291), (47, .iload 6, 2, [], 0, 0), (49, .iaload, 1, [], 0, 0), (50, .iconst 4, 1, [], 4, 0),
  (51, .irem, 1, [], 0, 0), (52, .istore 8, 2, [], 0, 0), (54, .iconst 0, 1, [], 0, 0), (55, .istore 9, 2, [], 0, 0),
  (57, .iload 9, 2, [], 0, 0), (59, .iconst 3, 1, [], 3, 0), (60, .if_icmp .ge 36, 3, [96], 0, 0), (63, .aload_n 0, 1, [], 0, 0),
  (64, .iload_n 2, 1, [], 0, 0), (65, .iload_n 3, 1, [], 0, 0), (66, .iload 7, 2, [], 0, 0), (68, .iload 9, 2, [], 0, 0),
  (70, .invokestatic 46, 3, [92, 4, 1, 0], 0, 747), (73, .aload_n 1, 1, [], 0, 0), (74, .iload 8, 2, [], 0, 0), (76, .iload 9, 2, [], 0, 0),
  (78, .invokevirtual 49, 3, [13, 3, 1, 1, 4], 0, 756), (81, .iload 4, 2, [], 0, 0), (83, .iload 5, 2, [], 0, 0), (85, .invokevirtual 42, 3, [91, 5, 1, 1, 1], 0, 743),
  (88, .istore 5, 2, [], 0, 0), (90, .iinc 9 1, 3, [], 1, 0), (93, .goto (-36), 3, [57], 0, 0), (96, .iinc 6 1, 3, [], 1, 0),
  (99, .goto (-82), 3, [17], 0, 0), (102, .return_, 1, [], 0, 0)])
/-- 91: WordMonoids$Known.reach(IIII)I -/
def m_Known_reach : mv_M := (6, 1, [
  (0, .iload_n 1, 1, [], 0, 0), (1, .ifCond .lt 23, 3, [24], 0, 0), (4, .iload_n 1, 1, [], 0, 0), (5, .sipush 4609, 3, [], 4609, 0),
  (8, .if_icmp .ge 16, 3, [24], 0, 0), (11, .iload 4, 2, [], 0, 0), (13, .ifCond .lt 11, 3, [24], 0, 0), (16, .iload 4, 2, [], 0, 0),
  (18, .sipush 6460, 3, [], 6460, 0), (21, .if_icmp .lt 6, 3, [27], 0, 0), (24, .iload 4, 2, [], 0, 0), (26, .ireturn, 1, [], 0, 0),
  (27, .iconst 1, 1, [], 1, 0), (28, .iload_n 2, 1, [], 0, 0), (29, .iload_n 3, 1, [], 0, 0), (30, .iadd, 1, [], 0, 0),
  (31, .ishl, 1, [], 0, 0), (32, .istore 5, 2, [], 0, 0), (34, .aload_n 0, 1, [], 0, 0), (35, .getfield 11, 3, [1, 0, 2], 0, 290),
  (38, .iload_n 1, 1, [], 0, 0), (39, .baload, 1, [21], 0, 0), (40, .iload 5, 2, [], 0, 0), (42, .iand, 1, [], 0, 0),
  (43, .ifCond .eq 6, 3, [49], 0, 0), (46, .iload 4, 2, [], 0, 0), (48, .ireturn, 1, [], 0, 0), (49, .aload_n 0, 1, [], 0, 0),
  (50, .getfield 11, 3, [1, 0, 2], 0, 290), (53, .iload_n 1, 1, [], 0, 0), (54, .dup2, 1, [], 0, 0), (55, .baload, 1, [21], 0, 0),
  (56, .iload 5, 2, [], 0, 0), (58, .i2b, 1, [], 0, 0), (59, .ior, 1, [], 0, 0), (60, .i2b, 1, [], 0, 0),
  (61, .bastore, 1, [21], 0, 0), (62, .aload_n 0, 1, [], 0, 0), (63, .getfield 15, 3, [1, 1, 2], 0, 291), (66, .iload 4, 2, [], 0, 0),
  (68, .iload_n 1, 1, [], 0, 0), (69, .iconst 4, 1, [], 4, 0), (70, .imul, 1, [], 0, 0), (71, .iload_n 2, 1, [], 0, 0),
  (72, .iadd, 1, [], 0, 0), (73, .iastore, 1, [], 0, 0), (74, .iload 4, 2, [], 0, 0), (76, .iconst 1, 1, [], 1, 0),
  (77, .iadd, 1, [], 0, 0), (78, .ireturn, 1, [], 0, 0)])
/-- 92: WordMonoids$Known.nextSort(IIII)I -/
def m_Known_nextSort : mv_M := (4, 1, [
  (0, .iload_n 1, 1, [], 0, 0), (1, .ifCond .ne 5, 3, [6], 0, 0), (4, .iconst 0, 1, [], 0, 0), (5, .ireturn, 1, [], 0, 0),
  (6, .iload_n 1, 1, [], 0, 0), (7, .iconst 1, 1, [], 1, 0), (8, .if_icmp .ne 9, 3, [17], 0, 0), (11, .iload_n 2, 1, [], 0, 0),
  (12, .iconst 1, 1, [], 1, 0), (13, .iload_n 3, 1, [], 0, 0), (14, .ishl, 1, [], 0, 0), (15, .ior, 1, [], 0, 0),
  (16, .ireturn, 1, [], 0, 0), (17, .iload_n 0, 1, [], 0, 0), (18, .ifCond .ne 11, 3, [29], 0, 0), (21, .iload_n 2, 1, [], 0, 0),
  (22, .iload_n 3, 1, [], 0, 0), (23, .invokestatic 53, 3, [93, 2, 1, 0], 0, 750), (26, .goto 8, 3, [34], 0, 0), (29, .iload_n 2, 1, [], 0, 0),
  (30, .iload_n 3, 1, [], 0, 0), (31, .invokestatic 56, 3, [94, 2, 1, 0], 0, 753), (34, .ireturn, 1, [], 0, 0)])
/-- 93: WordMonoids$Known.nextSubwords(II)I -/
def m_Known_nextSubwords : mv_M := (4, 1, [
  (0, .iload_n 0, 1, [], 0, 0), (1, .iconst 1, 1, [], 1, 0), (2, .iload_n 1, 1, [], 0, 0), (3, .ishl, 1, [], 0, 0),
  (4, .ior, 1, [], 0, 0), (5, .istore_n 2, 1, [], 0, 0), (6, .iconst 0, 1, [], 0, 0), (7, .istore_n 3, 1, [], 0, 0),
  (8, .iload_n 3, 1, [], 0, 0), (9, .iconst 3, 1, [], 3, 0), (10, .if_icmp .ge 30, 3, [40], 0, 0), (13, .iload_n 0, 1, [], 0, 0),
  (14, .iload_n 3, 1, [], 0, 0), (15, .ishr, 1, [], 0, 0), (16, .iconst 1, 1, [], 1, 0), (17, .iand, 1, [], 0, 0),
  (18, .iconst 1, 1, [], 1, 0), (19, .if_icmp .ne 15, 3, [34], 0, 0), (22, .iload_n 2, 1, [], 0, 0), (23, .iconst 1, 1, [], 1, 0),
  (24, .iconst 3, 1, [], 3, 0), (25, .iconst 3, 1, [], 3, 0), (26, .iload_n 3, 1, [], 0, 0), (27, .imul, 1, [], 0, 0),
  (28, .iadd, 1, [], 0, 0), (29, .iload_n 1, 1, [], 0, 0), (30, .iadd, 1, [], 0, 0), (31, .ishl, 1, [], 0, 0),
  (32, .ior, 1, [], 0, 0), (33, .istore_n 2, 1, [], 0, 0), (34, .iinc 3 1, 3, [], 1, 0), (37, .goto (-29), 3, [8], 0, 0),
  (40, .iload_n 2, 1, [], 0, 0), (41, .ireturn, 1, [], 0, 0)])
/-- 94: WordMonoids$Known.nextNeighbours(II)I -/
def m_Known_nextNeighbours : mv_M := (5, 1, [
  (0, .iload_n 0, 1, [], 0, 0), (1, .ifCond .ne 11, 3, [12], 0, 0), (4, .iconst 1, 1, [], 1, 0), (5, .iload_n 1, 1, [], 0, 0),
  (6, .iadd, 1, [], 0, 0), (7, .iconst 3, 1, [], 3, 0), (8, .iload_n 1, 1, [], 0, 0), (9, .imul, 1, [], 0, 0),
  (10, .iadd, 1, [], 0, 0), (11, .ireturn, 1, [], 0, 0), (12, .iload_n 0, 1, [], 0, 0), (13, .iconst 1, 1, [], 1, 0),
  (14, .isub, 1, [], 0, 0), (15, .iconst 3, 1, [], 3, 0), (16, .irem, 1, [], 0, 0), (17, .istore_n 2, 1, [], 0, 0),
  (18, .iload_n 0, 1, [], 0, 0), (19, .iconst 1, 1, [], 1, 0), (20, .isub, 1, [], 0, 0), (21, .iconst 3, 1, [], 3, 0),
  (22, .idiv, 1, [], 0, 0), (23, .iconst 3, 1, [], 3, 0), (24, .irem, 1, [], 0, 0), (25, .istore_n 3, 1, [], 0, 0),
  (26, .iload_n 0, 1, [], 0, 0), (27, .iconst 1, 1, [], 1, 0), (28, .isub, 1, [], 0, 0), (29, .bipush 9, 2, [], 9, 0),
  (31, .idiv, 1, [], 0, 0), (32, .iconst 1, 1, [], 1, 0), (33, .iconst 3, 1, [], 3, 0), (34, .iload_n 3, 1, [], 0, 0),
  (35, .imul, 1, [], 0, 0), (36, .iload_n 1, 1, [], 0, 0), (37, .iadd, 1, [], 0, 0), (38, .ishl, 1, [], 0, 0),
  (39, .ior, 1, [], 0, 0), (40, .istore 4, 2, [], 0, 0), (42, .iconst 1, 1, [], 1, 0), (43, .iload_n 2, 1, [], 0, 0),
  (44, .iadd, 1, [], 0, 0), (45, .iconst 3, 1, [], 3, 0), (46, .iload_n 1, 1, [], 0, 0), (47, .imul, 1, [], 0, 0),
  (48, .iadd, 1, [], 0, 0), (49, .bipush 9, 2, [], 9, 0), (51, .iload 4, 2, [], 0, 0), (53, .imul, 1, [], 0, 0),
  (54, .iadd, 1, [], 0, 0), (55, .ireturn, 1, [], 0, 0)])
/-- 95: WordMonoids$Pairs.leastWord(LWordMonoids$Machine;LWordMonoids$Machine;I)J -/
def m_Pairs_leastWord : mv_M := (11, 3, [
  (0, .aload_n 0, 1, [], 0, 0), (1, .getfield 11, 3, [6, 0, 2], 0, 304), (4, .iconst 0, 1, [], 0, 0), (5, .aload_n 1, 1, [], 0, 0),
  (6, .getfield 19, 3, [4, 2, 0], 0, 325), (9, .iconst 4, 1, [], 4, 0), (10, .imul, 1, [], 0, 0), (11, .aload_n 2, 1, [], 0, 0),
  (12, .getfield 19, 3, [4, 2, 0], 0, 325), (15, .iadd, 1, [], 0, 0), (16, .iastore, 1, [], 0, 0), (17, .aload_n 0, 1, [], 0, 0),
  (18, .getfield 15, 3, [6, 1, 2], 0, 305), (21, .iconst 0, 1, [], 0, 0), (22, .lconst 0, 1, [], 0, 0), (23, .lastore, 1, [], 0, 0),
  (24, .iconst 1, 1, [], 1, 0), (25, .aload_n 0, 1, [], 0, 0), (26, .getfield 11, 3, [6, 0, 2], 0, 304), (29, .iconst 0, 1, [], 0, 0),
  (30, .iaload, 1, [], 0, 0), (31, .ishl, 1, [], 0, 0), (32, .istore 4, 2, [], 0, 0), (34, .iconst 1, 1, [], 1, 0),
  (35, .istore 5, 2, [], 0, 0), (37, .iconst 0, 1, [], 0, 0), (38, .istore 6, 2, [], 0, 0), (40, .iload 6, 2, [], 0, 0),
  (42, .iload 5, 2, [], 0, 0), (44, .if_icmp .ge 163, 3, [207], 0, 0), (47, .iload 6, 2, [], 0, 0), (49, .bipush 16, 2, [], 16, 0),
  (51, .if_icmp .ge 156, 3, [207], 0, 0), (54, .aload_n 0, 1, [], 0, 0), (55, .getfield 11, 3, [6, 0, 2], 0, 304), (58, .iload 6, 2, [], 0, 0),
  (60, .iaload, 1, [], 0, 0), (61, .iconst 4, 1, [], 4, 0), (62, .idiv, 1, [], 0, 0), (63, .istore 7, 2, [], 0, 0),
  (65, .aload_n 0, 1, [], 0, 0), (66, .getfield 11, 3, [6, 0, 2], 0, 304), (69, .iload 6, 2, [], 0, 0), (71, .iaload, 1, [], 0, 0),
  (72, .iconst 4, 1, [], 4, 0), (73, .irem, 1, [], 0, 0), (74, .istore 8, 2, [], 0, 0), (76, .aload_n 1, 1, [], 0, 0),
  (77, .iload 7, 2, [], 0, 0), (79, .invokevirtual 25, 3, [12, 2, 2, 1, 4], 0, 775), (82, .aload_n 2, 1, [], 0, 0), (83, .iload 8, 2, [], 0, 0),
  (85, .invokevirtual 25, 3, [12, 2, 2, 1, 4], 0, 775), (88, .iload_n 3, 1, [], 0, 0), (89, .invokestatic 29, 3, [96, 3, 2, 0], 0, 776), (92, .ifCond .eq 11, 3, [103], 0, 0),
  (95, .aload_n 0, 1, [], 0, 0), (96, .getfield 15, 3, [6, 1, 2], 0, 305), (99, .iload 6, 2, [], 0, 0), (101, .laload, 1, [], 0, 0),
  (102, .lreturn, 1, [], 0, 0), (103, .iconst 0, 1, [], 0, 0), (104, .istore 9, 2, [], 0, 0), (106, .iload 9, 2, [], 0, 0),
  (108, .iconst 3, 1, [], 3, 0), (109, .if_icmp .ge 92, 3, [201], 0, 0), (112, .aload_n 1, 1, [], 0, 0), (113, .iload 7, 2, [], 0, 0),
  (115, .iload 9, 2, [], 0, 0), (117, .invokevirtual 33, 3, [13, 3, 1, 1, 4], 0, 779), (120, .iconst 4, 1, [], 4, 0), (121, .imul, 1, [], 0, 0),
  (122, .aload_n 2, 1, [], 0, 0), (123, .iload 8, 2, [], 0, 0), (125, .iload 9, 2, [], 0, 0), (127, .invokevirtual 33, 3, [13, 3, 1, 1, 4], 0, 779),
  (130, .iadd, 1, [], 0, 0), (131, .istore 10, 2, [], 0, 0), (133, .iload 4, 2, [], 0, 0), (135, .iload 10, 2, [], 0, 0),
  (137, .ishr, 1, [], 0, 0), (138, .iconst 1, 1, [], 1, 0), (139, .iand, 1, [], 0, 0), (140, .ifCond .ne 55, 3, [195], 0, 0),
  (143, .iload 5, 2, [], 0, 0), (145, .bipush 16, 2, [], 16, 0), (147, .if_icmp .ge 48, 3, [195], 0, 0), (150, .iload 4, 2, [], 0, 0),
  (152, .iconst 1, 1, [], 1, 0), (153, .iload 10, 2, [], 0, 0), (155, .ishl, 1, [], 0, 0), (156, .ior, 1, [], 0, 0),
  (157, .istore 4, 2, [], 0, 0), (159, .aload_n 0, 1, [], 0, 0), (160, .getfield 11, 3, [6, 0, 2], 0, 304), (163, .iload 5, 2, [], 0, 0),
  (165, .iload 10, 2, [], 0, 0), (167, .iastore, 1, [], 0, 0), (168, .aload_n 0, 1, [], 0, 0), (169, .getfield 15, 3, [6, 1, 2], 0, 305),
  (172, .iload 5, 2, [], 0, 0), (174, .aload_n 0, 1, [], 0, 0), (175, .getfield 15, 3, [6, 1, 2], 0, 305), (178, .iload 6, 2, [], 0, 0),
  (180, .laload, 1, [], 0, 0), (181, .ldc2_w 37, 3, [], 0, 10), (184, .lmul, 1, [], 0, 0), (185, .iload 9, 2, [], 0, 0),
  (187, .i2l, 1, [], 0, 0), (188, .ladd, 1, [], 0, 0), (189, .lconst 1, 1, [], 0, 1), (190, .ladd, 1, [], 0, 0),
  (191, .lastore, 1, [], 0, 0), (192, .iinc 5 1, 3, [], 1, 0), (195, .iinc 9 1, 3, [], 1, 0), (198, .goto (-92), 3, [106], 0, 0),
  (201, .iinc 6 1, 3, [], 1, 0), (204, .goto (-164), 3, [40], 0, 0), (207, .ldc2_w 39, 3, [], 0, (-1)), (210, .lreturn, 1, [], 0, 0)])
/-- 96: WordMonoids$Pairs.isWanted(ZZI)Z -/
def m_Pairs_isWanted : mv_M := (3, 2, [
  (0, .iload_n 2, 1, [], 0, 0), (1, .ifCond .ne 17, 3, [18], 0, 0), (4, .iload_n 0, 1, [], 0, 0), (5, .ifCond .eq 11, 3, [16], 0, 0),
  (8, .iload_n 1, 1, [], 0, 0), (9, .ifCond .eq 7, 3, [16], 0, 0), (12, .iconst 1, 1, [], 1, 0), (13, .goto 4, 3, [17], 0, 0),
  (16, .iconst 0, 1, [], 0, 0), (17, .ireturn, 1, [], 0, 0), (18, .iload_n 2, 1, [], 0, 0), (19, .iconst 1, 1, [], 1, 0),
  (20, .if_icmp .ne 16, 3, [36], 0, 0), (23, .iload_n 0, 1, [], 0, 0), (24, .iload_n 1, 1, [], 0, 0), (25, .if_icmp .eq 7, 3, [32], 0, 0),
  (28, .iconst 1, 1, [], 1, 0), (29, .goto 20, 3, [49], 0, 0), (32, .iconst 0, 1, [], 0, 0), (33, .goto 16, 3, [49], 0, 0),
  (36, .iload_n 0, 1, [], 0, 0), (37, .ifCond .eq 11, 3, [48], 0, 0), (40, .iload_n 1, 1, [], 0, 0), (41, .ifCond .ne 7, 3, [48], 0, 0),
  (44, .iconst 1, 1, [], 1, 0), (45, .goto 4, 3, [49], 0, 0), (48, .iconst 0, 1, [], 0, 0), (49, .ireturn, 1, [], 0, 0)])
/-- 97: WordMonoids.machine(I)I -/
def m_WM_machine : mv_M := (2, 1, [
  (0, .iload_n 1, 1, [], 0, 0), (1, .iconst 1, 1, [], 1, 0), (2, .if_icmp .lt 8, 3, [10], 0, 0), (5, .iload_n 1, 1, [], 0, 0),
  (6, .iconst 4, 1, [], 4, 0), (7, .if_icmp .le 6, 3, [13], 0, 0), (10, .bipush (-2), 2, [], (-2), 0), (12, .ireturn, 1, [], 0, 0),
  (13, .aload_n 0, 1, [], 0, 0), (14, .getfield 70, 3, [11, 10, 0], 0, 381), (17, .iconst 3, 1, [], 3, 0), (18, .if_icmp .lt 6, 3, [24], 0, 0),
  (21, .bipush (-4), 2, [], (-4), 0), (23, .ireturn, 1, [], 0, 0), (24, .aload_n 0, 1, [], 0, 0), (25, .getfield 11, 3, [11, 0, 2], 0, 371),
  (28, .aload_n 0, 1, [], 0, 0), (29, .getfield 70, 3, [11, 10, 0], 0, 381), (32, .aaload, 1, [], 0, 0), (33, .iload_n 1, 1, [], 0, 0),
  (34, .invokevirtual 83, 3, [8, 2, 0, 1, 4], 0, 415), (37, .aload_n 0, 1, [], 0, 0), (38, .dup, 1, [], 0, 0), (39, .getfield 70, 3, [11, 10, 0], 0, 381),
  (42, .iconst 1, 1, [], 1, 0), (43, .iadd, 1, [], 0, 0), (44, .putfield 70, 3, [11, 10, 0], 0, 381), (47, .aload_n 0, 1, [], 0, 0),
  (48, .getfield 70, 3, [11, 10, 0], 0, 381), (51, .iconst 1, 1, [], 1, 0), (52, .isub, 1, [], 0, 0), (53, .ireturn, 1, [], 0, 0)])
/-- 98: WordMonoids.drop()I -/
def m_WM_drop : mv_M := (1, 1, [
  (0, .aload_n 0, 1, [], 0, 0), (1, .getfield 70, 3, [11, 10, 0], 0, 381), (4, .ifCond .gt 6, 3, [10], 0, 0), (7, .bipush (-3), 2, [], (-3), 0),
  (9, .ireturn, 1, [], 0, 0), (10, .aload_n 0, 1, [], 0, 0), (11, .dup, 1, [], 0, 0), (12, .getfield 70, 3, [11, 10, 0], 0, 381),
  (15, .iconst 1, 1, [], 1, 0), (16, .isub, 1, [], 0, 0), (17, .putfield 70, 3, [11, 10, 0], 0, 381), (20, .aload_n 0, 1, [], 0, 0),
  (21, .getfield 70, 3, [11, 10, 0], 0, 381), (24, .ireturn, 1, [], 0, 0)])
/-- 99: WordMonoids.step(IIII)I -/
def m_WM_step : mv_M := (7, 1, [
  (0, .aload_n 0, 1, [], 0, 0), (1, .iload_n 1, 1, [], 0, 0), (2, .invokevirtual 87, 3, [135, 2, 4, 1, 11], 0, 427), (5, .astore 5, 2, [], 0, 0),
  (7, .aload 5, 2, [], 0, 0), (9, .ifnull 29, 3, [38], 0, 0), (12, .aload 5, 2, [], 0, 0), (14, .iload_n 2, 1, [], 0, 0),
  (15, .invokevirtual 91, 3, [10, 2, 2, 1, 4], 0, 431), (18, .ifCond .eq 20, 3, [38], 0, 0), (21, .iload_n 3, 1, [], 0, 0), (22, .invokestatic 95, 3, [140, 1, 2, 0], 0, 435),
  (25, .ifCond .eq 13, 3, [38], 0, 0), (28, .aload 5, 2, [], 0, 0), (30, .iload 4, 2, [], 0, 0), (32, .invokevirtual 91, 3, [10, 2, 2, 1, 4], 0, 431),
  (35, .ifCond .ne 6, 3, [41], 0, 0), (38, .bipush (-2), 2, [], (-2), 0), (40, .ireturn, 1, [], 0, 0), (41, .aload 5, 2, [], 0, 0),
  (43, .iload_n 2, 1, [], 0, 0), (44, .iload_n 3, 1, [], 0, 0), (45, .invokevirtual 98, 3, [13, 3, 1, 1, 4], 0, 438), (48, .istore 6, 2, [], 0, 0),
  (50, .aload 5, 2, [], 0, 0), (52, .iload_n 2, 1, [], 0, 0), (53, .iload_n 3, 1, [], 0, 0), (54, .iload 4, 2, [], 0, 0),
  (56, .invokevirtual 102, 3, [14, 4, 0, 1, 4], 0, 442), (59, .iload 6, 2, [], 0, 0), (61, .ireturn, 1, [], 0, 0)])
/-- 100: WordMonoids.ends(II)I -/
def m_WM_ends : mv_M := (5, 1, [
  (0, .aload_n 0, 1, [], 0, 0), (1, .iload_n 1, 1, [], 0, 0), (2, .invokevirtual 87, 3, [135, 2, 4, 1, 11], 0, 427), (5, .astore_n 3, 1, [], 0, 0),
  (6, .aload_n 3, 1, [], 0, 0), (7, .ifnull 14, 3, [21], 0, 0), (10, .iload_n 2, 1, [], 0, 0), (11, .aload_n 3, 1, [], 0, 0),
  (12, .invokevirtual 106, 3, [11, 1, 1, 1, 4], 0, 450), (15, .iconst (-1), 1, [], (-1), 0), (16, .ixor, 1, [], 0, 0), (17, .iand, 1, [], 0, 0),
  (18, .ifCond .eq 6, 3, [24], 0, 0), (21, .bipush (-2), 2, [], (-2), 0), (23, .ireturn, 1, [], 0, 0), (24, .aload_n 3, 1, [], 0, 0),
  (25, .getfield 110, 3, [4, 3, 0], 0, 331), (28, .istore 4, 2, [], 0, 0), (30, .aload_n 3, 1, [], 0, 0), (31, .iload_n 2, 1, [], 0, 0),
  (32, .putfield 110, 3, [4, 3, 0], 0, 331), (35, .iload 4, 2, [], 0, 0), (37, .ireturn, 1, [], 0, 0)])
/-- 101: WordMonoids.start(II)I -/
def m_WM_start : mv_M := (5, 1, [
  (0, .aload_n 0, 1, [], 0, 0), (1, .iload_n 1, 1, [], 0, 0), (2, .invokevirtual 87, 3, [135, 2, 4, 1, 11], 0, 427), (5, .astore_n 3, 1, [], 0, 0),
  (6, .aload_n 3, 1, [], 0, 0), (7, .ifnull 11, 3, [18], 0, 0), (10, .aload_n 3, 1, [], 0, 0), (11, .iload_n 2, 1, [], 0, 0),
  (12, .invokevirtual 91, 3, [10, 2, 2, 1, 4], 0, 431), (15, .ifCond .ne 6, 3, [21], 0, 0), (18, .bipush (-2), 2, [], (-2), 0), (20, .ireturn, 1, [], 0, 0),
  (21, .aload_n 3, 1, [], 0, 0), (22, .getfield 113, 3, [4, 2, 0], 0, 328), (25, .istore 4, 2, [], 0, 0), (27, .aload_n 3, 1, [], 0, 0),
  (28, .iload_n 2, 1, [], 0, 0), (29, .putfield 113, 3, [4, 2, 0], 0, 328), (32, .iload 4, 2, [], 0, 0), (34, .ireturn, 1, [], 0, 0)])
/-- 102: WordMonoids.of(II)I -/
def m_WM_of : mv_M := (4, 1, [
  (0, .aload_n 0, 1, [], 0, 0), (1, .iload_n 1, 1, [], 0, 0), (2, .invokevirtual 87, 3, [135, 2, 4, 1, 11], 0, 427), (5, .astore_n 3, 1, [], 0, 0),
  (6, .aload_n 3, 1, [], 0, 0), (7, .ifnonnull 6, 3, [13], 0, 0), (10, .bipush (-2), 2, [], (-2), 0), (12, .ireturn, 1, [], 0, 0),
  (13, .iload_n 2, 1, [], 0, 0), (14, .bipush 10, 2, [], 10, 0), (16, .if_icmp .lt 33, 3, [49], 0, 0), (19, .iload_n 2, 1, [], 0, 0),
  (20, .bipush 10, 2, [], 10, 0), (22, .iconst 3, 1, [], 3, 0), (23, .aload_n 3, 1, [], 0, 0), (24, .getfield 116, 3, [4, 1, 0], 0, 323),
  (27, .imul, 1, [], 0, 0), (28, .iadd, 1, [], 0, 0), (29, .if_icmp .ge 20, 3, [49], 0, 0), (32, .aload_n 3, 1, [], 0, 0),
  (33, .iload_n 2, 1, [], 0, 0), (34, .bipush 10, 2, [], 10, 0), (36, .isub, 1, [], 0, 0), (37, .iconst 3, 1, [], 3, 0),
  (38, .idiv, 1, [], 0, 0), (39, .iload_n 2, 1, [], 0, 0), (40, .bipush 10, 2, [], 10, 0), (42, .isub, 1, [], 0, 0),
  (43, .iconst 3, 1, [], 3, 0), (44, .irem, 1, [], 0, 0), (45, .invokevirtual 98, 3, [13, 3, 1, 1, 4], 0, 438), (48, .ireturn, 1, [], 0, 0),
  (49, .iload_n 2, 1, [], 0, 0), (50, .tableswitch 87 0 4 #[34, 39, 44, 49, 68], 34, [137, 84, 89, 94, 99, 118], 0, 0), (84, .aload_n 3, 1, [], 0, 0), (85, .getfield 116, 3, [4, 1, 0], 0, 323),
  (88, .ireturn, 1, [], 0, 0), (89, .aload_n 3, 1, [], 0, 0), (90, .getfield 113, 3, [4, 2, 0], 0, 328), (93, .ireturn, 1, [], 0, 0),
  (94, .aload_n 3, 1, [], 0, 0), (95, .getfield 110, 3, [4, 3, 0], 0, 331), (98, .ireturn, 1, [], 0, 0), (99, .aload_n 0, 1, [], 0, 0),
  (100, .getfield 55, 3, [11, 7, 2], 0, 378), (103, .aload_n 3, 1, [], 0, 0), (104, .invokevirtual 119, 3, [55, 2, 0, 1, 5], 0, 462), (107, .aload_n 0, 1, [], 0, 0),
  (108, .getfield 55, 3, [11, 7, 2], 0, 378), (111, .getfield 125, 3, [5, 0, 2], 0, 220), (114, .getfield 129, 3, [3, 3, 0], 0, 199), (117, .ireturn, 1, [], 0, 0),
  (118, .aload_n 0, 1, [], 0, 0), (119, .getfield 55, 3, [11, 7, 2], 0, 378), (122, .aload_n 3, 1, [], 0, 0), (123, .invokevirtual 119, 3, [55, 2, 0, 1, 5], 0, 462),
  (126, .aload_n 0, 1, [], 0, 0), (127, .getfield 55, 3, [11, 7, 2], 0, 378), (130, .getfield 125, 3, [5, 0, 2], 0, 220), (133, .getfield 132, 3, [3, 4, 0], 0, 202),
  (136, .ireturn, 1, [], 0, 0), (137, .bipush (-2), 2, [], (-2), 0), (139, .ireturn, 1, [], 0, 0)])
/-- 103: WordMonoids.takes(II)I -/
def m_WM_takes : mv_M := (4, 1, [
  (0, .aload_n 0, 1, [], 0, 0), (1, .iload_n 1, 1, [], 0, 0), (2, .invokevirtual 87, 3, [135, 2, 4, 1, 11], 0, 427), (5, .astore_n 3, 1, [], 0, 0),
  (6, .aload_n 3, 1, [], 0, 0), (7, .ifnull 14, 3, [21], 0, 0), (10, .aload_n 0, 1, [], 0, 0), (11, .getfield 40, 3, [11, 5, 2], 0, 376),
  (14, .iload_n 2, 1, [], 0, 0), (15, .invokevirtual 133, 3, [2, 2, 2, 1, 10], 0, 541), (18, .ifCond .ne 6, 3, [24], 0, 0), (21, .bipush (-2), 2, [], (-2), 0),
  (23, .ireturn, 1, [], 0, 0), (24, .aload_n 3, 1, [], 0, 0), (25, .aload_n 0, 1, [], 0, 0), (26, .getfield 40, 3, [11, 5, 2], 0, 376),
  (29, .invokevirtual 136, 3, [16, 2, 2, 1, 4], 0, 545), (32, .ifCond .eq 7, 3, [39], 0, 0), (35, .iconst 1, 1, [], 1, 0), (36, .goto 4, 3, [40], 0, 0),
  (39, .iconst 0, 1, [], 0, 0), (40, .ireturn, 1, [], 0, 0)])
/-- 104: WordMonoids.quotient(III)I -/
def m_WM_quotient : mv_M := (5, 1, [
  (0, .aload_n 0, 1, [], 0, 0), (1, .iload_n 1, 1, [], 0, 0), (2, .invokevirtual 87, 3, [135, 2, 4, 1, 11], 0, 427), (5, .astore 4, 2, [], 0, 0),
  (7, .aload 4, 2, [], 0, 0), (9, .ifnull 19, 3, [28], 0, 0), (12, .iload_n 2, 1, [], 0, 0), (13, .invokestatic 95, 3, [140, 1, 2, 0], 0, 435),
  (16, .ifCond .eq 12, 3, [28], 0, 0), (19, .iload_n 3, 1, [], 0, 0), (20, .ifCond .lt 8, 3, [28], 0, 0), (23, .iload_n 3, 1, [], 0, 0),
  (24, .iconst 1, 1, [], 1, 0), (25, .if_icmp .le 6, 3, [31], 0, 0), (28, .bipush (-2), 2, [], (-2), 0), (30, .ireturn, 1, [], 0, 0),
  (31, .iload_n 3, 1, [], 0, 0), (32, .ifCond .ne 25, 3, [57], 0, 0), (35, .aload 4, 2, [], 0, 0), (37, .aload 4, 2, [], 0, 0),
  (39, .aload 4, 2, [], 0, 0), (41, .getfield 113, 3, [4, 2, 0], 0, 328), (44, .iload_n 2, 1, [], 0, 0), (45, .invokevirtual 98, 3, [13, 3, 1, 1, 4], 0, 438),
  (48, .putfield 113, 3, [4, 2, 0], 0, 328), (51, .aload 4, 2, [], 0, 0), (53, .getfield 113, 3, [4, 2, 0], 0, 328), (56, .ireturn, 1, [], 0, 0),
  (57, .aload 4, 2, [], 0, 0), (59, .aload 4, 2, [], 0, 0), (61, .iload_n 2, 1, [], 0, 0), (62, .invokevirtual 140, 3, [15, 2, 1, 1, 4], 0, 559),
  (65, .putfield 110, 3, [4, 3, 0], 0, 331), (68, .aload 4, 2, [], 0, 0), (70, .getfield 110, 3, [4, 3, 0], 0, 331), (73, .ireturn, 1, [], 0, 0)])
/-- 105: WordMonoids.turn(I)I -/
def m_WM_turn : mv_M := (3, 1, [
  (0, .aload_n 0, 1, [], 0, 0), (1, .iload_n 1, 1, [], 0, 0), (2, .invokevirtual 87, 3, [135, 2, 4, 1, 11], 0, 427), (5, .astore_n 2, 1, [], 0, 0),
  (6, .aload_n 2, 1, [], 0, 0), (7, .ifnonnull 6, 3, [13], 0, 0), (10, .bipush (-2), 2, [], (-2), 0), (12, .ireturn, 1, [], 0, 0),
  (13, .aload_n 2, 1, [], 0, 0), (14, .aload_n 2, 1, [], 0, 0), (15, .invokevirtual 106, 3, [11, 1, 1, 1, 4], 0, 450), (18, .aload_n 2, 1, [], 0, 0),
  (19, .getfield 110, 3, [4, 3, 0], 0, 331), (22, .iconst (-1), 1, [], (-1), 0), (23, .ixor, 1, [], 0, 0), (24, .iand, 1, [], 0, 0),
  (25, .putfield 110, 3, [4, 3, 0], 0, 331), (28, .aload_n 2, 1, [], 0, 0), (29, .getfield 110, 3, [4, 3, 0], 0, 331), (32, .ireturn, 1, [], 0, 0)])
/-- 106: WordMonoids.size(I)I -/
def m_WM_size : mv_M := (2, 1, [
  (0, .aload_n 0, 1, [], 0, 0), (1, .iload_n 1, 1, [], 0, 0), (2, .invokevirtual 144, 3, [139, 2, 2, 1, 11], 0, 571), (5, .ifCond .eq 13, 3, [18], 0, 0),
  (8, .aload_n 0, 1, [], 0, 0), (9, .getfield 55, 3, [11, 7, 2], 0, 378), (12, .getfield 147, 3, [5, 11, 0], 0, 233), (15, .goto 5, 3, [20], 0, 0),
  (18, .bipush (-2), 2, [], (-2), 0), (20, .ireturn, 1, [], 0, 0)])
/-- 107: WordMonoids.word(III)I -/
def m_WM_word : mv_M := (4, 1, [
  (0, .aload_n 0, 1, [], 0, 0), (1, .iload_n 1, 1, [], 0, 0), (2, .invokevirtual 144, 3, [139, 2, 2, 1, 11], 0, 571), (5, .ifCond .eq 19, 3, [24], 0, 0),
  (8, .aload_n 0, 1, [], 0, 0), (9, .getfield 55, 3, [11, 7, 2], 0, 378), (12, .iload_n 2, 1, [], 0, 0), (13, .invokevirtual 150, 3, [56, 2, 2, 1, 5], 0, 579),
  (16, .ifCond .eq 8, 3, [24], 0, 0), (19, .iload_n 3, 1, [], 0, 0), (20, .iconst (-1), 1, [], (-1), 0), (21, .if_icmp .ge 6, 3, [27], 0, 0),
  (24, .bipush (-2), 2, [], (-2), 0), (26, .ireturn, 1, [], 0, 0), (27, .iload_n 3, 1, [], 0, 0), (28, .iconst (-1), 1, [], (-1), 0),
  (29, .if_icmp .ne 14, 3, [43], 0, 0), (32, .aload_n 0, 1, [], 0, 0), (33, .getfield 55, 3, [11, 7, 2], 0, 378), (36, .iload_n 2, 1, [], 0, 0),
  (37, .invokevirtual 153, 3, [62, 2, 1, 1, 5], 0, 583), (40, .goto 12, 3, [52], 0, 0), (43, .aload_n 0, 1, [], 0, 0), (44, .getfield 55, 3, [11, 7, 2], 0, 378),
  (47, .iload_n 2, 1, [], 0, 0), (48, .iload_n 3, 1, [], 0, 0), (49, .invokevirtual 156, 3, [63, 3, 1, 1, 5], 0, 587), (52, .ireturn, 1, [], 0, 0)])
/-- 108: WordMonoids.element(II)I -/
def m_WM_element : mv_M := (5, 1, [
  (0, .aload_n 0, 1, [], 0, 0), (1, .iload_n 1, 1, [], 0, 0), (2, .invokevirtual 144, 3, [139, 2, 2, 1, 11], 0, 571), (5, .ifCond .eq 14, 3, [19], 0, 0),
  (8, .aload_n 0, 1, [], 0, 0), (9, .getfield 40, 3, [11, 5, 2], 0, 376), (12, .iload_n 2, 1, [], 0, 0), (13, .invokevirtual 133, 3, [2, 2, 2, 1, 10], 0, 541),
  (16, .ifCond .ne 6, 3, [22], 0, 0), (19, .bipush (-2), 2, [], (-2), 0), (21, .ireturn, 1, [], 0, 0), (22, .sipush 228, 3, [], 228, 0),
  (25, .istore_n 3, 1, [], 0, 0), (26, .iconst 0, 1, [], 0, 0), (27, .istore 4, 2, [], 0, 0), (29, .iload 4, 2, [], 0, 0),
  (31, .aload_n 0, 1, [], 0, 0), (32, .getfield 40, 3, [11, 5, 2], 0, 376), (35, .getfield 159, 3, [10, 1, 0], 0, 171), (38, .if_icmp .ge 27, 3, [65], 0, 0),
  (41, .aload_n 0, 1, [], 0, 0), (42, .getfield 55, 3, [11, 7, 2], 0, 378), (45, .iload_n 3, 1, [], 0, 0), (46, .aload_n 0, 1, [], 0, 0),
  (47, .getfield 40, 3, [11, 5, 2], 0, 376), (50, .iload 4, 2, [], 0, 0), (52, .invokevirtual 162, 3, [3, 2, 1, 1, 10], 0, 596), (55, .invokevirtual 165, 3, [60, 3, 1, 1, 5], 0, 597),
  (58, .istore_n 3, 1, [], 0, 0), (59, .iinc 4 1, 3, [], 1, 0), (62, .goto (-33), 3, [29], 0, 0), (65, .aload_n 0, 1, [], 0, 0),
  (66, .getfield 55, 3, [11, 7, 2], 0, 378), (69, .iload_n 3, 1, [], 0, 0), (70, .invokevirtual 168, 3, [58, 2, 1, 1, 5], 0, 598), (73, .ireturn, 1, [], 0, 0)])
/-- 109: WordMonoids.times(III)I -/
def m_WM_times : mv_M := (4, 1, [
  (0, .aload_n 0, 1, [], 0, 0), (1, .iload_n 1, 1, [], 0, 0), (2, .invokevirtual 144, 3, [139, 2, 2, 1, 11], 0, 571), (5, .ifCond .eq 25, 3, [30], 0, 0),
  (8, .aload_n 0, 1, [], 0, 0), (9, .getfield 55, 3, [11, 7, 2], 0, 378), (12, .iload_n 2, 1, [], 0, 0), (13, .invokevirtual 150, 3, [56, 2, 2, 1, 5], 0, 579),
  (16, .ifCond .eq 14, 3, [30], 0, 0), (19, .aload_n 0, 1, [], 0, 0), (20, .getfield 55, 3, [11, 7, 2], 0, 378), (23, .iload_n 3, 1, [], 0, 0),
  (24, .invokevirtual 150, 3, [56, 2, 2, 1, 5], 0, 579), (27, .ifCond .ne 6, 3, [33], 0, 0), (30, .bipush (-2), 2, [], (-2), 0), (32, .ireturn, 1, [], 0, 0),
  (33, .aload_n 0, 1, [], 0, 0), (34, .getfield 55, 3, [11, 7, 2], 0, 378), (37, .aload_n 0, 1, [], 0, 0), (38, .getfield 55, 3, [11, 7, 2], 0, 378),
  (41, .iload_n 2, 1, [], 0, 0), (42, .invokevirtual 171, 3, [57, 2, 1, 1, 5], 0, 603), (45, .aload_n 0, 1, [], 0, 0), (46, .getfield 55, 3, [11, 7, 2], 0, 378),
  (49, .iload_n 3, 1, [], 0, 0), (50, .invokevirtual 171, 3, [57, 2, 1, 1, 5], 0, 603), (53, .invokestatic 174, 3, [53, 2, 1, 0], 0, 607), (56, .invokevirtual 168, 3, [58, 2, 1, 1, 5], 0, 598),
  (59, .ireturn, 1, [], 0, 0)])
/-- 110: WordMonoids.power(III)I -/
def m_WM_power : mv_M := (4, 1, [
  (0, .aload_n 0, 1, [], 0, 0), (1, .iload_n 1, 1, [], 0, 0), (2, .invokevirtual 144, 3, [139, 2, 2, 1, 11], 0, 571), (5, .ifCond .eq 23, 3, [28], 0, 0),
  (8, .aload_n 0, 1, [], 0, 0), (9, .getfield 55, 3, [11, 7, 2], 0, 378), (12, .iload_n 2, 1, [], 0, 0), (13, .invokevirtual 150, 3, [56, 2, 2, 1, 5], 0, 579),
  (16, .ifCond .eq 12, 3, [28], 0, 0), (19, .iload_n 3, 1, [], 0, 0), (20, .ifCond .lt 8, 3, [28], 0, 0), (23, .iload_n 3, 1, [], 0, 0),
  (24, .iconst 2, 1, [], 2, 0), (25, .if_icmp .le 6, 3, [31], 0, 0), (28, .bipush (-2), 2, [], (-2), 0), (30, .ireturn, 1, [], 0, 0),
  (31, .iload_n 3, 1, [], 0, 0), (32, .iconst 2, 1, [], 2, 0), (33, .if_icmp .ne 26, 3, [59], 0, 0), (36, .aload_n 0, 1, [], 0, 0),
  (37, .getfield 55, 3, [11, 7, 2], 0, 378), (40, .aload_n 0, 1, [], 0, 0), (41, .getfield 55, 3, [11, 7, 2], 0, 378), (44, .aload_n 0, 1, [], 0, 0),
  (45, .getfield 55, 3, [11, 7, 2], 0, 378), (48, .iload_n 2, 1, [], 0, 0), (49, .invokevirtual 171, 3, [57, 2, 1, 1, 5], 0, 603), (52, .invokevirtual 177, 3, [59, 2, 1, 1, 5], 0, 612),
  (55, .invokevirtual 168, 3, [58, 2, 1, 1, 5], 0, 598), (58, .ireturn, 1, [], 0, 0), (59, .iload_n 3, 1, [], 0, 0), (60, .ifCond .ne 14, 3, [74], 0, 0),
  (63, .aload_n 0, 1, [], 0, 0), (64, .getfield 55, 3, [11, 7, 2], 0, 378), (67, .iload_n 2, 1, [], 0, 0), (68, .invokevirtual 180, 3, [66, 2, 1, 1, 5], 0, 616),
  (71, .goto 11, 3, [82], 0, 0), (74, .aload_n 0, 1, [], 0, 0), (75, .getfield 55, 3, [11, 7, 2], 0, 378), (78, .iload_n 2, 1, [], 0, 0),
  (79, .invokevirtual 183, 3, [67, 2, 1, 1, 5], 0, 622), (82, .ireturn, 1, [], 0, 0)])
/-- 111: WordMonoids.below(IIII)I -/
def m_WM_below : mv_M := (5, 1, [
  (0, .aload_n 0, 1, [], 0, 0), (1, .iload_n 1, 1, [], 0, 0), (2, .invokevirtual 144, 3, [139, 2, 2, 1, 11], 0, 571), (5, .ifCond .eq 36, 3, [41], 0, 0),
  (8, .aload_n 0, 1, [], 0, 0), (9, .getfield 55, 3, [11, 7, 2], 0, 378), (12, .iload_n 2, 1, [], 0, 0), (13, .invokevirtual 150, 3, [56, 2, 2, 1, 5], 0, 579),
  (16, .ifCond .eq 25, 3, [41], 0, 0), (19, .aload_n 0, 1, [], 0, 0), (20, .getfield 55, 3, [11, 7, 2], 0, 378), (23, .iload_n 3, 1, [], 0, 0),
  (24, .invokevirtual 150, 3, [56, 2, 2, 1, 5], 0, 579), (27, .ifCond .eq 14, 3, [41], 0, 0), (30, .iload 4, 2, [], 0, 0), (32, .ifCond .lt 9, 3, [41], 0, 0),
  (35, .iload 4, 2, [], 0, 0), (37, .iconst 2, 1, [], 2, 0), (38, .if_icmp .le 6, 3, [44], 0, 0), (41, .bipush (-2), 2, [], (-2), 0),
  (43, .ireturn, 1, [], 0, 0), (44, .aload_n 0, 1, [], 0, 0), (45, .getfield 55, 3, [11, 7, 2], 0, 378), (48, .iload_n 3, 1, [], 0, 0),
  (49, .iload 4, 2, [], 0, 0), (51, .invokevirtual 186, 3, [73, 3, 1, 1, 5], 0, 630), (54, .pop, 1, [], 0, 0), (55, .aload_n 0, 1, [], 0, 0),
  (56, .getfield 55, 3, [11, 7, 2], 0, 378), (59, .iload_n 2, 1, [], 0, 0), (60, .invokevirtual 189, 3, [76, 2, 2, 1, 5], 0, 642), (63, .ifCond .eq 7, 3, [70], 0, 0),
  (66, .iconst 1, 1, [], 1, 0), (67, .goto 4, 3, [71], 0, 0), (70, .iconst 0, 1, [], 0, 0), (71, .ireturn, 1, [], 0, 0)])
/-- 112: WordMonoids.green(II)I -/
def m_WM_green : mv_M := (3, 1, [
  (0, .aload_n 0, 1, [], 0, 0), (1, .iload_n 1, 1, [], 0, 0), (2, .invokevirtual 144, 3, [139, 2, 2, 1, 11], 0, 571), (5, .ifCond .ne 6, 3, [11], 0, 0),
  (8, .bipush (-2), 2, [], (-2), 0), (10, .ireturn, 1, [], 0, 0), (11, .iload_n 2, 1, [], 0, 0), (12, .tableswitch 87 0 6 #[44, 52, 52, 52, 63, 71, 79], 44, [99, 56, 64, 64, 64, 75, 83, 91], 0, 0),
  (56, .aload_n 0, 1, [], 0, 0), (57, .getfield 55, 3, [11, 7, 2], 0, 378), (60, .invokevirtual 192, 3, [68, 1, 1, 1, 5], 0, 650), (63, .ireturn, 1, [], 0, 0),
  (64, .aload_n 0, 1, [], 0, 0), (65, .getfield 55, 3, [11, 7, 2], 0, 378), (68, .iload_n 2, 1, [], 0, 0), (69, .iconst 1, 1, [], 1, 0),
  (70, .isub, 1, [], 0, 0), (71, .invokevirtual 195, 3, [77, 2, 1, 1, 5], 0, 654), (74, .ireturn, 1, [], 0, 0), (75, .aload_n 0, 1, [], 0, 0),
  (76, .getfield 55, 3, [11, 7, 2], 0, 378), (79, .invokevirtual 198, 3, [69, 1, 1, 1, 5], 0, 660), (82, .ireturn, 1, [], 0, 0), (83, .aload_n 0, 1, [], 0, 0),
  (84, .getfield 55, 3, [11, 7, 2], 0, 378), (87, .invokevirtual 201, 3, [70, 1, 1, 1, 5], 0, 668), (90, .ireturn, 1, [], 0, 0), (91, .aload_n 0, 1, [], 0, 0),
  (92, .getfield 55, 3, [11, 7, 2], 0, 378), (95, .invokevirtual 204, 3, [71, 1, 1, 1, 5], 0, 676), (98, .ireturn, 1, [], 0, 0), (99, .bipush (-2), 2, [], (-2), 0),
  (101, .ireturn, 1, [], 0, 0)])
/-- 113: WordMonoids.holds(I)I -/
def m_WM_holds : mv_M := (4, 1, [
  (0, .aload_n 0, 1, [], 0, 0), (1, .iload_n 1, 1, [], 0, 0), (2, .invokevirtual 144, 3, [139, 2, 2, 1, 11], 0, 571), (5, .ifCond .ne 6, 3, [11], 0, 0),
  (8, .bipush (-2), 2, [], (-2), 0), (10, .ireturn, 1, [], 0, 0), (11, .iconst 0, 1, [], 0, 0), (12, .istore_n 2, 1, [], 0, 0),
  (13, .iconst 0, 1, [], 0, 0), (14, .istore_n 3, 1, [], 0, 0), (15, .iload_n 3, 1, [], 0, 0), (16, .bipush 12, 2, [], 12, 0),
  (18, .if_icmp .ge 26, 3, [44], 0, 0), (21, .aload_n 0, 1, [], 0, 0), (22, .getfield 47, 3, [11, 6, 2], 0, 377), (25, .iload_n 3, 1, [], 0, 0),
  (26, .invokevirtual 207, 3, [83, 2, 2, 1, 2], 0, 688), (29, .ifCond .ne 9, 3, [38], 0, 0), (32, .iload_n 2, 1, [], 0, 0), (33, .iconst 1, 1, [], 1, 0),
  (34, .iload_n 3, 1, [], 0, 0), (35, .ishl, 1, [], 0, 0), (36, .ior, 1, [], 0, 0), (37, .istore_n 2, 1, [], 0, 0),
  (38, .iinc 3 1, 3, [], 1, 0), (41, .goto (-26), 3, [15], 0, 0), (44, .iload_n 2, 1, [], 0, 0), (45, .ireturn, 1, [], 0, 0)])
/-- 114: WordMonoids.wrong(III)I -/
def m_WM_wrong : mv_M := (4, 1, [
  (0, .aload_n 0, 1, [], 0, 0), (1, .iload_n 1, 1, [], 0, 0), (2, .invokevirtual 144, 3, [139, 2, 2, 1, 11], 0, 571), (5, .ifCond .eq 22, 3, [27], 0, 0),
  (8, .iload_n 2, 1, [], 0, 0), (9, .ifCond .lt 18, 3, [27], 0, 0), (12, .iload_n 2, 1, [], 0, 0), (13, .bipush 12, 2, [], 12, 0),
  (15, .if_icmp .ge 12, 3, [27], 0, 0), (18, .iload_n 3, 1, [], 0, 0), (19, .ifCond .lt 8, 3, [27], 0, 0), (22, .iload_n 3, 1, [], 0, 0),
  (23, .iconst 1, 1, [], 1, 0), (24, .if_icmp .le 6, 3, [30], 0, 0), (27, .bipush (-2), 2, [], (-2), 0), (29, .ireturn, 1, [], 0, 0),
  (30, .aload_n 0, 1, [], 0, 0), (31, .getfield 47, 3, [11, 6, 2], 0, 377), (34, .iload_n 2, 1, [], 0, 0), (35, .invokevirtual 207, 3, [83, 2, 2, 1, 2], 0, 688),
  (38, .ifCond .ne 5, 3, [43], 0, 0), (41, .iconst (-1), 1, [], (-1), 0), (42, .ireturn, 1, [], 0, 0), (43, .iload_n 3, 1, [], 0, 0),
  (44, .ifCond .ne 13, 3, [57], 0, 0), (47, .aload_n 0, 1, [], 0, 0), (48, .getfield 47, 3, [11, 6, 2], 0, 377), (51, .getfield 210, 3, [2, 2, 0], 0, 272),
  (54, .goto 10, 3, [64], 0, 0), (57, .aload_n 0, 1, [], 0, 0), (58, .getfield 47, 3, [11, 6, 2], 0, 377), (61, .getfield 213, 3, [2, 3, 0], 0, 274),
  (64, .ireturn, 1, [], 0, 0)])
/-- 115: WordMonoids.level(II)I -/
def m_WM_level : mv_M := (5, 1, [
  (0, .aload_n 0, 1, [], 0, 0), (1, .iload_n 1, 1, [], 0, 0), (2, .invokevirtual 87, 3, [135, 2, 4, 1, 11], 0, 427), (5, .astore_n 3, 1, [], 0, 0),
  (6, .aload_n 3, 1, [], 0, 0), (7, .ifnull 12, 3, [19], 0, 0), (10, .iload_n 2, 1, [], 0, 0), (11, .ifCond .lt 8, 3, [19], 0, 0),
  (14, .iload_n 2, 1, [], 0, 0), (15, .iconst 1, 1, [], 1, 0), (16, .if_icmp .le 6, 3, [22], 0, 0), (19, .bipush (-2), 2, [], (-2), 0),
  (21, .ireturn, 1, [], 0, 0), (22, .iconst 0, 1, [], 0, 0), (23, .istore 4, 2, [], 0, 0), (25, .iload 4, 2, [], 0, 0),
  (27, .iconst 3, 1, [], 3, 0), (28, .if_icmp .ge 26, 3, [54], 0, 0), (31, .aload_n 0, 1, [], 0, 0), (32, .getfield 59, 3, [11, 8, 2], 0, 379),
  (35, .aload_n 3, 1, [], 0, 0), (36, .iload_n 2, 1, [], 0, 0), (37, .iload 4, 2, [], 0, 0), (39, .invokevirtual 216, 3, [88, 4, 2, 1, 1], 0, 732),
  (42, .ifCond .eq 6, 3, [48], 0, 0), (45, .iload 4, 2, [], 0, 0), (47, .ireturn, 1, [], 0, 0), (48, .iinc 4 1, 3, [], 1, 0),
  (51, .goto (-26), 3, [25], 0, 0), (54, .iconst (-1), 1, [], (-1), 0), (55, .ireturn, 1, [], 0, 0)])
/-- 116: WordMonoids.separates(III)I -/
def m_WM_separates : mv_M := (7, 1, [
  (0, .aload_n 0, 1, [], 0, 0), (1, .iload_n 1, 1, [], 0, 0), (2, .invokevirtual 87, 3, [135, 2, 4, 1, 11], 0, 427), (5, .astore 4, 2, [], 0, 0),
  (7, .aload_n 0, 1, [], 0, 0), (8, .iload_n 2, 1, [], 0, 0), (9, .invokevirtual 87, 3, [135, 2, 4, 1, 11], 0, 427), (12, .astore 5, 2, [], 0, 0),
  (14, .aload 4, 2, [], 0, 0), (16, .ifnull 17, 3, [33], 0, 0), (19, .aload 5, 2, [], 0, 0), (21, .ifnull 12, 3, [33], 0, 0),
  (24, .iload_n 3, 1, [], 0, 0), (25, .ifCond .lt 8, 3, [33], 0, 0), (28, .iload_n 3, 1, [], 0, 0), (29, .iconst 1, 1, [], 1, 0),
  (30, .if_icmp .le 6, 3, [36], 0, 0), (33, .bipush (-2), 2, [], (-2), 0), (35, .ireturn, 1, [], 0, 0), (36, .iconst 0, 1, [], 0, 0),
  (37, .istore 6, 2, [], 0, 0), (39, .iload 6, 2, [], 0, 0), (41, .iconst 3, 1, [], 3, 0), (42, .if_icmp .ge 29, 3, [71], 0, 0),
  (45, .aload_n 0, 1, [], 0, 0), (46, .getfield 59, 3, [11, 8, 2], 0, 379), (49, .aload 4, 2, [], 0, 0), (51, .aload 5, 2, [], 0, 0),
  (53, .iload_n 3, 1, [], 0, 0), (54, .iload 6, 2, [], 0, 0), (56, .invokevirtual 220, 3, [89, 5, 2, 1, 1], 0, 762), (59, .ifCond .eq 6, 3, [65], 0, 0),
  (62, .iload 6, 2, [], 0, 0), (64, .ireturn, 1, [], 0, 0), (65, .iinc 6 1, 3, [], 1, 0), (68, .goto (-29), 3, [39], 0, 0),
  (71, .iconst (-1), 1, [], (-1), 0), (72, .ireturn, 1, [], 0, 0)])
/-- 117: WordMonoids.least(III)J -/
def m_WM_least : mv_M := (6, 3, [
  (0, .aload_n 0, 1, [], 0, 0), (1, .iload_n 1, 1, [], 0, 0), (2, .invokevirtual 87, 3, [135, 2, 4, 1, 11], 0, 427), (5, .astore 4, 2, [], 0, 0),
  (7, .aload_n 0, 1, [], 0, 0), (8, .iload_n 2, 1, [], 0, 0), (9, .invokevirtual 87, 3, [135, 2, 4, 1, 11], 0, 427), (12, .astore 5, 2, [], 0, 0),
  (14, .aload 4, 2, [], 0, 0), (16, .ifnull 17, 3, [33], 0, 0), (19, .aload 5, 2, [], 0, 0), (21, .ifnull 12, 3, [33], 0, 0),
  (24, .iload_n 3, 1, [], 0, 0), (25, .ifCond .lt 8, 3, [33], 0, 0), (28, .iload_n 3, 1, [], 0, 0), (29, .iconst 2, 1, [], 2, 0),
  (30, .if_icmp .le 7, 3, [37], 0, 0), (33, .ldc2_w 224, 3, [], 0, (-2)), (36, .lreturn, 1, [], 0, 0), (37, .aload_n 0, 1, [], 0, 0),
  (38, .getfield 66, 3, [11, 9, 2], 0, 380), (41, .aload 4, 2, [], 0, 0), (43, .aload 5, 2, [], 0, 0), (45, .iload_n 3, 1, [], 0, 0),
  (46, .invokevirtual 226, 3, [95, 4, 3, 1, 6], 0, 771), (49, .lreturn, 1, [], 0, 0)])
/-- 118: WordMonoids.formula()I -/
def m_WM_formula : mv_M := (1, 1, [
  (0, .aload_n 0, 1, [], 0, 0), (1, .getfield 77, 3, [11, 12, 0], 0, 383), (4, .iconst 4, 1, [], 4, 0), (5, .if_icmp .lt 6, 3, [11], 0, 0),
  (8, .bipush (-4), 2, [], (-4), 0), (10, .ireturn, 1, [], 0, 0), (11, .aload_n 0, 1, [], 0, 0), (12, .getfield 33, 3, [11, 4, 2], 0, 375),
  (15, .invokevirtual 230, 3, [33, 1, 2, 1, 7], 0, 786), (18, .ifCond .ne 14, 3, [32], 0, 0), (21, .bipush (-100), 2, [], (-100), 0), (23, .aload_n 0, 1, [], 0, 0),
  (24, .getfield 33, 3, [11, 4, 2], 0, 375), (27, .getfield 234, 3, [7, 9, 0], 0, 137), (30, .isub, 1, [], 0, 0), (31, .ireturn, 1, [], 0, 0),
  (32, .aload_n 0, 1, [], 0, 0), (33, .getfield 20, 3, [11, 2, 2], 0, 373), (36, .aload_n 0, 1, [], 0, 0), (37, .getfield 77, 3, [11, 12, 0], 0, 383),
  (40, .aaload, 1, [], 0, 0), (41, .aload_n 0, 1, [], 0, 0), (42, .getfield 33, 3, [11, 4, 2], 0, 375), (45, .getfield 237, 3, [7, 1, 2], 0, 125),
  (48, .aload_n 0, 1, [], 0, 0), (49, .getfield 33, 3, [11, 4, 2], 0, 375), (52, .getfield 241, 3, [7, 5, 0], 0, 131), (55, .invokevirtual 244, 3, [25, 3, 0, 1, 0], 0, 844),
  (58, .aload_n 0, 1, [], 0, 0), (59, .dup, 1, [], 0, 0), (60, .getfield 77, 3, [11, 12, 0], 0, 383), (63, .iconst 1, 1, [], 1, 0),
  (64, .iadd, 1, [], 0, 0), (65, .putfield 77, 3, [11, 12, 0], 0, 383), (68, .aload_n 0, 1, [], 0, 0), (69, .getfield 77, 3, [11, 12, 0], 0, 383),
  (72, .iconst 1, 1, [], 1, 0), (73, .isub, 1, [], 0, 0), (74, .ireturn, 1, [], 0, 0)])
/-- 119: WordMonoids.why(I)I -/
def m_WM_why : mv_M := (2, 1, [
  (0, .iload_n 1, 1, [], 0, 0), (1, .iconst (-1), 1, [], (-1), 0), (2, .if_icmp .ge 6, 3, [8], 0, 0), (5, .bipush (-2), 2, [], (-2), 0),
  (7, .ireturn, 1, [], 0, 0), (8, .iload_n 1, 1, [], 0, 0), (9, .iconst (-1), 1, [], (-1), 0), (10, .if_icmp .ne 13, 3, [23], 0, 0),
  (13, .aload_n 0, 1, [], 0, 0), (14, .getfield 33, 3, [11, 4, 2], 0, 375), (17, .getfield 248, 3, [7, 7, 0], 0, 134), (20, .goto 11, 3, [31], 0, 0),
  (23, .aload_n 0, 1, [], 0, 0), (24, .getfield 33, 3, [11, 4, 2], 0, 375), (27, .iload_n 1, 1, [], 0, 0), (28, .invokevirtual 251, 3, [32, 2, 1, 1, 7], 0, 857),
  (31, .ireturn, 1, [], 0, 0)])
/-- 120: WordMonoids.says(II)I -/
def m_WM_says : mv_M := (4, 1, [
  (0, .aload_n 0, 1, [], 0, 0), (1, .iload_n 1, 1, [], 0, 0), (2, .invokevirtual 254, 3, [136, 2, 4, 1, 11], 0, 865), (5, .astore_n 3, 1, [], 0, 0),
  (6, .aload_n 3, 1, [], 0, 0), (7, .ifnull 14, 3, [21], 0, 0), (10, .aload_n 0, 1, [], 0, 0), (11, .getfield 40, 3, [11, 5, 2], 0, 376),
  (14, .iload_n 2, 1, [], 0, 0), (15, .invokevirtual 133, 3, [2, 2, 2, 1, 10], 0, 541), (18, .ifCond .ne 6, 3, [24], 0, 0), (21, .bipush (-2), 2, [], (-2), 0),
  (23, .ireturn, 1, [], 0, 0), (24, .aload_n 3, 1, [], 0, 0), (25, .aload_n 0, 1, [], 0, 0), (26, .getfield 40, 3, [11, 5, 2], 0, 376),
  (29, .invokevirtual 258, 3, [26, 2, 2, 1, 0], 0, 869), (32, .ifCond .eq 7, 3, [39], 0, 0), (35, .iconst 1, 1, [], 1, 0), (36, .goto 4, 3, [40], 0, 0),
  (39, .iconst 0, 1, [], 0, 0), (40, .ireturn, 1, [], 0, 0)])
/-- 121: WordMonoids.many(III)I -/
def m_WM_many : mv_M := (8, 1, [
  (0, .aload_n 0, 1, [], 0, 0), (1, .iload_n 1, 1, [], 0, 0), (2, .iload_n 2, 1, [], 0, 0), (3, .invokevirtual 259, 3, [138, 3, 4, 1, 11], 0, 889),
  (6, .astore 4, 2, [], 0, 0), (8, .aload 4, 2, [], 0, 0), (10, .ifnull 13, 3, [23], 0, 0), (13, .iload_n 3, 1, [], 0, 0),
  (14, .ifCond .lt 9, 3, [23], 0, 0), (17, .iload_n 3, 1, [], 0, 0), (18, .bipush 9, 2, [], 9, 0), (20, .if_icmp .le 6, 3, [26], 0, 0),
  (23, .bipush (-2), 2, [], (-2), 0), (25, .ireturn, 1, [], 0, 0), (26, .iload_n 3, 1, [], 0, 0), (27, .invokestatic 263, 3, [7, 1, 1, 0], 0, 893),
  (30, .istore 5, 2, [], 0, 0), (32, .iconst 0, 1, [], 0, 0), (33, .istore 6, 2, [], 0, 0), (35, .aload_n 0, 1, [], 0, 0),
  (36, .getfield 40, 3, [11, 5, 2], 0, 376), (39, .iload_n 3, 1, [], 0, 0), (40, .invokevirtual 266, 3, [4, 2, 0, 1, 10], 0, 896), (43, .iconst 0, 1, [], 0, 0),
  (44, .istore 7, 2, [], 0, 0), (46, .iload 7, 2, [], 0, 0), (48, .iload 5, 2, [], 0, 0), (50, .if_icmp .ge 31, 3, [81], 0, 0),
  (53, .aload 4, 2, [], 0, 0), (55, .aload_n 0, 1, [], 0, 0), (56, .getfield 40, 3, [11, 5, 2], 0, 376), (59, .invokevirtual 269, 3, [16, 2, 2, 2, 4, 26, 0], 0, 900),
  (62, .ifCond .eq 6, 3, [68], 0, 0), (65, .iinc 6 1, 3, [], 1, 0), (68, .aload_n 0, 1, [], 0, 0), (69, .getfield 40, 3, [11, 5, 2], 0, 376),
  (72, .invokevirtual 272, 3, [5, 1, 0, 1, 10], 0, 905), (75, .iinc 7 1, 3, [], 1, 0), (78, .goto (-32), 3, [46], 0, 0), (81, .iload 6, 2, [], 0, 0),
  (83, .ireturn, 1, [], 0, 0)])
/-- 122: WordMonoids.agree(III)I -/
def m_WM_agree : mv_M := (9, 1, [
  (0, .aload_n 0, 1, [], 0, 0), (1, .iload_n 1, 1, [], 0, 0), (2, .invokevirtual 87, 3, [135, 2, 4, 1, 11], 0, 427), (5, .astore 4, 2, [], 0, 0),
  (7, .aload_n 0, 1, [], 0, 0), (8, .iload_n 2, 1, [], 0, 0), (9, .invokevirtual 254, 3, [136, 2, 4, 1, 11], 0, 865), (12, .astore 5, 2, [], 0, 0),
  (14, .aload 4, 2, [], 0, 0), (16, .ifnull 17, 3, [33], 0, 0), (19, .aload 5, 2, [], 0, 0), (21, .ifnull 12, 3, [33], 0, 0),
  (24, .iload_n 3, 1, [], 0, 0), (25, .ifCond .lt 8, 3, [33], 0, 0), (28, .iload_n 3, 1, [], 0, 0), (29, .iconst 5, 1, [], 5, 0),
  (30, .if_icmp .le 6, 3, [36], 0, 0), (33, .bipush (-2), 2, [], (-2), 0), (35, .ireturn, 1, [], 0, 0), (36, .iconst 0, 1, [], 0, 0),
  (37, .istore 6, 2, [], 0, 0), (39, .iload 6, 2, [], 0, 0), (41, .iload_n 3, 1, [], 0, 0), (42, .if_icmp .gt 77, 3, [119], 0, 0),
  (45, .iload 6, 2, [], 0, 0), (47, .invokestatic 263, 3, [7, 1, 1, 0], 0, 893), (50, .istore 7, 2, [], 0, 0), (52, .aload_n 0, 1, [], 0, 0),
  (53, .getfield 40, 3, [11, 5, 2], 0, 376), (56, .iload 6, 2, [], 0, 0), (58, .invokevirtual 266, 3, [4, 2, 0, 1, 10], 0, 896), (61, .iconst 0, 1, [], 0, 0),
  (62, .istore 8, 2, [], 0, 0), (64, .iload 8, 2, [], 0, 0), (66, .iload 7, 2, [], 0, 0), (68, .if_icmp .ge 45, 3, [113], 0, 0),
  (71, .aload 4, 2, [], 0, 0), (73, .aload_n 0, 1, [], 0, 0), (74, .getfield 40, 3, [11, 5, 2], 0, 376), (77, .invokevirtual 136, 3, [16, 2, 2, 1, 4], 0, 545),
  (80, .aload 5, 2, [], 0, 0), (82, .aload_n 0, 1, [], 0, 0), (83, .getfield 40, 3, [11, 5, 2], 0, 376), (86, .invokevirtual 258, 3, [26, 2, 2, 1, 0], 0, 869),
  (89, .if_icmp .eq 11, 3, [100], 0, 0), (92, .aload_n 0, 1, [], 0, 0), (93, .getfield 40, 3, [11, 5, 2], 0, 376), (96, .invokevirtual 275, 3, [6, 1, 1, 1, 10], 0, 913),
  (99, .ireturn, 1, [], 0, 0), (100, .aload_n 0, 1, [], 0, 0), (101, .getfield 40, 3, [11, 5, 2], 0, 376), (104, .invokevirtual 272, 3, [5, 1, 0, 1, 10], 0, 905),
  (107, .iinc 8 1, 3, [], 1, 0), (110, .goto (-46), 3, [64], 0, 0), (113, .iinc 6 1, 3, [], 1, 0), (116, .goto (-77), 3, [39], 0, 0),
  (119, .iconst (-1), 1, [], (-1), 0), (120, .ireturn, 1, [], 0, 0)])
/-- 123: WordMonoids.drawn(III)I -/
def m_WM_drawn : mv_M := (7, 1, [
  (0, .aload_n 0, 1, [], 0, 0), (1, .iload_n 1, 1, [], 0, 0), (2, .invokevirtual 144, 3, [139, 2, 2, 1, 11], 0, 571), (5, .ifCond .eq 13, 3, [18], 0, 0),
  (8, .iload_n 3, 1, [], 0, 0), (9, .ifCond .lt 9, 3, [18], 0, 0), (12, .iload_n 3, 1, [], 0, 0), (13, .bipush 99, 2, [], 99, 0),
  (15, .if_icmp .le 6, 3, [21], 0, 0), (18, .bipush (-2), 2, [], (-2), 0), (20, .ireturn, 1, [], 0, 0), (21, .iload_n 2, 1, [], 0, 0),
  (22, .istore 4, 2, [], 0, 0), (24, .sipush 228, 3, [], 228, 0), (27, .istore 5, 2, [], 0, 0), (29, .iconst 0, 1, [], 0, 0),
  (30, .istore 6, 2, [], 0, 0), (32, .iload 6, 2, [], 0, 0), (34, .iload_n 3, 1, [], 0, 0), (35, .if_icmp .ge 32, 3, [67], 0, 0),
  (38, .iload 4, 2, [], 0, 0), (40, .invokestatic 278, 3, [143, 1, 1, 0], 0, 922), (43, .istore 4, 2, [], 0, 0), (45, .aload_n 0, 1, [], 0, 0),
  (46, .getfield 55, 3, [11, 7, 2], 0, 378), (49, .iload 5, 2, [], 0, 0), (51, .iload 4, 2, [], 0, 0), (53, .invokestatic 281, 3, [144, 1, 1, 0], 0, 926),
  (56, .invokevirtual 165, 3, [60, 3, 1, 1, 5], 0, 597), (59, .istore 5, 2, [], 0, 0), (61, .iinc 6 1, 3, [], 1, 0), (64, .goto (-32), 3, [32], 0, 0),
  (67, .aload_n 0, 1, [], 0, 0), (68, .getfield 55, 3, [11, 7, 2], 0, 378), (71, .iload 5, 2, [], 0, 0), (73, .invokevirtual 168, 3, [58, 2, 1, 1, 5], 0, 598),
  (76, .ireturn, 1, [], 0, 0)])
/-- 124: WordMonoids.chance(IIIII)I -/
def m_WM_chance : mv_M := (10, 1, [
  (0, .aload_n 0, 1, [], 0, 0), (1, .iload_n 1, 1, [], 0, 0), (2, .invokevirtual 87, 3, [135, 2, 4, 1, 11], 0, 427), (5, .astore 6, 2, [], 0, 0),
  (7, .aload 6, 2, [], 0, 0), (9, .ifnull 37, 3, [46], 0, 0), (12, .iload_n 3, 1, [], 0, 0), (13, .iconst 1, 1, [], 1, 0),
  (14, .if_icmp .lt 32, 3, [46], 0, 0), (17, .iload_n 3, 1, [], 0, 0), (18, .bipush 20, 2, [], 20, 0), (20, .if_icmp .gt 26, 3, [46], 0, 0),
  (23, .iload 4, 2, [], 0, 0), (25, .ifCond .lt 21, 3, [46], 0, 0), (28, .iload 4, 2, [], 0, 0), (30, .bipush 99, 2, [], 99, 0),
  (32, .if_icmp .gt 14, 3, [46], 0, 0), (35, .iload 5, 2, [], 0, 0), (37, .ifCond .lt 9, 3, [46], 0, 0), (40, .iload 5, 2, [], 0, 0),
  (42, .iconst 1, 1, [], 1, 0), (43, .if_icmp .le 6, 3, [49], 0, 0), (46, .bipush (-2), 2, [], (-2), 0), (48, .ireturn, 1, [], 0, 0),
  (49, .iconst 0, 1, [], 0, 0), (50, .istore 7, 2, [], 0, 0), (52, .iconst 0, 1, [], 0, 0), (53, .istore 8, 2, [], 0, 0),
  (55, .iload 8, 2, [], 0, 0), (57, .iload_n 3, 1, [], 0, 0), (58, .if_icmp .ge 26, 3, [84], 0, 0), (61, .aload 6, 2, [], 0, 0),
  (63, .iload_n 2, 1, [], 0, 0), (64, .iload 8, 2, [], 0, 0), (66, .iadd, 1, [], 0, 0), (67, .iload 4, 2, [], 0, 0),
  (69, .invokestatic 284, 3, [145, 3, 2, 0], 0, 933), (72, .ifCond .eq 6, 3, [78], 0, 0), (75, .iinc 7 1, 3, [], 1, 0), (78, .iinc 8 1, 3, [], 1, 0),
  (81, .goto (-26), 3, [55], 0, 0), (84, .iload_n 3, 1, [], 0, 0), (85, .iload 7, 2, [], 0, 0), (87, .invokestatic 287, 3, [146, 2, 1, 0], 0, 937),
  (90, .istore 8, 2, [], 0, 0), (92, .iload 5, 2, [], 0, 0), (94, .ifCond .ne 8, 3, [102], 0, 0), (97, .iload 7, 2, [], 0, 0),
  (99, .goto 4, 3, [103], 0, 0), (102, .iload_n 3, 1, [], 0, 0), (103, .istore 9, 2, [], 0, 0), (105, .iload 8, 2, [], 0, 0),
  (107, .ifCond .le 11, 3, [118], 0, 0), (110, .iload 9, 2, [], 0, 0), (112, .iload 8, 2, [], 0, 0), (114, .idiv, 1, [], 0, 0),
  (115, .goto 5, 3, [120], 0, 0), (118, .iload 9, 2, [], 0, 0), (120, .ireturn, 1, [], 0, 0)])
/-- 125: WordMonoids.tells(III)I -/
def m_WM_tells : mv_M := (8, 1, [
  (0, .aload_n 0, 1, [], 0, 0), (1, .iload_n 1, 1, [], 0, 0), (2, .invokevirtual 290, 3, [137, 2, 4, 1, 11], 0, 944), (5, .astore 4, 2, [], 0, 0),
  (7, .aload_n 0, 1, [], 0, 0), (8, .iload_n 2, 1, [], 0, 0), (9, .iload_n 3, 1, [], 0, 0), (10, .invokevirtual 259, 3, [138, 3, 4, 1, 11], 0, 889),
  (13, .astore 5, 2, [], 0, 0), (15, .aload 4, 2, [], 0, 0), (17, .ifnull 8, 3, [25], 0, 0), (20, .aload 5, 2, [], 0, 0),
  (22, .ifnonnull 6, 3, [28], 0, 0), (25, .bipush (-2), 2, [], (-2), 0), (27, .ireturn, 1, [], 0, 0), (28, .aload 4, 2, [], 0, 0),
  (30, .invokevirtual 294, 3, [19, 1, 2, 1, 8], 0, 948), (33, .ifCond .eq 6, 3, [39], 0, 0), (36, .bipush (-11), 2, [], (-11), 0), (38, .ireturn, 1, [], 0, 0),
  (39, .iconst 0, 1, [], 0, 0), (40, .istore 6, 2, [], 0, 0), (42, .iload 6, 2, [], 0, 0), (44, .aload 4, 2, [], 0, 0),
  (46, .getfield 297, 3, [8, 2, 0], 0, 363), (49, .iconst 2, 1, [], 2, 0), (50, .idiv, 1, [], 0, 0), (51, .if_icmp .ge 78, 3, [129], 0, 0),
  (54, .aload 4, 2, [], 0, 0), (56, .iconst 2, 1, [], 2, 0), (57, .iload 6, 2, [], 0, 0), (59, .imul, 1, [], 0, 0),
  (60, .iconst 1, 1, [], 1, 0), (61, .iadd, 1, [], 0, 0), (62, .invokevirtual 300, 3, [22, 2, 1, 1, 8], 0, 952), (65, .istore 7, 2, [], 0, 0),
  (67, .iload 7, 2, [], 0, 0), (69, .ifCond .lt 51, 3, [120], 0, 0), (72, .iload 7, 2, [], 0, 0), (74, .iconst 1, 1, [], 1, 0),
  (75, .if_icmp .gt 45, 3, [120], 0, 0), (78, .aload_n 0, 1, [], 0, 0), (79, .getfield 40, 3, [11, 5, 2], 0, 376), (82, .aload 4, 2, [], 0, 0),
  (84, .iconst 2, 1, [], 2, 0), (85, .iload 6, 2, [], 0, 0), (87, .imul, 1, [], 0, 0), (88, .invokevirtual 300, 3, [22, 2, 1, 1, 8], 0, 952),
  (91, .invokevirtual 133, 3, [2, 2, 2, 1, 10], 0, 541), (94, .ifCond .eq 26, 3, [120], 0, 0), (97, .aload 5, 2, [], 0, 0), (99, .aload_n 0, 1, [], 0, 0),
  (100, .getfield 40, 3, [11, 5, 2], 0, 376), (103, .invokevirtual 269, 3, [16, 2, 2, 2, 4, 26, 0], 0, 900), (106, .iload 7, 2, [], 0, 0), (108, .iconst 1, 1, [], 1, 0),
  (109, .if_icmp .ne 7, 3, [116], 0, 0), (112, .iconst 1, 1, [], 1, 0), (113, .goto 4, 3, [117], 0, 0), (116, .iconst 0, 1, [], 0, 0),
  (117, .if_icmp .eq 6, 3, [123], 0, 0), (120, .iload 6, 2, [], 0, 0), (122, .ireturn, 1, [], 0, 0), (123, .iinc 6 1, 3, [], 1, 0),
  (126, .goto (-84), 3, [42], 0, 0), (129, .iconst (-1), 1, [], (-1), 0), (130, .ireturn, 1, [], 0, 0)])
/-- 126: WordMonoids.film(IIII)I -/
def m_WM_film : mv_M := (11, 1, [
  (0, .aload_n 0, 1, [], 0, 0), (1, .iload_n 1, 1, [], 0, 0), (2, .invokevirtual 290, 3, [137, 2, 4, 1, 11], 0, 944), (5, .astore 5, 2, [], 0, 0),
  (7, .aload_n 0, 1, [], 0, 0), (8, .iload_n 2, 1, [], 0, 0), (9, .iload_n 3, 1, [], 0, 0), (10, .invokevirtual 259, 3, [138, 3, 4, 1, 11], 0, 889),
  (13, .astore 6, 2, [], 0, 0), (15, .aload 5, 2, [], 0, 0), (17, .ifnull 20, 3, [37], 0, 0), (20, .aload 6, 2, [], 0, 0),
  (22, .ifnull 15, 3, [37], 0, 0), (25, .iload 4, 2, [], 0, 0), (27, .ifCond .lt 10, 3, [37], 0, 0), (30, .iload 4, 2, [], 0, 0),
  (32, .bipush 40, 2, [], 40, 0), (34, .if_icmp .le 6, 3, [40], 0, 0), (37, .bipush (-2), 2, [], (-2), 0), (39, .ireturn, 1, [], 0, 0),
  (40, .aload 5, 2, [], 0, 0), (42, .iconst 1, 1, [], 1, 0), (43, .iload 4, 2, [], 0, 0), (45, .invokevirtual 303, 3, [18, 3, 0, 1, 8], 0, 960),
  (48, .iconst 0, 1, [], 0, 0), (49, .istore 7, 2, [], 0, 0), (51, .iconst 0, 1, [], 0, 0), (52, .istore 8, 2, [], 0, 0),
  (54, .iload 8, 2, [], 0, 0), (56, .iconst 5, 1, [], 5, 0), (57, .if_icmp .gt 91, 3, [148], 0, 0), (60, .iload 7, 2, [], 0, 0),
  (62, .iload 4, 2, [], 0, 0), (64, .if_icmp .ge 84, 3, [148], 0, 0), (67, .iload 8, 2, [], 0, 0), (69, .invokestatic 263, 3, [7, 1, 1, 0], 0, 893),
  (72, .istore 9, 2, [], 0, 0), (74, .aload_n 0, 1, [], 0, 0), (75, .getfield 40, 3, [11, 5, 2], 0, 376), (78, .iload 8, 2, [], 0, 0),
  (80, .invokevirtual 266, 3, [4, 2, 0, 1, 10], 0, 896), (83, .iconst 0, 1, [], 0, 0), (84, .istore 10, 2, [], 0, 0), (86, .iload 10, 2, [], 0, 0),
  (88, .iload 9, 2, [], 0, 0), (90, .if_icmp .ge 52, 3, [142], 0, 0), (93, .iload 7, 2, [], 0, 0), (95, .iload 4, 2, [], 0, 0),
  (97, .if_icmp .ge 45, 3, [142], 0, 0), (100, .aload 6, 2, [], 0, 0), (102, .aload_n 0, 1, [], 0, 0), (103, .getfield 40, 3, [11, 5, 2], 0, 376),
  (106, .invokevirtual 269, 3, [16, 2, 2, 2, 4, 26, 0], 0, 900), (109, .ifCond .eq 20, 3, [129], 0, 0), (112, .aload 5, 2, [], 0, 0), (114, .iload 7, 2, [], 0, 0),
  (116, .aload_n 0, 1, [], 0, 0), (117, .getfield 40, 3, [11, 5, 2], 0, 376), (120, .invokevirtual 275, 3, [6, 1, 1, 1, 10], 0, 913), (123, .invokevirtual 306, 3, [23, 3, 0, 1, 8], 0, 967),
  (126, .iinc 7 1, 3, [], 1, 0), (129, .aload_n 0, 1, [], 0, 0), (130, .getfield 40, 3, [11, 5, 2], 0, 376), (133, .invokevirtual 272, 3, [5, 1, 0, 1, 10], 0, 905),
  (136, .iinc 10 1, 3, [], 1, 0), (139, .goto (-53), 3, [86], 0, 0), (142, .iinc 8 1, 3, [], 1, 0), (145, .goto (-91), 3, [54], 0, 0),
  (148, .iload 7, 2, [], 0, 0), (150, .ireturn, 1, [], 0, 0)])
/-- 127: WordMonoids.feed(IIIIII)I -/
def m_WM_feed : mv_M := (8, 1, [
  (0, .iload_n 1, 1, [], 0, 0), (1, .iconst 1, 1, [], 1, 0), (2, .if_icmp .lt 46, 3, [48], 0, 0), (5, .iload_n 1, 1, [], 0, 0),
  (6, .iconst 5, 1, [], 5, 0), (7, .if_icmp .gt 41, 3, [48], 0, 0), (10, .iload_n 2, 1, [], 0, 0), (11, .invokestatic 309, 3, [141, 1, 2, 0], 0, 975),
  (14, .ifCond .eq 34, 3, [48], 0, 0), (17, .iload_n 3, 1, [], 0, 0), (18, .invokestatic 309, 3, [141, 1, 2, 0], 0, 975), (21, .ifCond .eq 27, 3, [48], 0, 0),
  (24, .iload 4, 2, [], 0, 0), (26, .invokestatic 309, 3, [141, 1, 2, 0], 0, 975), (29, .ifCond .eq 19, 3, [48], 0, 0), (32, .iload 5, 2, [], 0, 0),
  (34, .invokestatic 309, 3, [141, 1, 2, 0], 0, 975), (37, .ifCond .eq 11, 3, [48], 0, 0), (40, .iload 6, 2, [], 0, 0), (42, .invokestatic 309, 3, [141, 1, 2, 0], 0, 975),
  (45, .ifCond .ne 6, 3, [51], 0, 0), (48, .bipush (-2), 2, [], (-2), 0), (50, .ireturn, 1, [], 0, 0), (51, .aload_n 0, 1, [], 0, 0),
  (52, .getfield 33, 3, [11, 4, 2], 0, 375), (55, .getfield 312, 3, [7, 4, 0], 0, 129), (58, .iload_n 1, 1, [], 0, 0), (59, .iadd, 1, [], 0, 0),
  (60, .bipush 60, 2, [], 60, 0), (62, .if_icmp .le 6, 3, [68], 0, 0), (65, .bipush (-4), 2, [], (-4), 0), (67, .ireturn, 1, [], 0, 0),
  (68, .iconst 0, 1, [], 0, 0), (69, .istore 7, 2, [], 0, 0), (71, .iload 7, 2, [], 0, 0), (73, .iload_n 1, 1, [], 0, 0),
  (74, .if_icmp .ge 59, 3, [133], 0, 0), (77, .aload_n 0, 1, [], 0, 0), (78, .getfield 33, 3, [11, 4, 2], 0, 375), (81, .iload 7, 2, [], 0, 0),
  (83, .ifCond .ne 7, 3, [90], 0, 0), (86, .iload_n 2, 1, [], 0, 0), (87, .goto 37, 3, [124], 0, 0), (90, .iload 7, 2, [], 0, 0),
  (92, .iconst 1, 1, [], 1, 0), (93, .if_icmp .ne 7, 3, [100], 0, 0), (96, .iload_n 3, 1, [], 0, 0), (97, .goto 27, 3, [124], 0, 0),
  (100, .iload 7, 2, [], 0, 0), (102, .iconst 2, 1, [], 2, 0), (103, .if_icmp .ne 8, 3, [111], 0, 0), (106, .iload 4, 2, [], 0, 0),
  (108, .goto 16, 3, [124], 0, 0), (111, .iload 7, 2, [], 0, 0), (113, .iconst 3, 1, [], 3, 0), (114, .if_icmp .ne 8, 3, [122], 0, 0),
  (117, .iload 5, 2, [], 0, 0), (119, .goto 5, 3, [124], 0, 0), (122, .iload 6, 2, [], 0, 0), (124, .invokevirtual 313, 3, [31, 2, 0, 1, 7], 0, 978),
  (127, .iinc 7 1, 3, [], 1, 0), (130, .goto (-59), 3, [71], 0, 0), (133, .aload_n 0, 1, [], 0, 0), (134, .getfield 33, 3, [11, 4, 2], 0, 375),
  (137, .getfield 312, 3, [7, 4, 0], 0, 129), (140, .ireturn, 1, [], 0, 0)])
/-- 128: WordMonoids.image()I -/
def m_WM_image : mv_M := (2, 1, [
  (0, .iconst 0, 1, [], 0, 0), (1, .istore_n 1, 1, [], 0, 0), (2, .iload_n 1, 1, [], 0, 0), (3, .aload_n 0, 1, [], 0, 0),
  (4, .getfield 70, 3, [11, 10, 0], 0, 381), (7, .if_icmp .ge 29, 3, [36], 0, 0), (10, .iload_n 1, 1, [], 0, 0), (11, .iconst 3, 1, [], 3, 0),
  (12, .if_icmp .ge 24, 3, [36], 0, 0), (15, .aload_n 0, 1, [], 0, 0), (16, .getfield 15, 3, [11, 1, 2], 0, 372), (19, .iload_n 1, 1, [], 0, 0),
  (20, .aaload, 1, [], 0, 0), (21, .aload_n 0, 1, [], 0, 0), (22, .getfield 11, 3, [11, 0, 2], 0, 371), (25, .iload_n 1, 1, [], 0, 0),
  (26, .aaload, 1, [], 0, 0), (27, .invokevirtual 316, 3, [9, 2, 0, 1, 4], 0, 986), (30, .iinc 1 1, 3, [], 1, 0), (33, .goto (-31), 3, [2], 0, 0),
  (36, .aload_n 0, 1, [], 0, 0), (37, .aload_n 0, 1, [], 0, 0), (38, .getfield 70, 3, [11, 10, 0], 0, 381), (41, .putfield 74, 3, [11, 11, 0], 0, 382),
  (44, .aload_n 0, 1, [], 0, 0), (45, .getfield 74, 3, [11, 11, 0], 0, 382), (48, .ireturn, 1, [], 0, 0)])
/-- 129: WordMonoids.back()I -/
def m_WM_back : mv_M := (2, 1, [
  (0, .aload_n 0, 1, [], 0, 0), (1, .getfield 74, 3, [11, 11, 0], 0, 382), (4, .ifCond .ge 6, 3, [10], 0, 0), (7, .bipush (-3), 2, [], (-3), 0),
  (9, .ireturn, 1, [], 0, 0), (10, .iconst 0, 1, [], 0, 0), (11, .istore_n 1, 1, [], 0, 0), (12, .iload_n 1, 1, [], 0, 0),
  (13, .aload_n 0, 1, [], 0, 0), (14, .getfield 74, 3, [11, 11, 0], 0, 382), (17, .if_icmp .ge 29, 3, [46], 0, 0), (20, .iload_n 1, 1, [], 0, 0),
  (21, .iconst 3, 1, [], 3, 0), (22, .if_icmp .ge 24, 3, [46], 0, 0), (25, .aload_n 0, 1, [], 0, 0), (26, .getfield 11, 3, [11, 0, 2], 0, 371),
  (29, .iload_n 1, 1, [], 0, 0), (30, .aaload, 1, [], 0, 0), (31, .aload_n 0, 1, [], 0, 0), (32, .getfield 15, 3, [11, 1, 2], 0, 372),
  (35, .iload_n 1, 1, [], 0, 0), (36, .aaload, 1, [], 0, 0), (37, .invokevirtual 316, 3, [9, 2, 0, 1, 4], 0, 986), (40, .iinc 1 1, 3, [], 1, 0),
  (43, .goto (-31), 3, [12], 0, 0), (46, .aload_n 0, 1, [], 0, 0), (47, .aload_n 0, 1, [], 0, 0), (48, .getfield 74, 3, [11, 11, 0], 0, 382),
  (51, .putfield 70, 3, [11, 10, 0], 0, 381), (54, .aload_n 0, 1, [], 0, 0), (55, .getfield 70, 3, [11, 10, 0], 0, 381), (58, .ireturn, 1, [], 0, 0)])
/-- 130: WordMonoids.load(IIII)I -/
def m_WM_load : mv_M := (10, 1, [
  (0, .aload_n 0, 1, [], 0, 0), (1, .iload_n 1, 1, [], 0, 0), (2, .invokevirtual 290, 3, [137, 2, 4, 1, 11], 0, 944), (5, .astore 5, 2, [], 0, 0),
  (7, .aload_n 0, 1, [], 0, 0), (8, .iload 4, 2, [], 0, 0), (10, .invokevirtual 87, 3, [135, 2, 4, 1, 11], 0, 427), (13, .astore 6, 2, [], 0, 0),
  (15, .aload 5, 2, [], 0, 0), (17, .ifnull 17, 3, [34], 0, 0), (20, .iload_n 2, 1, [], 0, 0), (21, .ifCond .lt 13, 3, [34], 0, 0),
  (24, .iload_n 2, 1, [], 0, 0), (25, .iconst 1, 1, [], 1, 0), (26, .if_icmp .gt 8, 3, [34], 0, 0), (29, .aload 6, 2, [], 0, 0),
  (31, .ifnonnull 6, 3, [37], 0, 0), (34, .bipush (-2), 2, [], (-2), 0), (36, .ireturn, 1, [], 0, 0), (37, .aload 5, 2, [], 0, 0),
  (39, .invokevirtual 294, 3, [19, 1, 2, 1, 8], 0, 948), (42, .ifCond .eq 6, 3, [48], 0, 0), (45, .bipush (-11), 2, [], (-11), 0), (47, .ireturn, 1, [], 0, 0),
  (48, .aload 5, 2, [], 0, 0), (50, .getfield 319, 3, [8, 1, 0], 0, 361), (53, .iload_n 2, 1, [], 0, 0), (54, .if_icmp .eq 6, 3, [60], 0, 0),
  (57, .bipush (-13), 2, [], (-13), 0), (59, .ireturn, 1, [], 0, 0), (60, .aload 5, 2, [], 0, 0), (62, .iload_n 3, 1, [], 0, 0),
  (63, .invokevirtual 322, 3, [20, 2, 2, 1, 8], 0, 999), (66, .ifCond .ne 6, 3, [72], 0, 0), (69, .bipush (-12), 2, [], (-12), 0), (71, .ireturn, 1, [], 0, 0),
  (72, .iconst 0, 1, [], 0, 0), (73, .istore 7, 2, [], 0, 0), (75, .iconst 0, 1, [], 0, 0), (76, .istore 8, 2, [], 0, 0),
  (78, .iload 8, 2, [], 0, 0), (80, .iconst 3, 1, [], 3, 0), (81, .aload 6, 2, [], 0, 0), (83, .getfield 116, 3, [4, 1, 0], 0, 323),
  (86, .imul, 1, [], 0, 0), (87, .if_icmp .ge 63, 3, [150], 0, 0), (90, .aload 5, 2, [], 0, 0), (92, .iload_n 3, 1, [], 0, 0),
  (93, .iload 8, 2, [], 0, 0), (95, .iadd, 1, [], 0, 0), (96, .invokevirtual 322, 3, [20, 2, 2, 1, 8], 0, 999), (99, .ifCond .ne 6, 3, [105], 0, 0),
  (102, .bipush (-12), 2, [], (-12), 0), (104, .ireturn, 1, [], 0, 0), (105, .aload 5, 2, [], 0, 0), (107, .iload_n 3, 1, [], 0, 0),
  (108, .iload 8, 2, [], 0, 0), (110, .iadd, 1, [], 0, 0), (111, .invokevirtual 300, 3, [22, 2, 1, 1, 8], 0, 952), (114, .istore 9, 2, [], 0, 0),
  (116, .aload 6, 2, [], 0, 0), (118, .iload 9, 2, [], 0, 0), (120, .invokevirtual 91, 3, [10, 2, 2, 1, 4], 0, 431), (123, .ifCond .eq 21, 3, [144], 0, 0),
  (126, .aload 6, 2, [], 0, 0), (128, .iload 8, 2, [], 0, 0), (130, .iconst 3, 1, [], 3, 0), (131, .idiv, 1, [], 0, 0),
  (132, .iload 8, 2, [], 0, 0), (134, .iconst 3, 1, [], 3, 0), (135, .irem, 1, [], 0, 0), (136, .iload 9, 2, [], 0, 0),
  (138, .invokevirtual 102, 3, [14, 4, 0, 1, 4], 0, 442), (141, .iinc 7 1, 3, [], 1, 0), (144, .iinc 8 1, 3, [], 1, 0), (147, .goto (-69), 3, [78], 0, 0),
  (150, .iload 7, 2, [], 0, 0), (152, .ireturn, 1, [], 0, 0)])
/-- 131: WordMonoids.count(I)I -/
def m_WM_count : mv_M := (2, 1, [
  (0, .iload_n 1, 1, [], 0, 0), (1, .tableswitch 54 0 3 #[31, 36, 41, 49], 31, [55, 32, 37, 42, 50], 0, 0), (32, .aload_n 0, 1, [], 0, 0), (33, .getfield 70, 3, [11, 10, 0], 0, 381),
  (36, .ireturn, 1, [], 0, 0), (37, .aload_n 0, 1, [], 0, 0), (38, .getfield 77, 3, [11, 12, 0], 0, 383), (41, .ireturn, 1, [], 0, 0),
  (42, .aload_n 0, 1, [], 0, 0), (43, .getfield 33, 3, [11, 4, 2], 0, 375), (46, .getfield 312, 3, [7, 4, 0], 0, 129), (49, .ireturn, 1, [], 0, 0),
  (50, .aload_n 0, 1, [], 0, 0), (51, .invokevirtual 325, 3, [142, 1, 1, 1, 11], 0, 1007), (54, .ireturn, 1, [], 0, 0), (55, .bipush (-2), 2, [], (-2), 0),
  (57, .ireturn, 1, [], 0, 0)])
/-- 132: WordMonoids.sheet(III)I -/
def m_WM_sheet : mv_M := (5, 1, [
  (0, .aload_n 0, 1, [], 0, 0), (1, .iload_n 1, 1, [], 0, 0), (2, .invokevirtual 290, 3, [137, 2, 4, 1, 11], 0, 944), (5, .astore 4, 2, [], 0, 0),
  (7, .aload 4, 2, [], 0, 0), (9, .ifnull 13, 3, [22], 0, 0), (12, .iload_n 2, 1, [], 0, 0), (13, .iconst (-1), 1, [], (-1), 0),
  (14, .if_icmp .lt 8, 3, [22], 0, 0), (17, .iload_n 2, 1, [], 0, 0), (18, .iconst 1, 1, [], 1, 0), (19, .if_icmp .le 6, 3, [25], 0, 0),
  (22, .bipush (-2), 2, [], (-2), 0), (24, .ireturn, 1, [], 0, 0), (25, .iload_n 2, 1, [], 0, 0), (26, .iconst (-1), 1, [], (-1), 0),
  (27, .if_icmp .ne 12, 3, [39], 0, 0), (30, .aload 4, 2, [], 0, 0), (32, .iload_n 2, 1, [], 0, 0), (33, .iconst 0, 1, [], 0, 0),
  (34, .invokevirtual 303, 3, [18, 3, 0, 1, 8], 0, 960), (37, .iconst 1, 1, [], 1, 0), (38, .ireturn, 1, [], 0, 0), (39, .iload_n 3, 1, [], 0, 0),
  (40, .bipush 40, 2, [], 40, 0), (42, .if_icmp .le 6, 3, [48], 0, 0), (45, .bipush (-2), 2, [], (-2), 0), (47, .ireturn, 1, [], 0, 0),
  (48, .iload_n 3, 1, [], 0, 0), (49, .ifCond .ge 6, 3, [55], 0, 0), (52, .bipush (-14), 2, [], (-14), 0), (54, .ireturn, 1, [], 0, 0),
  (55, .aload 4, 2, [], 0, 0), (57, .iload_n 2, 1, [], 0, 0), (58, .iload_n 3, 1, [], 0, 0), (59, .invokevirtual 303, 3, [18, 3, 0, 1, 8], 0, 960),
  (62, .iconst 1, 1, [], 1, 0), (63, .ireturn, 1, [], 0, 0)])
/-- 133: WordMonoids.put(III)I -/
def m_WM_put : mv_M := (5, 1, [
  (0, .aload_n 0, 1, [], 0, 0), (1, .iload_n 1, 1, [], 0, 0), (2, .invokevirtual 290, 3, [137, 2, 4, 1, 11], 0, 944), (5, .astore 4, 2, [], 0, 0),
  (7, .aload 4, 2, [], 0, 0), (9, .ifnonnull 6, 3, [15], 0, 0), (12, .bipush (-2), 2, [], (-2), 0), (14, .ireturn, 1, [], 0, 0),
  (15, .aload 4, 2, [], 0, 0), (17, .invokevirtual 294, 3, [19, 1, 2, 1, 8], 0, 948), (20, .ifCond .eq 6, 3, [26], 0, 0), (23, .bipush (-11), 2, [], (-11), 0),
  (25, .ireturn, 1, [], 0, 0), (26, .aload 4, 2, [], 0, 0), (28, .iload_n 2, 1, [], 0, 0), (29, .invokevirtual 322, 3, [20, 2, 2, 1, 8], 0, 999),
  (32, .ifCond .ne 6, 3, [38], 0, 0), (35, .bipush (-12), 2, [], (-12), 0), (37, .ireturn, 1, [], 0, 0), (38, .aload 4, 2, [], 0, 0),
  (40, .iload_n 2, 1, [], 0, 0), (41, .iload_n 3, 1, [], 0, 0), (42, .invokevirtual 306, 3, [23, 3, 0, 1, 8], 0, 967), (45, .iconst 1, 1, [], 1, 0),
  (46, .ireturn, 1, [], 0, 0)])
/-- 134: WordMonoids.copy(IIIII)I -/
def m_WM_copy : mv_M := (8, 1, [
  (0, .aload_n 0, 1, [], 0, 0), (1, .iload_n 1, 1, [], 0, 0), (2, .invokevirtual 290, 3, [137, 2, 4, 1, 11], 0, 944), (5, .astore 6, 2, [], 0, 0),
  (7, .aload_n 0, 1, [], 0, 0), (8, .iload_n 3, 1, [], 0, 0), (9, .invokevirtual 290, 3, [137, 2, 4, 1, 11], 0, 944), (12, .astore 7, 2, [], 0, 0),
  (14, .aload 6, 2, [], 0, 0), (16, .ifnull 8, 3, [24], 0, 0), (19, .aload 7, 2, [], 0, 0), (21, .ifnonnull 6, 3, [27], 0, 0),
  (24, .bipush (-2), 2, [], (-2), 0), (26, .ireturn, 1, [], 0, 0), (27, .aload 6, 2, [], 0, 0), (29, .invokevirtual 294, 3, [19, 1, 2, 1, 8], 0, 948),
  (32, .ifCond .ne 11, 3, [43], 0, 0), (35, .aload 7, 2, [], 0, 0), (37, .invokevirtual 294, 3, [19, 1, 2, 1, 8], 0, 948), (40, .ifCond .eq 6, 3, [46], 0, 0),
  (43, .bipush (-11), 2, [], (-11), 0), (45, .ireturn, 1, [], 0, 0), (46, .aload 6, 2, [], 0, 0), (48, .getfield 319, 3, [8, 1, 0], 0, 361),
  (51, .aload 7, 2, [], 0, 0), (53, .getfield 319, 3, [8, 1, 0], 0, 361), (56, .if_icmp .eq 6, 3, [62], 0, 0), (59, .bipush (-13), 2, [], (-13), 0),
  (61, .ireturn, 1, [], 0, 0), (62, .aload 6, 2, [], 0, 0), (64, .iload_n 2, 1, [], 0, 0), (65, .iload 5, 2, [], 0, 0),
  (67, .invokevirtual 328, 3, [21, 3, 2, 1, 8], 0, 1023), (70, .ifCond .eq 15, 3, [85], 0, 0), (73, .aload 7, 2, [], 0, 0), (75, .iload 4, 2, [], 0, 0),
  (77, .iload 5, 2, [], 0, 0), (79, .invokevirtual 328, 3, [21, 3, 2, 1, 8], 0, 1023), (82, .ifCond .ne 6, 3, [88], 0, 0), (85, .bipush (-12), 2, [], (-12), 0),
  (87, .ireturn, 1, [], 0, 0), (88, .aload 6, 2, [], 0, 0), (90, .getfield 332, 3, [8, 0, 2], 0, 359), (93, .iload_n 2, 1, [], 0, 0),
  (94, .aload 7, 2, [], 0, 0), (96, .getfield 332, 3, [8, 0, 2], 0, 359), (99, .iload 4, 2, [], 0, 0), (101, .iload 5, 2, [], 0, 0),
  (103, .invokestatic 335, 3, [0, 0, 0, 3, 20], 0, 1027), (106, .iload 5, 2, [], 0, 0), (108, .ireturn, 1, [], 0, 0)])
/-- 135: WordMonoids.machineAt(I)LWordMonoids$Machine; -/
def m_WM_machineAt : mv_M := (2, 4, [
  (0, .iload_n 1, 1, [], 0, 0), (1, .ifCond .lt 25, 3, [26], 0, 0), (4, .iload_n 1, 1, [], 0, 0), (5, .aload_n 0, 1, [], 0, 0),
  (6, .getfield 70, 3, [11, 10, 0], 0, 381), (9, .if_icmp .ge 17, 3, [26], 0, 0), (12, .iload_n 1, 1, [], 0, 0), (13, .iconst 3, 1, [], 3, 0),
  (14, .if_icmp .ge 12, 3, [26], 0, 0), (17, .aload_n 0, 1, [], 0, 0), (18, .getfield 11, 3, [11, 0, 2], 0, 371), (21, .iload_n 1, 1, [], 0, 0),
  (22, .aaload, 1, [], 0, 0), (23, .goto 4, 3, [27], 0, 0), (26, .aconst_null, 1, [], 0, 0), (27, .areturn, 1, [], 0, 0)])
/-- 136: WordMonoids.formulaAt(I)LWordMonoids$Formula; -/
def m_WM_formulaAt : mv_M := (2, 4, [
  (0, .iload_n 1, 1, [], 0, 0), (1, .ifCond .lt 25, 3, [26], 0, 0), (4, .iload_n 1, 1, [], 0, 0), (5, .aload_n 0, 1, [], 0, 0),
  (6, .getfield 77, 3, [11, 12, 0], 0, 383), (9, .if_icmp .ge 17, 3, [26], 0, 0), (12, .iload_n 1, 1, [], 0, 0), (13, .iconst 4, 1, [], 4, 0),
  (14, .if_icmp .ge 12, 3, [26], 0, 0), (17, .aload_n 0, 1, [], 0, 0), (18, .getfield 20, 3, [11, 2, 2], 0, 373), (21, .iload_n 1, 1, [], 0, 0),
  (22, .aaload, 1, [], 0, 0), (23, .goto 4, 3, [27], 0, 0), (26, .aconst_null, 1, [], 0, 0), (27, .areturn, 1, [], 0, 0)])
/-- 137: WordMonoids.sheetAt(I)LWordMonoids$Sheet; -/
def m_WM_sheetAt : mv_M := (2, 4, [
  (0, .iload_n 1, 1, [], 0, 0), (1, .ifCond .lt 17, 3, [18], 0, 0), (4, .iload_n 1, 1, [], 0, 0), (5, .iconst 4, 1, [], 4, 0),
  (6, .if_icmp .ge 12, 3, [18], 0, 0), (9, .aload_n 0, 1, [], 0, 0), (10, .getfield 26, 3, [11, 3, 2], 0, 374), (13, .iload_n 1, 1, [], 0, 0),
  (14, .aaload, 1, [], 0, 0), (15, .goto 4, 3, [19], 0, 0), (18, .aconst_null, 1, [], 0, 0), (19, .areturn, 1, [], 0, 0)])
/-- 138: WordMonoids.takerAt(II)LWordMonoids$Taker; -/
def m_WM_takerAt : mv_M := (3, 4, [
  (0, .iload_n 1, 1, [], 0, 0), (1, .ifCond .ne 9, 3, [10], 0, 0), (4, .aload_n 0, 1, [], 0, 0), (5, .iload_n 2, 1, [], 0, 0),
  (6, .invokevirtual 87, 3, [135, 2, 4, 1, 11], 0, 427), (9, .areturn, 1, [], 0, 0), (10, .iload_n 1, 1, [], 0, 0), (11, .iconst 1, 1, [], 1, 0),
  (12, .if_icmp .ne 11, 3, [23], 0, 0), (15, .aload_n 0, 1, [], 0, 0), (16, .iload_n 2, 1, [], 0, 0), (17, .invokevirtual 254, 3, [136, 2, 4, 1, 11], 0, 865),
  (20, .goto 4, 3, [24], 0, 0), (23, .aconst_null, 1, [], 0, 0), (24, .areturn, 1, [], 0, 0)])
/-- 139: WordMonoids.learnt(I)Z -/
def m_WM_learnt : mv_M := (3, 2, [
  (0, .aload_n 0, 1, [], 0, 0), (1, .iload_n 1, 1, [], 0, 0), (2, .invokevirtual 87, 3, [135, 2, 4, 1, 11], 0, 427), (5, .astore_n 2, 1, [], 0, 0),
  (6, .aload_n 2, 1, [], 0, 0), (7, .ifnonnull 5, 3, [12], 0, 0), (10, .iconst 0, 1, [], 0, 0), (11, .ireturn, 1, [], 0, 0),
  (12, .aload_n 0, 1, [], 0, 0), (13, .getfield 55, 3, [11, 7, 2], 0, 378), (16, .aload_n 2, 1, [], 0, 0), (17, .invokevirtual 119, 3, [55, 2, 0, 1, 5], 0, 462),
  (20, .iconst 1, 1, [], 1, 0), (21, .ireturn, 1, [], 0, 0)])
/-- 140: WordMonoids.isLetter(I)Z -/
def m_WM_isLetter : mv_M := (1, 2, [
  (0, .iload_n 0, 1, [], 0, 0), (1, .ifCond .lt 12, 3, [13], 0, 0), (4, .iload_n 0, 1, [], 0, 0), (5, .iconst 3, 1, [], 3, 0),
  (6, .if_icmp .ge 7, 3, [13], 0, 0), (9, .iconst 1, 1, [], 1, 0), (10, .goto 4, 3, [14], 0, 0), (13, .iconst 0, 1, [], 0, 0),
  (14, .ireturn, 1, [], 0, 0)])
/-- 141: WordMonoids.isByte(I)Z -/
def m_WM_isByte : mv_M := (1, 2, [
  (0, .iload_n 0, 1, [], 0, 0), (1, .ifCond .lt 14, 3, [15], 0, 0), (4, .iload_n 0, 1, [], 0, 0), (5, .sipush 255, 3, [], 255, 0),
  (8, .if_icmp .gt 7, 3, [15], 0, 0), (11, .iconst 1, 1, [], 1, 0), (12, .goto 4, 3, [16], 0, 0), (15, .iconst 0, 1, [], 0, 0),
  (16, .ireturn, 1, [], 0, 0)])
/-- 142: WordMonoids.pointsOfAll()I -/
def m_WM_pointsOfAll : mv_M := (3, 1, [
  (0, .iconst 0, 1, [], 0, 0), (1, .istore_n 1, 1, [], 0, 0), (2, .iconst 0, 1, [], 0, 0), (3, .istore_n 2, 1, [], 0, 0),
  (4, .iload_n 2, 1, [], 0, 0), (5, .aload_n 0, 1, [], 0, 0), (6, .getfield 70, 3, [11, 10, 0], 0, 381), (9, .if_icmp .ge 26, 3, [35], 0, 0),
  (12, .iload_n 2, 1, [], 0, 0), (13, .iconst 3, 1, [], 3, 0), (14, .if_icmp .ge 21, 3, [35], 0, 0), (17, .iload_n 1, 1, [], 0, 0),
  (18, .aload_n 0, 1, [], 0, 0), (19, .getfield 11, 3, [11, 0, 2], 0, 371), (22, .iload_n 2, 1, [], 0, 0), (23, .aaload, 1, [], 0, 0),
  (24, .getfield 116, 3, [4, 1, 0], 0, 323), (27, .iadd, 1, [], 0, 0), (28, .istore_n 1, 1, [], 0, 0), (29, .iinc 2 1, 3, [], 1, 0),
  (32, .goto (-28), 3, [4], 0, 0), (35, .iload_n 1, 1, [], 0, 0), (36, .ireturn, 1, [], 0, 0)])
/-- 143: WordMonoids.nextLot(I)I -/
def m_WM_nextLot : mv_M := (1, 1, [
  (0, .iload_n 0, 1, [], 0, 0), (1, .ldc_w 341, 3, [], 1103515245, 0), (4, .imul, 1, [], 0, 0), (5, .sipush 12345, 3, [], 12345, 0),
  (8, .iadd, 1, [], 0, 0), (9, .ireturn, 1, [], 0, 0)])
/-- 144: WordMonoids.lotLetter(I)I -/
def m_WM_lotLetter : mv_M := (1, 1, [
  (0, .iload_n 0, 1, [], 0, 0), (1, .bipush 9, 2, [], 9, 0), (3, .iushr, 1, [], 0, 0), (4, .iconst 3, 1, [], 3, 0),
  (5, .irem, 1, [], 0, 0), (6, .ireturn, 1, [], 0, 0)])
/-- 145: WordMonoids.takesDrawn(LWordMonoids$Machine;II)Z -/
def m_WM_takesDrawn : mv_M := (6, 2, [
  (0, .iload_n 1, 1, [], 0, 0), (1, .istore_n 3, 1, [], 0, 0), (2, .aload_n 0, 1, [], 0, 0), (3, .getfield 113, 3, [4, 2, 0], 0, 328),
  (6, .istore 4, 2, [], 0, 0), (8, .iconst 0, 1, [], 0, 0), (9, .istore 5, 2, [], 0, 0), (11, .iload 5, 2, [], 0, 0),
  (13, .iload_n 2, 1, [], 0, 0), (14, .if_icmp .ge 26, 3, [40], 0, 0), (17, .iload_n 3, 1, [], 0, 0), (18, .invokestatic 278, 3, [143, 1, 1, 0], 0, 922),
  (21, .istore_n 3, 1, [], 0, 0), (22, .aload_n 0, 1, [], 0, 0), (23, .iload 4, 2, [], 0, 0), (25, .iload_n 3, 1, [], 0, 0),
  (26, .invokestatic 281, 3, [144, 1, 1, 0], 0, 926), (29, .invokevirtual 98, 3, [13, 3, 1, 1, 4], 0, 438), (32, .istore 4, 2, [], 0, 0), (34, .iinc 5 1, 3, [], 1, 0),
  (37, .goto (-26), 3, [11], 0, 0), (40, .aload_n 0, 1, [], 0, 0), (41, .iload 4, 2, [], 0, 0), (43, .invokevirtual 342, 3, [12, 2, 2, 1, 4], 0, 936),
  (46, .ireturn, 1, [], 0, 0)])
/-- 146: WordMonoids.commonDivisor(II)I -/
def m_WM_commonDivisor : mv_M := (6, 1, [
  (0, .iload_n 0, 1, [], 0, 0), (1, .istore_n 2, 1, [], 0, 0), (2, .iload_n 1, 1, [], 0, 0), (3, .istore_n 3, 1, [], 0, 0),
  (4, .iconst 0, 1, [], 0, 0), (5, .istore 4, 2, [], 0, 0), (7, .iload 4, 2, [], 0, 0), (9, .bipush 20, 2, [], 20, 0),
  (11, .if_icmp .ge 23, 3, [34], 0, 0), (14, .iload_n 3, 1, [], 0, 0), (15, .ifCond .le 19, 3, [34], 0, 0), (18, .iload_n 2, 1, [], 0, 0),
  (19, .iload_n 3, 1, [], 0, 0), (20, .irem, 1, [], 0, 0), (21, .istore 5, 2, [], 0, 0), (23, .iload_n 3, 1, [], 0, 0),
  (24, .istore_n 2, 1, [], 0, 0), (25, .iload 5, 2, [], 0, 0), (27, .istore_n 3, 1, [], 0, 0), (28, .iinc 4 1, 3, [], 1, 0),
  (31, .goto (-24), 3, [7], 0, 0), (34, .iload_n 2, 1, [], 0, 0), (35, .ireturn, 1, [], 0, 0)])
/-- 147: WordMonoidsModel.in(JJJ)Z -/
def m_Ref_in : mv_M := (6, 2, [
  (0, .lload_n 0, 1, [], 0, 0), (1, .lload_n 2, 1, [], 0, 0), (2, .lcmp, 1, [], 0, 0), (3, .ifCond .lt 14, 3, [17], 0, 0),
  (6, .lload_n 0, 1, [], 0, 0), (7, .lload 4, 2, [], 0, 0), (9, .lcmp, 1, [], 0, 0), (10, .ifCond .gt 7, 3, [17], 0, 0),
  (13, .iconst 1, 1, [], 1, 0), (14, .goto 4, 3, [18], 0, 0), (17, .iconst 0, 1, [], 0, 0), (18, .ireturn, 1, [], 0, 0)])
/-- 148: WordMonoidsModel.bit(Z)I -/
def m_Ref_bit : mv_M := (1, 1, [
  (0, .iload_n 0, 1, [], 0, 0), (1, .ifCond .eq 7, 3, [8], 0, 0), (4, .iconst 1, 1, [], 1, 0), (5, .goto 4, 3, [9], 0, 0),
  (8, .iconst 0, 1, [], 0, 0), (9, .ireturn, 1, [], 0, 0)])
/-- 149: WordMonoidsModel.isMachine(I)Z -/
def m_Ref_isMachine : mv_M := (2, 2, [
  (0, .iload_n 1, 1, [], 0, 0), (1, .i2l, 1, [], 0, 0), (2, .lconst 0, 1, [], 0, 0), (3, .aload_n 0, 1, [], 0, 0),
  (4, .getfield 120, 3, [12, 1, 0], 0, 1037), (7, .iconst 1, 1, [], 1, 0), (8, .isub, 1, [], 0, 0), (9, .i2l, 1, [], 0, 0),
  (10, .invokestatic 123, 3, [147, 3, 2, 0], 0, 1210), (13, .ireturn, 1, [], 0, 0)])
/-- 150: WordMonoidsModel.pointsOf(I)I -/
def m_Ref_pointsOf : mv_M := (2, 1, [
  (0, .aload_n 0, 1, [], 0, 0), (1, .getfield 9, 3, [12, 0, 2], 0, 1036), (4, .bipush 15, 2, [], 15, 0), (6, .iload_n 1, 1, [], 0, 0),
  (7, .imul, 1, [], 0, 0), (8, .iaload, 1, [], 0, 0), (9, .ireturn, 1, [], 0, 0)])
/-- 151: WordMonoidsModel.isPoint(II)Z -/
def m_Ref_isPoint : mv_M := (3, 2, [
  (0, .iload_n 2, 1, [], 0, 0), (1, .i2l, 1, [], 0, 0), (2, .lconst 0, 1, [], 0, 0), (3, .aload_n 0, 1, [], 0, 0),
  (4, .iload_n 1, 1, [], 0, 0), (5, .invokevirtual 127, 3, [150, 2, 1, 1, 12], 0, 1229), (8, .iconst 1, 1, [], 1, 0), (9, .isub, 1, [], 0, 0),
  (10, .i2l, 1, [], 0, 0), (11, .invokestatic 123, 3, [147, 3, 2, 0], 0, 1210), (14, .ireturn, 1, [], 0, 0)])
/-- 152: WordMonoidsModel.isLetter(I)Z -/
def m_Ref_isLetter : mv_M := (1, 2, [
  (0, .iload_n 0, 1, [], 0, 0), (1, .i2l, 1, [], 0, 0), (2, .lconst 0, 1, [], 0, 0), (3, .ldc2_w 131, 3, [], 0, 2),
  (6, .invokestatic 123, 3, [147, 3, 2, 0], 0, 1210), (9, .ireturn, 1, [], 0, 0)])
/-- 153: WordMonoidsModel.to(III)I -/
def m_Ref_to : mv_M := (4, 1, [
  (0, .aload_n 0, 1, [], 0, 0), (1, .getfield 9, 3, [12, 0, 2], 0, 1036), (4, .bipush 15, 2, [], 15, 0), (6, .iload_n 1, 1, [], 0, 0),
  (7, .imul, 1, [], 0, 0), (8, .iconst 3, 1, [], 3, 0), (9, .iadd, 1, [], 0, 0), (10, .iconst 3, 1, [], 3, 0),
  (11, .iload_n 2, 1, [], 0, 0), (12, .imul, 1, [], 0, 0), (13, .iadd, 1, [], 0, 0), (14, .iload_n 3, 1, [], 0, 0),
  (15, .iadd, 1, [], 0, 0), (16, .iaload, 1, [], 0, 0), (17, .ireturn, 1, [], 0, 0)])
/-- 154: WordMonoidsModel.startOf(I)I -/
def m_Ref_startOf : mv_M := (2, 1, [
  (0, .aload_n 0, 1, [], 0, 0), (1, .getfield 9, 3, [12, 0, 2], 0, 1036), (4, .bipush 15, 2, [], 15, 0), (6, .iload_n 1, 1, [], 0, 0),
  (7, .imul, 1, [], 0, 0), (8, .iconst 1, 1, [], 1, 0), (9, .iadd, 1, [], 0, 0), (10, .iaload, 1, [], 0, 0),
  (11, .ireturn, 1, [], 0, 0)])
/-- 155: WordMonoidsModel.isEnd(II)Z -/
def m_Ref_isEnd : mv_M := (3, 2, [
  (0, .aload_n 0, 1, [], 0, 0), (1, .getfield 9, 3, [12, 0, 2], 0, 1036), (4, .bipush 15, 2, [], 15, 0), (6, .iload_n 1, 1, [], 0, 0),
  (7, .imul, 1, [], 0, 0), (8, .iconst 2, 1, [], 2, 0), (9, .iadd, 1, [], 0, 0), (10, .iaload, 1, [], 0, 0),
  (11, .iload_n 2, 1, [], 0, 0), (12, .ishr, 1, [], 0, 0), (13, .iconst 1, 1, [], 1, 0), (14, .iand, 1, [], 0, 0),
  (15, .iconst 1, 1, [], 1, 0), (16, .if_icmp .ne 7, 3, [23], 0, 0), (19, .iconst 1, 1, [], 1, 0), (20, .goto 4, 3, [24], 0, 0),
  (23, .iconst 0, 1, [], 0, 0), (24, .ireturn, 1, [], 0, 0)])
/-- 156: WordMonoidsModel.isWord(I)Z -/
def m_Ref_isWord : mv_M := (5, 2, [
  (0, .iload_n 1, 1, [], 0, 0), (1, .ifCond .ge 5, 3, [6], 0, 0), (4, .iconst 0, 1, [], 0, 0), (5, .ireturn, 1, [], 0, 0),
  (6, .aload_n 0, 1, [], 0, 0), (7, .iconst 0, 1, [], 0, 0), (8, .putfield 133, 3, [12, 6, 0], 0, 1042), (11, .iload_n 1, 1, [], 0, 0),
  (12, .istore_n 2, 1, [], 0, 0), (13, .iload_n 2, 1, [], 0, 0), (14, .ifCond .le 62, 3, [76], 0, 0), (17, .aload_n 0, 1, [], 0, 0),
  (18, .getfield 133, 3, [12, 6, 0], 0, 1042), (21, .bipush 9, 2, [], 9, 0), (23, .if_icmp .eq 18, 3, [41], 0, 0), (26, .iload_n 2, 1, [], 0, 0),
  (27, .bipush 10, 2, [], 10, 0), (29, .irem, 1, [], 0, 0), (30, .i2l, 1, [], 0, 0), (31, .lconst 1, 1, [], 0, 1),
  (32, .ldc2_w 136, 3, [], 0, 3), (35, .invokestatic 123, 3, [147, 3, 2, 0], 0, 1210), (38, .ifCond .ne 5, 3, [43], 0, 0), (41, .iconst 0, 1, [], 0, 0),
  (42, .ireturn, 1, [], 0, 0), (43, .aload_n 0, 1, [], 0, 0), (44, .getfield 16, 3, [12, 5, 2], 0, 1041), (47, .aload_n 0, 1, [], 0, 0),
  (48, .getfield 133, 3, [12, 6, 0], 0, 1042), (51, .iload_n 2, 1, [], 0, 0), (52, .bipush 10, 2, [], 10, 0), (54, .irem, 1, [], 0, 0),
  (55, .iconst 1, 1, [], 1, 0), (56, .isub, 1, [], 0, 0), (57, .iastore, 1, [], 0, 0), (58, .aload_n 0, 1, [], 0, 0),
  (59, .dup, 1, [], 0, 0), (60, .getfield 133, 3, [12, 6, 0], 0, 1042), (63, .iconst 1, 1, [], 1, 0), (64, .iadd, 1, [], 0, 0),
  (65, .putfield 133, 3, [12, 6, 0], 0, 1042), (68, .iload_n 2, 1, [], 0, 0), (69, .bipush 10, 2, [], 10, 0), (71, .idiv, 1, [], 0, 0),
  (72, .istore_n 2, 1, [], 0, 0), (73, .goto (-60), 3, [13], 0, 0), (76, .iconst 0, 1, [], 0, 0), (77, .istore_n 3, 1, [], 0, 0),
  (78, .iload_n 3, 1, [], 0, 0), (79, .aload_n 0, 1, [], 0, 0), (80, .getfield 133, 3, [12, 6, 0], 0, 1042), (83, .iconst 2, 1, [], 2, 0),
  (84, .idiv, 1, [], 0, 0), (85, .if_icmp .ge 51, 3, [136], 0, 0), (88, .aload_n 0, 1, [], 0, 0), (89, .getfield 16, 3, [12, 5, 2], 0, 1041),
  (92, .iload_n 3, 1, [], 0, 0), (93, .iaload, 1, [], 0, 0), (94, .istore 4, 2, [], 0, 0), (96, .aload_n 0, 1, [], 0, 0),
  (97, .getfield 16, 3, [12, 5, 2], 0, 1041), (100, .iload_n 3, 1, [], 0, 0), (101, .aload_n 0, 1, [], 0, 0), (102, .getfield 16, 3, [12, 5, 2], 0, 1041),
  (105, .aload_n 0, 1, [], 0, 0), (106, .getfield 133, 3, [12, 6, 0], 0, 1042), (109, .iconst 1, 1, [], 1, 0), (110, .isub, 1, [], 0, 0),
  (111, .iload_n 3, 1, [], 0, 0), (112, .isub, 1, [], 0, 0), (113, .iaload, 1, [], 0, 0), (114, .iastore, 1, [], 0, 0),
  (115, .aload_n 0, 1, [], 0, 0), (116, .getfield 16, 3, [12, 5, 2], 0, 1041), (119, .aload_n 0, 1, [], 0, 0), (120, .getfield 133, 3, [12, 6, 0], 0, 1042),
  (123, .iconst 1, 1, [], 1, 0), (124, .isub, 1, [], 0, 0), (125, .iload_n 3, 1, [], 0, 0), (126, .isub, 1, [], 0, 0),
  (127, .iload 4, 2, [], 0, 0), (129, .iastore, 1, [], 0, 0), (130, .iinc 3 1, 3, [], 1, 0), (133, .goto (-55), 3, [78], 0, 0),
  (136, .iconst 1, 1, [], 1, 0), (137, .ireturn, 1, [], 0, 0)])
/-- 157: WordMonoidsModel.wordNow()I -/
def m_Ref_wordNow : mv_M := (3, 1, [
  (0, .iconst 0, 1, [], 0, 0), (1, .istore_n 1, 1, [], 0, 0), (2, .iconst 0, 1, [], 0, 0), (3, .istore_n 2, 1, [], 0, 0),
  (4, .iload_n 2, 1, [], 0, 0), (5, .aload_n 0, 1, [], 0, 0), (6, .getfield 133, 3, [12, 6, 0], 0, 1042), (9, .if_icmp .ge 23, 3, [32], 0, 0),
  (12, .bipush 10, 2, [], 10, 0), (14, .iload_n 1, 1, [], 0, 0), (15, .imul, 1, [], 0, 0), (16, .aload_n 0, 1, [], 0, 0),
  (17, .getfield 16, 3, [12, 5, 2], 0, 1041), (20, .iload_n 2, 1, [], 0, 0), (21, .iaload, 1, [], 0, 0), (22, .iadd, 1, [], 0, 0),
  (23, .iconst 1, 1, [], 1, 0), (24, .iadd, 1, [], 0, 0), (25, .istore_n 1, 1, [], 0, 0), (26, .iinc 2 1, 3, [], 1, 0),
  (29, .goto (-25), 3, [4], 0, 0), (32, .iload_n 1, 1, [], 0, 0), (33, .ireturn, 1, [], 0, 0)])
/-- 158: WordMonoidsModel.goesToNext()Z -/
def m_Ref_goesToNext : mv_M := (2, 2, [
  (0, .aload_n 0, 1, [], 0, 0), (1, .getfield 133, 3, [12, 6, 0], 0, 1042), (4, .iconst 1, 1, [], 1, 0), (5, .isub, 1, [], 0, 0),
  (6, .istore_n 1, 1, [], 0, 0), (7, .iload_n 1, 1, [], 0, 0), (8, .ifCond .lt 26, 3, [34], 0, 0), (11, .aload_n 0, 1, [], 0, 0),
  (12, .getfield 16, 3, [12, 5, 2], 0, 1041), (15, .iload_n 1, 1, [], 0, 0), (16, .iaload, 1, [], 0, 0), (17, .iconst 2, 1, [], 2, 0),
  (18, .if_icmp .ne 16, 3, [34], 0, 0), (21, .aload_n 0, 1, [], 0, 0), (22, .getfield 16, 3, [12, 5, 2], 0, 1041), (25, .iload_n 1, 1, [], 0, 0),
  (26, .iconst 0, 1, [], 0, 0), (27, .iastore, 1, [], 0, 0), (28, .iinc 1 (-1), 3, [], (-1), 0), (31, .goto (-24), 3, [7], 0, 0),
  (34, .iload_n 1, 1, [], 0, 0), (35, .ifCond .ge 5, 3, [40], 0, 0), (38, .iconst 0, 1, [], 0, 0), (39, .ireturn, 1, [], 0, 0),
  (40, .aload_n 0, 1, [], 0, 0), (41, .getfield 16, 3, [12, 5, 2], 0, 1041), (44, .iload_n 1, 1, [], 0, 0), (45, .dup2, 1, [], 0, 0),
  (46, .iaload, 1, [], 0, 0), (47, .iconst 1, 1, [], 1, 0), (48, .iadd, 1, [], 0, 0), (49, .iastore, 1, [], 0, 0),
  (50, .iconst 1, 1, [], 1, 0), (51, .ireturn, 1, [], 0, 0)])
/-- 159: WordMonoidsModel.beginsWords(I)V -/
def m_Ref_beginsWords : mv_M := (3, 0, [
  (0, .aload_n 0, 1, [], 0, 0), (1, .iload_n 1, 1, [], 0, 0), (2, .putfield 133, 3, [12, 6, 0], 0, 1042), (5, .iconst 0, 1, [], 0, 0),
  (6, .istore_n 2, 1, [], 0, 0), (7, .iload_n 2, 1, [], 0, 0), (8, .iload_n 1, 1, [], 0, 0), (9, .if_icmp .ge 16, 3, [25], 0, 0),
  (12, .aload_n 0, 1, [], 0, 0), (13, .getfield 16, 3, [12, 5, 2], 0, 1041), (16, .iload_n 2, 1, [], 0, 0), (17, .iconst 0, 1, [], 0, 0),
  (18, .iastore, 1, [], 0, 0), (19, .iinc 2 1, 3, [], 1, 0), (22, .goto (-15), 3, [7], 0, 0), (25, .return_, 1, [], 0, 0)])
/-- 160: WordMonoidsModel.takesNow(I)Z -/
def m_Ref_takesNow : mv_M := (4, 2, [
  (0, .aload_n 0, 1, [], 0, 0), (1, .iload_n 1, 1, [], 0, 0), (2, .invokevirtual 138, 3, [154, 2, 1, 1, 12], 0, 1249), (5, .istore_n 2, 1, [], 0, 0),
  (6, .iconst 0, 1, [], 0, 0), (7, .istore_n 3, 1, [], 0, 0), (8, .iload_n 3, 1, [], 0, 0), (9, .aload_n 0, 1, [], 0, 0),
  (10, .getfield 133, 3, [12, 6, 0], 0, 1042), (13, .if_icmp .ge 22, 3, [35], 0, 0), (16, .aload_n 0, 1, [], 0, 0), (17, .iload_n 1, 1, [], 0, 0),
  (18, .iload_n 2, 1, [], 0, 0), (19, .aload_n 0, 1, [], 0, 0), (20, .getfield 16, 3, [12, 5, 2], 0, 1041), (23, .iload_n 3, 1, [], 0, 0),
  (24, .iaload, 1, [], 0, 0), (25, .invokevirtual 141, 3, [153, 4, 1, 1, 12], 0, 1237), (28, .istore_n 2, 1, [], 0, 0), (29, .iinc 3 1, 3, [], 1, 0),
  (32, .goto (-24), 3, [8], 0, 0), (35, .aload_n 0, 1, [], 0, 0), (36, .iload_n 1, 1, [], 0, 0), (37, .iload_n 2, 1, [], 0, 0),
  (38, .invokevirtual 145, 3, [155, 3, 2, 1, 12], 0, 1265), (41, .ireturn, 1, [], 0, 0)])
/-- 161: WordMonoidsModel.machine(I)I -/
def m_Ref_machine : mv_M := (5, 1, [
  (0, .iload_n 1, 1, [], 0, 0), (1, .i2l, 1, [], 0, 0), (2, .lconst 1, 1, [], 0, 1), (3, .ldc2_w 149, 3, [], 0, 4),
  (6, .invokestatic 123, 3, [147, 3, 2, 0], 0, 1210), (9, .ifCond .ne 6, 3, [15], 0, 0), (12, .bipush (-2), 2, [], (-2), 0), (14, .ireturn, 1, [], 0, 0),
  (15, .aload_n 0, 1, [], 0, 0), (16, .getfield 120, 3, [12, 1, 0], 0, 1037), (19, .iconst 3, 1, [], 3, 0), (20, .if_icmp .ne 6, 3, [26], 0, 0),
  (23, .bipush (-4), 2, [], (-4), 0), (25, .ireturn, 1, [], 0, 0), (26, .bipush 15, 2, [], 15, 0), (28, .aload_n 0, 1, [], 0, 0),
  (29, .getfield 120, 3, [12, 1, 0], 0, 1037), (32, .imul, 1, [], 0, 0), (33, .istore_n 2, 1, [], 0, 0), (34, .aload_n 0, 1, [], 0, 0),
  (35, .getfield 9, 3, [12, 0, 2], 0, 1036), (38, .iload_n 2, 1, [], 0, 0), (39, .iload_n 1, 1, [], 0, 0), (40, .iastore, 1, [], 0, 0),
  (41, .aload_n 0, 1, [], 0, 0), (42, .getfield 9, 3, [12, 0, 2], 0, 1036), (45, .iload_n 2, 1, [], 0, 0), (46, .iconst 1, 1, [], 1, 0),
  (47, .iadd, 1, [], 0, 0), (48, .iconst 0, 1, [], 0, 0), (49, .iastore, 1, [], 0, 0), (50, .aload_n 0, 1, [], 0, 0),
  (51, .getfield 9, 3, [12, 0, 2], 0, 1036), (54, .iload_n 2, 1, [], 0, 0), (55, .iconst 2, 1, [], 2, 0), (56, .iadd, 1, [], 0, 0),
  (57, .iconst 0, 1, [], 0, 0), (58, .iastore, 1, [], 0, 0), (59, .iconst 0, 1, [], 0, 0), (60, .istore_n 3, 1, [], 0, 0),
  (61, .iload_n 3, 1, [], 0, 0), (62, .iconst 4, 1, [], 4, 0), (63, .if_icmp .ge 40, 3, [103], 0, 0), (66, .iconst 0, 1, [], 0, 0),
  (67, .istore 4, 2, [], 0, 0), (69, .iload 4, 2, [], 0, 0), (71, .iconst 3, 1, [], 3, 0), (72, .if_icmp .ge 25, 3, [97], 0, 0),
  (75, .aload_n 0, 1, [], 0, 0), (76, .getfield 9, 3, [12, 0, 2], 0, 1036), (79, .iload_n 2, 1, [], 0, 0), (80, .iconst 3, 1, [], 3, 0),
  (81, .iadd, 1, [], 0, 0), (82, .iconst 3, 1, [], 3, 0), (83, .iload_n 3, 1, [], 0, 0), (84, .imul, 1, [], 0, 0),
  (85, .iadd, 1, [], 0, 0), (86, .iload 4, 2, [], 0, 0), (88, .iadd, 1, [], 0, 0), (89, .iload_n 3, 1, [], 0, 0),
  (90, .iastore, 1, [], 0, 0), (91, .iinc 4 1, 3, [], 1, 0), (94, .goto (-25), 3, [69], 0, 0), (97, .iinc 3 1, 3, [], 1, 0),
  (100, .goto (-39), 3, [61], 0, 0), (103, .aload_n 0, 1, [], 0, 0), (104, .dup, 1, [], 0, 0), (105, .getfield 120, 3, [12, 1, 0], 0, 1037),
  (108, .iconst 1, 1, [], 1, 0), (109, .iadd, 1, [], 0, 0), (110, .putfield 120, 3, [12, 1, 0], 0, 1037), (113, .aload_n 0, 1, [], 0, 0),
  (114, .iconst (-1), 1, [], (-1), 0), (115, .putfield 56, 3, [12, 23, 0], 0, 1059), (118, .aload_n 0, 1, [], 0, 0), (119, .getfield 120, 3, [12, 1, 0], 0, 1037),
  (122, .iconst 1, 1, [], 1, 0), (123, .isub, 1, [], 0, 0), (124, .ireturn, 1, [], 0, 0)])
/-- 162: WordMonoidsModel.drop()I -/
def m_Ref_drop : mv_M := (1, 1, [
  (0, .aload_n 0, 1, [], 0, 0), (1, .getfield 120, 3, [12, 1, 0], 0, 1037), (4, .ifCond .ne 6, 3, [10], 0, 0), (7, .bipush (-3), 2, [], (-3), 0),
  (9, .ireturn, 1, [], 0, 0), (10, .aload_n 0, 1, [], 0, 0), (11, .dup, 1, [], 0, 0), (12, .getfield 120, 3, [12, 1, 0], 0, 1037),
  (15, .iconst 1, 1, [], 1, 0), (16, .isub, 1, [], 0, 0), (17, .putfield 120, 3, [12, 1, 0], 0, 1037), (20, .aload_n 0, 1, [], 0, 0),
  (21, .iconst (-1), 1, [], (-1), 0), (22, .putfield 56, 3, [12, 23, 0], 0, 1059), (25, .aload_n 0, 1, [], 0, 0), (26, .getfield 120, 3, [12, 1, 0], 0, 1037),
  (29, .ireturn, 1, [], 0, 0)])
/-- 163: WordMonoidsModel.step(IIII)I -/
def m_Ref_step : mv_M := (6, 1, [
  (0, .aload_n 0, 1, [], 0, 0), (1, .iload_n 1, 1, [], 0, 0), (2, .invokevirtual 151, 3, [149, 2, 2, 1, 12], 0, 1221), (5, .ifCond .eq 29, 3, [34], 0, 0),
  (8, .aload_n 0, 1, [], 0, 0), (9, .iload_n 1, 1, [], 0, 0), (10, .iload_n 2, 1, [], 0, 0), (11, .invokevirtual 155, 3, [151, 3, 2, 1, 12], 0, 1225),
  (14, .ifCond .eq 20, 3, [34], 0, 0), (17, .iload_n 3, 1, [], 0, 0), (18, .invokestatic 158, 3, [152, 1, 2, 0], 0, 1233), (21, .ifCond .eq 13, 3, [34], 0, 0),
  (24, .aload_n 0, 1, [], 0, 0), (25, .iload_n 1, 1, [], 0, 0), (26, .iload 4, 2, [], 0, 0), (28, .invokevirtual 155, 3, [151, 3, 2, 1, 12], 0, 1225),
  (31, .ifCond .ne 6, 3, [37], 0, 0), (34, .bipush (-2), 2, [], (-2), 0), (36, .ireturn, 1, [], 0, 0), (37, .aload_n 0, 1, [], 0, 0),
  (38, .iload_n 1, 1, [], 0, 0), (39, .iload_n 2, 1, [], 0, 0), (40, .iload_n 3, 1, [], 0, 0), (41, .invokevirtual 141, 3, [153, 4, 1, 1, 12], 0, 1237),
  (44, .istore 5, 2, [], 0, 0), (46, .aload_n 0, 1, [], 0, 0), (47, .getfield 9, 3, [12, 0, 2], 0, 1036), (50, .bipush 15, 2, [], 15, 0),
  (52, .iload_n 1, 1, [], 0, 0), (53, .imul, 1, [], 0, 0), (54, .iconst 3, 1, [], 3, 0), (55, .iadd, 1, [], 0, 0),
  (56, .iconst 3, 1, [], 3, 0), (57, .iload_n 2, 1, [], 0, 0), (58, .imul, 1, [], 0, 0), (59, .iadd, 1, [], 0, 0),
  (60, .iload_n 3, 1, [], 0, 0), (61, .iadd, 1, [], 0, 0), (62, .iload 4, 2, [], 0, 0), (64, .iastore, 1, [], 0, 0),
  (65, .aload_n 0, 1, [], 0, 0), (66, .iconst (-1), 1, [], (-1), 0), (67, .putfield 56, 3, [12, 23, 0], 0, 1059), (70, .iload 5, 2, [], 0, 0),
  (72, .ireturn, 1, [], 0, 0)])
/-- 164: WordMonoidsModel.ends(II)I -/
def m_Ref_ends : mv_M := (4, 1, [
  (0, .aload_n 0, 1, [], 0, 0), (1, .iload_n 1, 1, [], 0, 0), (2, .invokevirtual 151, 3, [149, 2, 2, 1, 12], 0, 1221), (5, .ifCond .eq 22, 3, [27], 0, 0),
  (8, .iload_n 2, 1, [], 0, 0), (9, .i2l, 1, [], 0, 0), (10, .lconst 0, 1, [], 0, 0), (11, .iconst 1, 1, [], 1, 0),
  (12, .aload_n 0, 1, [], 0, 0), (13, .iload_n 1, 1, [], 0, 0), (14, .invokevirtual 127, 3, [150, 2, 1, 1, 12], 0, 1229), (17, .ishl, 1, [], 0, 0),
  (18, .iconst 1, 1, [], 1, 0), (19, .isub, 1, [], 0, 0), (20, .i2l, 1, [], 0, 0), (21, .invokestatic 123, 3, [147, 3, 2, 0], 0, 1210),
  (24, .ifCond .ne 6, 3, [30], 0, 0), (27, .bipush (-2), 2, [], (-2), 0), (29, .ireturn, 1, [], 0, 0), (30, .aload_n 0, 1, [], 0, 0),
  (31, .getfield 9, 3, [12, 0, 2], 0, 1036), (34, .bipush 15, 2, [], 15, 0), (36, .iload_n 1, 1, [], 0, 0), (37, .imul, 1, [], 0, 0),
  (38, .iconst 2, 1, [], 2, 0), (39, .iadd, 1, [], 0, 0), (40, .iaload, 1, [], 0, 0), (41, .istore_n 3, 1, [], 0, 0),
  (42, .aload_n 0, 1, [], 0, 0), (43, .getfield 9, 3, [12, 0, 2], 0, 1036), (46, .bipush 15, 2, [], 15, 0), (48, .iload_n 1, 1, [], 0, 0),
  (49, .imul, 1, [], 0, 0), (50, .iconst 2, 1, [], 2, 0), (51, .iadd, 1, [], 0, 0), (52, .iload_n 2, 1, [], 0, 0),
  (53, .iastore, 1, [], 0, 0), (54, .aload_n 0, 1, [], 0, 0), (55, .iconst (-1), 1, [], (-1), 0), (56, .putfield 56, 3, [12, 23, 0], 0, 1059),
  (59, .iload_n 3, 1, [], 0, 0), (60, .ireturn, 1, [], 0, 0)])
/-- 165: WordMonoidsModel.start(II)I -/
def m_Ref_start : mv_M := (4, 1, [
  (0, .aload_n 0, 1, [], 0, 0), (1, .iload_n 1, 1, [], 0, 0), (2, .invokevirtual 151, 3, [149, 2, 2, 1, 12], 0, 1221), (5, .ifCond .eq 12, 3, [17], 0, 0),
  (8, .aload_n 0, 1, [], 0, 0), (9, .iload_n 1, 1, [], 0, 0), (10, .iload_n 2, 1, [], 0, 0), (11, .invokevirtual 155, 3, [151, 3, 2, 1, 12], 0, 1225),
  (14, .ifCond .ne 6, 3, [20], 0, 0), (17, .bipush (-2), 2, [], (-2), 0), (19, .ireturn, 1, [], 0, 0), (20, .aload_n 0, 1, [], 0, 0),
  (21, .iload_n 1, 1, [], 0, 0), (22, .invokevirtual 138, 3, [154, 2, 1, 1, 12], 0, 1249), (25, .istore_n 3, 1, [], 0, 0), (26, .aload_n 0, 1, [], 0, 0),
  (27, .getfield 9, 3, [12, 0, 2], 0, 1036), (30, .bipush 15, 2, [], 15, 0), (32, .iload_n 1, 1, [], 0, 0), (33, .imul, 1, [], 0, 0),
  (34, .iconst 1, 1, [], 1, 0), (35, .iadd, 1, [], 0, 0), (36, .iload_n 2, 1, [], 0, 0), (37, .iastore, 1, [], 0, 0),
  (38, .aload_n 0, 1, [], 0, 0), (39, .iconst (-1), 1, [], (-1), 0), (40, .putfield 56, 3, [12, 23, 0], 0, 1059), (43, .iload_n 3, 1, [], 0, 0),
  (44, .ireturn, 1, [], 0, 0)])
/-- 166: WordMonoidsModel.of(II)I -/
def m_Ref_of : mv_M := (3, 1, [
  (0, .aload_n 0, 1, [], 0, 0), (1, .iload_n 1, 1, [], 0, 0), (2, .invokevirtual 151, 3, [149, 2, 2, 1, 12], 0, 1221), (5, .ifCond .eq 7, 3, [12], 0, 0),
  (8, .iload_n 2, 1, [], 0, 0), (9, .ifCond .ge 6, 3, [15], 0, 0), (12, .bipush (-2), 2, [], (-2), 0), (14, .ireturn, 1, [], 0, 0),
  (15, .iload_n 2, 1, [], 0, 0), (16, .iconst 3, 1, [], 3, 0), (17, .if_icmp .ge 15, 3, [32], 0, 0), (20, .aload_n 0, 1, [], 0, 0),
  (21, .getfield 9, 3, [12, 0, 2], 0, 1036), (24, .bipush 15, 2, [], 15, 0), (26, .iload_n 1, 1, [], 0, 0), (27, .imul, 1, [], 0, 0),
  (28, .iload_n 2, 1, [], 0, 0), (29, .iadd, 1, [], 0, 0), (30, .iaload, 1, [], 0, 0), (31, .ireturn, 1, [], 0, 0),
  (32, .iload_n 2, 1, [], 0, 0), (33, .iconst 5, 1, [], 5, 0), (34, .if_icmp .ge 25, 3, [59], 0, 0), (37, .aload_n 0, 1, [], 0, 0),
  (38, .iload_n 1, 1, [], 0, 0), (39, .invokevirtual 161, 3, [172, 2, 0, 1, 12], 0, 1257), (42, .iload_n 2, 1, [], 0, 0), (43, .iconst 3, 1, [], 3, 0),
  (44, .if_icmp .ne 10, 3, [54], 0, 0), (47, .aload_n 0, 1, [], 0, 0), (48, .getfield 165, 3, [12, 7, 0], 0, 1043), (51, .goto 7, 3, [58], 0, 0),
  (54, .aload_n 0, 1, [], 0, 0), (55, .getfield 168, 3, [12, 8, 0], 0, 1044), (58, .ireturn, 1, [], 0, 0), (59, .iload_n 2, 1, [], 0, 0),
  (60, .i2l, 1, [], 0, 0), (61, .ldc2_w 171, 3, [], 0, 10), (64, .bipush 9, 2, [], 9, 0), (66, .iconst 3, 1, [], 3, 0),
  (67, .aload_n 0, 1, [], 0, 0), (68, .iload_n 1, 1, [], 0, 0), (69, .invokevirtual 127, 3, [150, 2, 1, 1, 12], 0, 1229), (72, .imul, 1, [], 0, 0),
  (73, .iadd, 1, [], 0, 0), (74, .i2l, 1, [], 0, 0), (75, .invokestatic 123, 3, [147, 3, 2, 0], 0, 1210), (78, .ifCond .ne 6, 3, [84], 0, 0),
  (81, .bipush (-2), 2, [], (-2), 0), (83, .ireturn, 1, [], 0, 0), (84, .aload_n 0, 1, [], 0, 0), (85, .iload_n 1, 1, [], 0, 0),
  (86, .iload_n 2, 1, [], 0, 0), (87, .bipush 10, 2, [], 10, 0), (89, .isub, 1, [], 0, 0), (90, .iconst 3, 1, [], 3, 0),
  (91, .idiv, 1, [], 0, 0), (92, .iload_n 2, 1, [], 0, 0), (93, .bipush 10, 2, [], 10, 0), (95, .isub, 1, [], 0, 0),
  (96, .iconst 3, 1, [], 3, 0), (97, .irem, 1, [], 0, 0), (98, .invokevirtual 141, 3, [153, 4, 1, 1, 12], 0, 1237), (101, .ireturn, 1, [], 0, 0)])
/-- 167: WordMonoidsModel.takes(II)I -/
def m_Ref_takes : mv_M := (3, 1, [
  (0, .aload_n 0, 1, [], 0, 0), (1, .iload_n 1, 1, [], 0, 0), (2, .invokevirtual 151, 3, [149, 2, 2, 1, 12], 0, 1221), (5, .ifCond .eq 22, 3, [27], 0, 0),
  (8, .aload_n 0, 1, [], 0, 0), (9, .iload_n 2, 1, [], 0, 0), (10, .invokevirtual 173, 3, [156, 2, 2, 1, 12], 0, 1281), (13, .ifCond .eq 14, 3, [27], 0, 0),
  (16, .aload_n 0, 1, [], 0, 0), (17, .iload_n 1, 1, [], 0, 0), (18, .invokevirtual 176, 3, [160, 2, 2, 1, 12], 0, 1286), (21, .invokestatic 179, 3, [148, 1, 1, 0], 0, 1269),
  (24, .goto 5, 3, [29], 0, 0), (27, .bipush (-2), 2, [], (-2), 0), (29, .ireturn, 1, [], 0, 0)])
/-- 168: WordMonoidsModel.quotient(III)I -/
def m_Ref_quotient : mv_M := (6, 1, [
  (0, .aload_n 0, 1, [], 0, 0), (1, .iload_n 1, 1, [], 0, 0), (2, .invokevirtual 151, 3, [149, 2, 2, 1, 12], 0, 1221), (5, .ifCond .eq 20, 3, [25], 0, 0),
  (8, .iload_n 2, 1, [], 0, 0), (9, .invokestatic 158, 3, [152, 1, 2, 0], 0, 1233), (12, .ifCond .eq 13, 3, [25], 0, 0), (15, .iload_n 3, 1, [], 0, 0),
  (16, .i2l, 1, [], 0, 0), (17, .lconst 0, 1, [], 0, 0), (18, .lconst 1, 1, [], 0, 1), (19, .invokestatic 123, 3, [147, 3, 2, 0], 0, 1210),
  (22, .ifCond .ne 6, 3, [28], 0, 0), (25, .bipush (-2), 2, [], (-2), 0), (27, .ireturn, 1, [], 0, 0), (28, .aload_n 0, 1, [], 0, 0),
  (29, .iconst (-1), 1, [], (-1), 0), (30, .putfield 56, 3, [12, 23, 0], 0, 1059), (33, .iload_n 3, 1, [], 0, 0), (34, .ifCond .ne 31, 3, [65], 0, 0),
  (37, .aload_n 0, 1, [], 0, 0), (38, .getfield 9, 3, [12, 0, 2], 0, 1036), (41, .bipush 15, 2, [], 15, 0), (43, .iload_n 1, 1, [], 0, 0),
  (44, .imul, 1, [], 0, 0), (45, .iconst 1, 1, [], 1, 0), (46, .iadd, 1, [], 0, 0), (47, .aload_n 0, 1, [], 0, 0),
  (48, .iload_n 1, 1, [], 0, 0), (49, .aload_n 0, 1, [], 0, 0), (50, .iload_n 1, 1, [], 0, 0), (51, .invokevirtual 138, 3, [154, 2, 1, 1, 12], 0, 1249),
  (54, .iload_n 2, 1, [], 0, 0), (55, .invokevirtual 141, 3, [153, 4, 1, 1, 12], 0, 1237), (58, .iastore, 1, [], 0, 0), (59, .aload_n 0, 1, [], 0, 0),
  (60, .iload_n 1, 1, [], 0, 0), (61, .invokevirtual 138, 3, [154, 2, 1, 1, 12], 0, 1249), (64, .ireturn, 1, [], 0, 0), (65, .iconst 0, 1, [], 0, 0),
  (66, .istore 4, 2, [], 0, 0), (68, .iconst 0, 1, [], 0, 0), (69, .istore 5, 2, [], 0, 0), (71, .iload 5, 2, [], 0, 0),
  (73, .aload_n 0, 1, [], 0, 0), (74, .iload_n 1, 1, [], 0, 0), (75, .invokevirtual 127, 3, [150, 2, 1, 1, 12], 0, 1229), (78, .if_icmp .ge 33, 3, [111], 0, 0),
  (81, .iload 4, 2, [], 0, 0), (83, .aload_n 0, 1, [], 0, 0), (84, .iload_n 1, 1, [], 0, 0), (85, .aload_n 0, 1, [], 0, 0),
  (86, .iload_n 1, 1, [], 0, 0), (87, .iload 5, 2, [], 0, 0), (89, .iload_n 2, 1, [], 0, 0), (90, .invokevirtual 141, 3, [153, 4, 1, 1, 12], 0, 1237),
  (93, .invokevirtual 145, 3, [155, 3, 2, 1, 12], 0, 1265), (96, .invokestatic 179, 3, [148, 1, 1, 0], 0, 1269), (99, .iload 5, 2, [], 0, 0), (101, .ishl, 1, [], 0, 0),
  (102, .ior, 1, [], 0, 0), (103, .istore 4, 2, [], 0, 0), (105, .iinc 5 1, 3, [], 1, 0), (108, .goto (-37), 3, [71], 0, 0),
  (111, .aload_n 0, 1, [], 0, 0), (112, .getfield 9, 3, [12, 0, 2], 0, 1036), (115, .bipush 15, 2, [], 15, 0), (117, .iload_n 1, 1, [], 0, 0),
  (118, .imul, 1, [], 0, 0), (119, .iconst 2, 1, [], 2, 0), (120, .iadd, 1, [], 0, 0), (121, .iload 4, 2, [], 0, 0),
  (123, .iastore, 1, [], 0, 0), (124, .iload 4, 2, [], 0, 0), (126, .ireturn, 1, [], 0, 0)])
/-- 169: WordMonoidsModel.turn(I)I -/
def m_Ref_turn : mv_M := (2, 1, [
  (0, .aload_n 0, 1, [], 0, 0), (1, .iload_n 1, 1, [], 0, 0), (2, .invokevirtual 151, 3, [149, 2, 2, 1, 12], 0, 1221), (5, .ifCond .ne 6, 3, [11], 0, 0),
  (8, .bipush (-2), 2, [], (-2), 0), (10, .ireturn, 1, [], 0, 0), (11, .aload_n 0, 1, [], 0, 0), (12, .iconst (-1), 1, [], (-1), 0),
  (13, .putfield 56, 3, [12, 23, 0], 0, 1059), (16, .aload_n 0, 1, [], 0, 0), (17, .getfield 9, 3, [12, 0, 2], 0, 1036), (20, .bipush 15, 2, [], 15, 0),
  (22, .iload_n 1, 1, [], 0, 0), (23, .imul, 1, [], 0, 0), (24, .iconst 2, 1, [], 2, 0), (25, .iadd, 1, [], 0, 0),
  (26, .iconst 1, 1, [], 1, 0), (27, .aload_n 0, 1, [], 0, 0), (28, .iload_n 1, 1, [], 0, 0), (29, .invokevirtual 127, 3, [150, 2, 1, 1, 12], 0, 1229),
  (32, .ishl, 1, [], 0, 0), (33, .iconst 1, 1, [], 1, 0), (34, .isub, 1, [], 0, 0), (35, .aload_n 0, 1, [], 0, 0),
  (36, .getfield 9, 3, [12, 0, 2], 0, 1036), (39, .bipush 15, 2, [], 15, 0), (41, .iload_n 1, 1, [], 0, 0), (42, .imul, 1, [], 0, 0),
  (43, .iconst 2, 1, [], 2, 0), (44, .iadd, 1, [], 0, 0), (45, .iaload, 1, [], 0, 0), (46, .isub, 1, [], 0, 0),
  (47, .iastore, 1, [], 0, 0), (48, .aload_n 0, 1, [], 0, 0), (49, .getfield 9, 3, [12, 0, 2], 0, 1036), (52, .bipush 15, 2, [], 15, 0),
  (54, .iload_n 1, 1, [], 0, 0), (55, .imul, 1, [], 0, 0), (56, .iconst 2, 1, [], 2, 0), (57, .iadd, 1, [], 0, 0),
  (58, .iaload, 1, [], 0, 0), (59, .ireturn, 1, [], 0, 0)])
/-- 170: WordMonoidsModel.partsPoints(I)V -/
def m_Ref_partsPoints : mv_M := (6, 0, [
  (0, .aload_n 0, 1, [], 0, 0), (1, .iload_n 1, 1, [], 0, 0), (2, .invokevirtual 127, 3, [150, 2, 1, 1, 12], 0, 1229), (5, .istore_n 2, 1, [], 0, 0),
  (6, .iconst 0, 1, [], 0, 0), (7, .istore_n 3, 1, [], 0, 0), (8, .iload_n 3, 1, [], 0, 0), (9, .iload_n 2, 1, [], 0, 0),
  (10, .if_icmp .ge 24, 3, [34], 0, 0), (13, .aload_n 0, 1, [], 0, 0), (14, .getfield 22, 3, [12, 10, 2], 0, 1046), (17, .iload_n 3, 1, [], 0, 0),
  (18, .aload_n 0, 1, [], 0, 0), (19, .iload_n 1, 1, [], 0, 0), (20, .iload_n 3, 1, [], 0, 0), (21, .invokevirtual 145, 3, [155, 3, 2, 1, 12], 0, 1265),
  (24, .invokestatic 179, 3, [148, 1, 1, 0], 0, 1269), (27, .iastore, 1, [], 0, 0), (28, .iinc 3 1, 3, [], 1, 0), (31, .goto (-23), 3, [8], 0, 0),
  (34, .iconst 0, 1, [], 0, 0), (35, .istore_n 3, 1, [], 0, 0), (36, .iload_n 3, 1, [], 0, 0), (37, .iload_n 2, 1, [], 0, 0),
  (38, .if_icmp .ge 110, 3, [148], 0, 0), (41, .iconst 0, 1, [], 0, 0), (42, .istore 4, 2, [], 0, 0), (44, .iload 4, 2, [], 0, 0),
  (46, .iload_n 2, 1, [], 0, 0), (47, .if_icmp .ge 66, 3, [113], 0, 0), (50, .aload_n 0, 1, [], 0, 0), (51, .getfield 25, 3, [12, 11, 2], 0, 1047),
  (54, .iload 4, 2, [], 0, 0), (56, .iload 4, 2, [], 0, 0), (58, .iastore, 1, [], 0, 0), (59, .iload 4, 2, [], 0, 0),
  (61, .iconst 1, 1, [], 1, 0), (62, .isub, 1, [], 0, 0), (63, .istore 5, 2, [], 0, 0), (65, .iload 5, 2, [], 0, 0),
  (67, .ifCond .lt 40, 3, [107], 0, 0), (70, .aload_n 0, 1, [], 0, 0), (71, .getfield 25, 3, [12, 11, 2], 0, 1047), (74, .iload 4, 2, [], 0, 0),
  (76, .aload_n 0, 1, [], 0, 0), (77, .iload_n 1, 1, [], 0, 0), (78, .iload 4, 2, [], 0, 0), (80, .iload 5, 2, [], 0, 0),
  (82, .invokevirtual 183, 3, [171, 4, 2, 1, 12], 0, 1272), (85, .ifCond .eq 8, 3, [93], 0, 0), (88, .iload 5, 2, [], 0, 0), (90, .goto 10, 3, [100], 0, 0),
  (93, .aload_n 0, 1, [], 0, 0), (94, .getfield 25, 3, [12, 11, 2], 0, 1047), (97, .iload 4, 2, [], 0, 0), (99, .iaload, 1, [], 0, 0),
  (100, .iastore, 1, [], 0, 0), (101, .iinc 5 (-1), 3, [], (-1), 0), (104, .goto (-39), 3, [65], 0, 0), (107, .iinc 4 1, 3, [], 1, 0),
  (110, .goto (-66), 3, [44], 0, 0), (113, .iconst 0, 1, [], 0, 0), (114, .istore 4, 2, [], 0, 0), (116, .iload 4, 2, [], 0, 0),
  (118, .iload_n 2, 1, [], 0, 0), (119, .if_icmp .ge 23, 3, [142], 0, 0), (122, .aload_n 0, 1, [], 0, 0), (123, .getfield 22, 3, [12, 10, 2], 0, 1046),
  (126, .iload 4, 2, [], 0, 0), (128, .aload_n 0, 1, [], 0, 0), (129, .getfield 25, 3, [12, 11, 2], 0, 1047), (132, .iload 4, 2, [], 0, 0),
  (134, .iaload, 1, [], 0, 0), (135, .iastore, 1, [], 0, 0), (136, .iinc 4 1, 3, [], 1, 0), (139, .goto (-23), 3, [116], 0, 0),
  (142, .iinc 3 1, 3, [], 1, 0), (145, .goto (-109), 3, [36], 0, 0), (148, .return_, 1, [], 0, 0)])
/-- 171: WordMonoidsModel.areAlike(III)Z -/
def m_Ref_areAlike : mv_M := (6, 2, [
  (0, .aload_n 0, 1, [], 0, 0), (1, .getfield 22, 3, [12, 10, 2], 0, 1046), (4, .iload_n 2, 1, [], 0, 0), (5, .iaload, 1, [], 0, 0),
  (6, .aload_n 0, 1, [], 0, 0), (7, .getfield 22, 3, [12, 10, 2], 0, 1046), (10, .iload_n 3, 1, [], 0, 0), (11, .iaload, 1, [], 0, 0),
  (12, .if_icmp .ne 7, 3, [19], 0, 0), (15, .iconst 1, 1, [], 1, 0), (16, .goto 4, 3, [20], 0, 0), (19, .iconst 0, 1, [], 0, 0),
  (20, .istore 4, 2, [], 0, 0), (22, .iconst 0, 1, [], 0, 0), (23, .istore 5, 2, [], 0, 0), (25, .iload 5, 2, [], 0, 0),
  (27, .iconst 3, 1, [], 3, 0), (28, .if_icmp .ge 50, 3, [78], 0, 0), (31, .iload 4, 2, [], 0, 0), (33, .ifCond .eq 36, 3, [69], 0, 0),
  (36, .aload_n 0, 1, [], 0, 0), (37, .getfield 22, 3, [12, 10, 2], 0, 1046), (40, .aload_n 0, 1, [], 0, 0), (41, .iload_n 1, 1, [], 0, 0),
  (42, .iload_n 2, 1, [], 0, 0), (43, .iload 5, 2, [], 0, 0), (45, .invokevirtual 141, 3, [153, 4, 1, 1, 12], 0, 1237), (48, .iaload, 1, [], 0, 0),
  (49, .aload_n 0, 1, [], 0, 0), (50, .getfield 22, 3, [12, 10, 2], 0, 1046), (53, .aload_n 0, 1, [], 0, 0), (54, .iload_n 1, 1, [], 0, 0),
  (55, .iload_n 3, 1, [], 0, 0), (56, .iload 5, 2, [], 0, 0), (58, .invokevirtual 141, 3, [153, 4, 1, 1, 12], 0, 1237), (61, .iaload, 1, [], 0, 0),
  (62, .if_icmp .ne 7, 3, [69], 0, 0), (65, .iconst 1, 1, [], 1, 0), (66, .goto 4, 3, [70], 0, 0), (69, .iconst 0, 1, [], 0, 0),
  (70, .istore 4, 2, [], 0, 0), (72, .iinc 5 1, 3, [], 1, 0), (75, .goto (-50), 3, [25], 0, 0), (78, .iload 4, 2, [], 0, 0),
  (80, .ireturn, 1, [], 0, 0)])
/-- 172: WordMonoidsModel.findsLeast(I)V -/
def m_Ref_findsLeast : mv_M := (5, 0, [
  (0, .aload_n 0, 1, [], 0, 0), (1, .iconst (-1), 1, [], (-1), 0), (2, .putfield 56, 3, [12, 23, 0], 0, 1059), (5, .aload_n 0, 1, [], 0, 0),
  (6, .iload_n 1, 1, [], 0, 0), (7, .invokevirtual 187, 3, [170, 2, 0, 1, 12], 0, 1261), (10, .iconst 0, 1, [], 0, 0), (11, .istore_n 2, 1, [], 0, 0),
  (12, .iload_n 2, 1, [], 0, 0), (13, .iconst 4, 1, [], 4, 0), (14, .if_icmp .ge 16, 3, [30], 0, 0), (17, .aload_n 0, 1, [], 0, 0),
  (18, .getfield 28, 3, [12, 12, 2], 0, 1048), (21, .iload_n 2, 1, [], 0, 0), (22, .iconst (-1), 1, [], (-1), 0), (23, .iastore, 1, [], 0, 0),
  (24, .iinc 2 1, 3, [], 1, 0), (27, .goto (-15), 3, [12], 0, 0), (30, .aload_n 0, 1, [], 0, 0), (31, .getfield 31, 3, [12, 13, 2], 0, 1049),
  (34, .iconst 0, 1, [], 0, 0), (35, .aload_n 0, 1, [], 0, 0), (36, .iload_n 1, 1, [], 0, 0), (37, .invokevirtual 138, 3, [154, 2, 1, 1, 12], 0, 1249),
  (40, .iastore, 1, [], 0, 0), (41, .aload_n 0, 1, [], 0, 0), (42, .getfield 28, 3, [12, 12, 2], 0, 1048), (45, .aload_n 0, 1, [], 0, 0),
  (46, .getfield 22, 3, [12, 10, 2], 0, 1046), (49, .aload_n 0, 1, [], 0, 0), (50, .getfield 31, 3, [12, 13, 2], 0, 1049), (53, .iconst 0, 1, [], 0, 0),
  (54, .iaload, 1, [], 0, 0), (55, .iaload, 1, [], 0, 0), (56, .iconst 0, 1, [], 0, 0), (57, .iastore, 1, [], 0, 0),
  (58, .aload_n 0, 1, [], 0, 0), (59, .iconst 1, 1, [], 1, 0), (60, .putfield 165, 3, [12, 7, 0], 0, 1043), (63, .aload_n 0, 1, [], 0, 0),
  (64, .iconst 0, 1, [], 0, 0), (65, .putfield 168, 3, [12, 8, 0], 0, 1044), (68, .iconst 0, 1, [], 0, 0), (69, .istore_n 2, 1, [], 0, 0),
  (70, .iload_n 2, 1, [], 0, 0), (71, .aload_n 0, 1, [], 0, 0), (72, .getfield 165, 3, [12, 7, 0], 0, 1043), (75, .if_icmp .ge 136, 3, [211], 0, 0),
  (78, .aload_n 0, 1, [], 0, 0), (79, .dup, 1, [], 0, 0), (80, .getfield 168, 3, [12, 8, 0], 0, 1044), (83, .aload_n 0, 1, [], 0, 0),
  (84, .iload_n 1, 1, [], 0, 0), (85, .aload_n 0, 1, [], 0, 0), (86, .getfield 31, 3, [12, 13, 2], 0, 1049), (89, .iload_n 2, 1, [], 0, 0),
  (90, .iaload, 1, [], 0, 0), (91, .invokevirtual 145, 3, [155, 3, 2, 1, 12], 0, 1265), (94, .invokestatic 179, 3, [148, 1, 1, 0], 0, 1269), (97, .iload_n 2, 1, [], 0, 0),
  (98, .ishl, 1, [], 0, 0), (99, .ior, 1, [], 0, 0), (100, .putfield 168, 3, [12, 8, 0], 0, 1044), (103, .iconst 0, 1, [], 0, 0),
  (104, .istore_n 3, 1, [], 0, 0), (105, .iload_n 3, 1, [], 0, 0), (106, .iconst 3, 1, [], 3, 0), (107, .if_icmp .ge 98, 3, [205], 0, 0),
  (110, .aload_n 0, 1, [], 0, 0), (111, .iload_n 1, 1, [], 0, 0), (112, .aload_n 0, 1, [], 0, 0), (113, .getfield 31, 3, [12, 13, 2], 0, 1049),
  (116, .iload_n 2, 1, [], 0, 0), (117, .iaload, 1, [], 0, 0), (118, .iload_n 3, 1, [], 0, 0), (119, .invokevirtual 141, 3, [153, 4, 1, 1, 12], 0, 1237),
  (122, .istore 4, 2, [], 0, 0), (124, .aload_n 0, 1, [], 0, 0), (125, .getfield 28, 3, [12, 12, 2], 0, 1048), (128, .aload_n 0, 1, [], 0, 0),
  (129, .getfield 22, 3, [12, 10, 2], 0, 1046), (132, .iload 4, 2, [], 0, 0), (134, .iaload, 1, [], 0, 0), (135, .iaload, 1, [], 0, 0),
  (136, .iconst (-1), 1, [], (-1), 0), (137, .if_icmp .ne 40, 3, [177], 0, 0), (140, .aload_n 0, 1, [], 0, 0), (141, .getfield 28, 3, [12, 12, 2], 0, 1048),
  (144, .aload_n 0, 1, [], 0, 0), (145, .getfield 22, 3, [12, 10, 2], 0, 1046), (148, .iload 4, 2, [], 0, 0), (150, .iaload, 1, [], 0, 0),
  (151, .aload_n 0, 1, [], 0, 0), (152, .getfield 165, 3, [12, 7, 0], 0, 1043), (155, .iastore, 1, [], 0, 0), (156, .aload_n 0, 1, [], 0, 0),
  (157, .getfield 31, 3, [12, 13, 2], 0, 1049), (160, .aload_n 0, 1, [], 0, 0), (161, .getfield 165, 3, [12, 7, 0], 0, 1043), (164, .iload 4, 2, [], 0, 0),
  (166, .iastore, 1, [], 0, 0), (167, .aload_n 0, 1, [], 0, 0), (168, .dup, 1, [], 0, 0), (169, .getfield 165, 3, [12, 7, 0], 0, 1043),
  (172, .iconst 1, 1, [], 1, 0), (173, .iadd, 1, [], 0, 0), (174, .putfield 165, 3, [12, 7, 0], 0, 1043), (177, .aload_n 0, 1, [], 0, 0),
  (178, .getfield 19, 3, [12, 9, 2], 0, 1045), (181, .iconst 3, 1, [], 3, 0), (182, .iload_n 2, 1, [], 0, 0), (183, .imul, 1, [], 0, 0),
  (184, .iload_n 3, 1, [], 0, 0), (185, .iadd, 1, [], 0, 0), (186, .aload_n 0, 1, [], 0, 0), (187, .getfield 28, 3, [12, 12, 2], 0, 1048),
  (190, .aload_n 0, 1, [], 0, 0), (191, .getfield 22, 3, [12, 10, 2], 0, 1046), (194, .iload 4, 2, [], 0, 0), (196, .iaload, 1, [], 0, 0),
  (197, .iaload, 1, [], 0, 0), (198, .iastore, 1, [], 0, 0), (199, .iinc 3 1, 3, [], 1, 0), (202, .goto (-97), 3, [105], 0, 0),
  (205, .iinc 2 1, 3, [], 1, 0), (208, .goto (-138), 3, [70], 0, 0), (211, .return_, 1, [], 0, 0)])
/-- 173: WordMonoidsModel.ledBy(II)I -/
def m_Ref_ledBy : mv_M := (2, 1, [
  (0, .iload_n 0, 1, [], 0, 0), (1, .iconst 2, 1, [], 2, 0), (2, .iload_n 1, 1, [], 0, 0), (3, .imul, 1, [], 0, 0),
  (4, .ishr, 1, [], 0, 0), (5, .iconst 3, 1, [], 3, 0), (6, .iand, 1, [], 0, 0), (7, .ireturn, 1, [], 0, 0)])
/-- 174: WordMonoidsModel.behind(II)I -/
def m_Ref_behind : mv_M := (5, 1, [
  (0, .iconst 0, 1, [], 0, 0), (1, .istore_n 3, 1, [], 0, 0), (2, .iconst 0, 1, [], 0, 0), (3, .istore 4, 2, [], 0, 0),
  (5, .iload 4, 2, [], 0, 0), (7, .aload_n 0, 1, [], 0, 0), (8, .getfield 165, 3, [12, 7, 0], 0, 1043), (11, .if_icmp .ge 27, 3, [38], 0, 0),
  (14, .iload_n 3, 1, [], 0, 0), (15, .iload_n 2, 1, [], 0, 0), (16, .iload_n 1, 1, [], 0, 0), (17, .iload 4, 2, [], 0, 0),
  (19, .invokestatic 190, 3, [173, 2, 1, 0], 0, 1314), (22, .invokestatic 190, 3, [173, 2, 1, 0], 0, 1314), (25, .iconst 2, 1, [], 2, 0), (26, .iload 4, 2, [], 0, 0),
  (28, .imul, 1, [], 0, 0), (29, .ishl, 1, [], 0, 0), (30, .ior, 1, [], 0, 0), (31, .istore_n 3, 1, [], 0, 0),
  (32, .iinc 4 1, 3, [], 1, 0), (35, .goto (-30), 3, [5], 0, 0), (38, .iload_n 3, 1, [], 0, 0), (39, .ireturn, 1, [], 0, 0)])
/-- 175: WordMonoidsModel.comes(III)V -/
def m_Ref_comes : mv_M := (4, 0, [
  (0, .aload_n 0, 1, [], 0, 0), (1, .getfield 34, 3, [12, 15, 2], 0, 1051), (4, .aload_n 0, 1, [], 0, 0), (5, .getfield 194, 3, [12, 14, 0], 0, 1050),
  (8, .iload_n 1, 1, [], 0, 0), (9, .iastore, 1, [], 0, 0), (10, .aload_n 0, 1, [], 0, 0), (11, .getfield 37, 3, [12, 16, 2], 0, 1052),
  (14, .iload_n 1, 1, [], 0, 0), (15, .aload_n 0, 1, [], 0, 0), (16, .getfield 194, 3, [12, 14, 0], 0, 1050), (19, .iastore, 1, [], 0, 0),
  (20, .aload_n 0, 1, [], 0, 0), (21, .getfield 43, 3, [12, 18, 2], 0, 1054), (24, .aload_n 0, 1, [], 0, 0), (25, .getfield 194, 3, [12, 14, 0], 0, 1050),
  (28, .iload_n 2, 1, [], 0, 0), (29, .iastore, 1, [], 0, 0), (30, .aload_n 0, 1, [], 0, 0), (31, .getfield 40, 3, [12, 17, 2], 0, 1053),
  (34, .aload_n 0, 1, [], 0, 0), (35, .getfield 194, 3, [12, 14, 0], 0, 1050), (38, .iload_n 3, 1, [], 0, 0), (39, .iastore, 1, [], 0, 0),
  (40, .aload_n 0, 1, [], 0, 0), (41, .dup, 1, [], 0, 0), (42, .getfield 194, 3, [12, 14, 0], 0, 1050), (45, .iconst 1, 1, [], 1, 0),
  (46, .iadd, 1, [], 0, 0), (47, .putfield 194, 3, [12, 14, 0], 0, 1050), (50, .return_, 1, [], 0, 0)])
/-- 176: WordMonoidsModel.findsElements(I)V -/
def m_Ref_findsElements : mv_M := (6, 0, [
  (0, .aload_n 0, 1, [], 0, 0), (1, .getfield 56, 3, [12, 23, 0], 0, 1059), (4, .iload_n 1, 1, [], 0, 0), (5, .if_icmp .ne 4, 3, [9], 0, 0),
  (8, .return_, 1, [], 0, 0), (9, .aload_n 0, 1, [], 0, 0), (10, .iload_n 1, 1, [], 0, 0), (11, .invokevirtual 161, 3, [172, 2, 0, 1, 12], 0, 1257),
  (14, .iconst 0, 1, [], 0, 0), (15, .istore_n 2, 1, [], 0, 0), (16, .iconst 0, 1, [], 0, 0), (17, .istore_n 3, 1, [], 0, 0),
  (18, .iload_n 3, 1, [], 0, 0), (19, .iconst 3, 1, [], 3, 0), (20, .if_icmp .ge 16, 3, [36], 0, 0), (23, .aload_n 0, 1, [], 0, 0),
  (24, .getfield 53, 3, [12, 21, 2], 0, 1057), (27, .iload_n 3, 1, [], 0, 0), (28, .iconst 0, 1, [], 0, 0), (29, .iastore, 1, [], 0, 0),
  (30, .iinc 3 1, 3, [], 1, 0), (33, .goto (-15), 3, [18], 0, 0), (36, .iconst 0, 1, [], 0, 0), (37, .istore_n 3, 1, [], 0, 0),
  (38, .iload_n 3, 1, [], 0, 0), (39, .aload_n 0, 1, [], 0, 0), (40, .getfield 165, 3, [12, 7, 0], 0, 1043), (43, .if_icmp .ge 57, 3, [100], 0, 0),
  (46, .iload_n 2, 1, [], 0, 0), (47, .iload_n 3, 1, [], 0, 0), (48, .iconst 2, 1, [], 2, 0), (49, .iload_n 3, 1, [], 0, 0),
  (50, .imul, 1, [], 0, 0), (51, .ishl, 1, [], 0, 0), (52, .ior, 1, [], 0, 0), (53, .istore_n 2, 1, [], 0, 0),
  (54, .iconst 0, 1, [], 0, 0), (55, .istore 4, 2, [], 0, 0), (57, .iload 4, 2, [], 0, 0), (59, .iconst 3, 1, [], 3, 0),
  (60, .if_icmp .ge 34, 3, [94], 0, 0), (63, .aload_n 0, 1, [], 0, 0), (64, .getfield 53, 3, [12, 21, 2], 0, 1057), (67, .iload 4, 2, [], 0, 0),
  (69, .dup2, 1, [], 0, 0), (70, .iaload, 1, [], 0, 0), (71, .aload_n 0, 1, [], 0, 0), (72, .getfield 19, 3, [12, 9, 2], 0, 1045),
  (75, .iconst 3, 1, [], 3, 0), (76, .iload_n 3, 1, [], 0, 0), (77, .imul, 1, [], 0, 0), (78, .iload 4, 2, [], 0, 0),
  (80, .iadd, 1, [], 0, 0), (81, .iaload, 1, [], 0, 0), (82, .iconst 2, 1, [], 2, 0), (83, .iload_n 3, 1, [], 0, 0),
  (84, .imul, 1, [], 0, 0), (85, .ishl, 1, [], 0, 0), (86, .ior, 1, [], 0, 0), (87, .iastore, 1, [], 0, 0),
  (88, .iinc 4 1, 3, [], 1, 0), (91, .goto (-34), 3, [57], 0, 0), (94, .iinc 3 1, 3, [], 1, 0), (97, .goto (-59), 3, [38], 0, 0),
  (100, .iconst 0, 1, [], 0, 0), (101, .istore_n 3, 1, [], 0, 0), (102, .iload_n 3, 1, [], 0, 0), (103, .sipush 256, 3, [], 256, 0),
  (106, .if_icmp .ge 16, 3, [122], 0, 0), (109, .aload_n 0, 1, [], 0, 0), (110, .getfield 37, 3, [12, 16, 2], 0, 1052), (113, .iload_n 3, 1, [], 0, 0),
  (114, .iconst (-1), 1, [], (-1), 0), (115, .iastore, 1, [], 0, 0), (116, .iinc 3 1, 3, [], 1, 0), (119, .goto (-17), 3, [102], 0, 0),
  (122, .aload_n 0, 1, [], 0, 0), (123, .iconst 0, 1, [], 0, 0), (124, .putfield 194, 3, [12, 14, 0], 0, 1050), (127, .aload_n 0, 1, [], 0, 0),
  (128, .iconst 0, 1, [], 0, 0), (129, .putfield 197, 3, [12, 22, 3], 0, 1058), (132, .aload_n 0, 1, [], 0, 0), (133, .iload_n 2, 1, [], 0, 0),
  (134, .iconst (-1), 1, [], (-1), 0), (135, .iconst (-1), 1, [], (-1), 0), (136, .invokevirtual 201, 3, [175, 4, 0, 1, 12], 0, 1306), (139, .iconst 0, 1, [], 0, 0),
  (140, .istore_n 3, 1, [], 0, 0), (141, .iload_n 3, 1, [], 0, 0), (142, .aload_n 0, 1, [], 0, 0), (143, .getfield 194, 3, [12, 14, 0], 0, 1050),
  (146, .if_icmp .ge 89, 3, [235], 0, 0), (149, .iconst 0, 1, [], 0, 0), (150, .istore 4, 2, [], 0, 0), (152, .iload 4, 2, [], 0, 0),
  (154, .iconst 3, 1, [], 3, 0), (155, .if_icmp .ge 74, 3, [229], 0, 0), (158, .aload_n 0, 1, [], 0, 0), (159, .aload_n 0, 1, [], 0, 0),
  (160, .getfield 34, 3, [12, 15, 2], 0, 1051), (163, .iload_n 3, 1, [], 0, 0), (164, .iaload, 1, [], 0, 0), (165, .aload_n 0, 1, [], 0, 0),
  (166, .getfield 53, 3, [12, 21, 2], 0, 1057), (169, .iload 4, 2, [], 0, 0), (171, .iaload, 1, [], 0, 0), (172, .invokevirtual 205, 3, [174, 3, 1, 1, 12], 0, 1310),
  (175, .istore 5, 2, [], 0, 0), (177, .aload_n 0, 1, [], 0, 0), (178, .getfield 37, 3, [12, 16, 2], 0, 1052), (181, .iload 5, 2, [], 0, 0),
  (183, .iaload, 1, [], 0, 0), (184, .iconst (-1), 1, [], (-1), 0), (185, .if_icmp .ne 12, 3, [197], 0, 0), (188, .aload_n 0, 1, [], 0, 0),
  (189, .iload 5, 2, [], 0, 0), (191, .iload_n 3, 1, [], 0, 0), (192, .iload 4, 2, [], 0, 0), (194, .invokevirtual 201, 3, [175, 4, 0, 1, 12], 0, 1306),
  (197, .aload_n 0, 1, [], 0, 0), (198, .aload_n 0, 1, [], 0, 0), (199, .getfield 197, 3, [12, 22, 3], 0, 1058), (202, .ifCond .ne 13, 3, [215], 0, 0),
  (205, .aload_n 0, 1, [], 0, 0), (206, .getfield 37, 3, [12, 16, 2], 0, 1052), (209, .iload 5, 2, [], 0, 0), (211, .iaload, 1, [], 0, 0),
  (212, .ifCond .ne 7, 3, [219], 0, 0), (215, .iconst 1, 1, [], 1, 0), (216, .goto 4, 3, [220], 0, 0), (219, .iconst 0, 1, [], 0, 0),
  (220, .putfield 197, 3, [12, 22, 3], 0, 1058), (223, .iinc 4 1, 3, [], 1, 0), (226, .goto (-74), 3, [152], 0, 0), (229, .iinc 3 1, 3, [], 1, 0),
  (232, .goto (-91), 3, [141], 0, 0), (235, .aload_n 0, 1, [], 0, 0), (236, .iload_n 1, 1, [], 0, 0), (237, .putfield 56, 3, [12, 23, 0], 0, 1059),
  (240, .return_, 1, [], 0, 0)])
/-- 177: WordMonoidsModel.timesOf(II)I -/
def m_Ref_timesOf : mv_M := (3, 1, [
  (0, .aload_n 0, 1, [], 0, 0), (1, .getfield 37, 3, [12, 16, 2], 0, 1052), (4, .aload_n 0, 1, [], 0, 0), (5, .aload_n 0, 1, [], 0, 0),
  (6, .getfield 34, 3, [12, 15, 2], 0, 1051), (9, .iload_n 1, 1, [], 0, 0), (10, .iaload, 1, [], 0, 0), (11, .aload_n 0, 1, [], 0, 0),
  (12, .getfield 34, 3, [12, 15, 2], 0, 1051), (15, .iload_n 2, 1, [], 0, 0), (16, .iaload, 1, [], 0, 0), (17, .invokevirtual 205, 3, [174, 3, 1, 1, 12], 0, 1310),
  (20, .iaload, 1, [], 0, 0), (21, .ireturn, 1, [], 0, 0)])
/-- 178: WordMonoidsModel.at(II)I -/
def m_Ref_at : mv_M := (3, 1, [
  (0, .aload_n 0, 1, [], 0, 0), (1, .getfield 47, 3, [12, 19, 2], 0, 1055), (4, .sipush 256, 3, [], 256, 0), (7, .iload_n 1, 1, [], 0, 0),
  (8, .imul, 1, [], 0, 0), (9, .iload_n 2, 1, [], 0, 0), (10, .iadd, 1, [], 0, 0), (11, .iaload, 1, [], 0, 0),
  (12, .ireturn, 1, [], 0, 0)])
/-- 179: WordMonoidsModel.omegaOf(I)I -/
def m_Ref_omegaOf : mv_M := (3, 1, [
  (0, .iload_n 1, 1, [], 0, 0), (1, .istore_n 2, 1, [], 0, 0), (2, .aload_n 0, 1, [], 0, 0), (3, .iload_n 2, 1, [], 0, 0),
  (4, .iload_n 2, 1, [], 0, 0), (5, .invokevirtual 208, 3, [177, 3, 1, 1, 12], 0, 1337), (8, .iload_n 2, 1, [], 0, 0), (9, .if_icmp .eq 13, 3, [22], 0, 0),
  (12, .aload_n 0, 1, [], 0, 0), (13, .iload_n 2, 1, [], 0, 0), (14, .iload_n 1, 1, [], 0, 0), (15, .invokevirtual 208, 3, [177, 3, 1, 1, 12], 0, 1337),
  (18, .istore_n 2, 1, [], 0, 0), (19, .goto (-17), 3, [2], 0, 0), (22, .iload_n 2, 1, [], 0, 0), (23, .ireturn, 1, [], 0, 0)])
/-- 180: WordMonoidsModel.findsTable(I)V -/
def m_Ref_findsTable : mv_M := (4, 0, [
  (0, .aload_n 0, 1, [], 0, 0), (1, .iload_n 1, 1, [], 0, 0), (2, .invokevirtual 211, 3, [176, 2, 0, 1, 12], 0, 1302), (5, .iconst 0, 1, [], 0, 0),
  (6, .istore_n 2, 1, [], 0, 0), (7, .iload_n 2, 1, [], 0, 0), (8, .aload_n 0, 1, [], 0, 0), (9, .getfield 194, 3, [12, 14, 0], 0, 1050),
  (12, .if_icmp .ge 43, 3, [55], 0, 0), (15, .iconst 0, 1, [], 0, 0), (16, .istore_n 3, 1, [], 0, 0), (17, .iload_n 3, 1, [], 0, 0),
  (18, .aload_n 0, 1, [], 0, 0), (19, .getfield 194, 3, [12, 14, 0], 0, 1050), (22, .if_icmp .ge 27, 3, [49], 0, 0), (25, .aload_n 0, 1, [], 0, 0),
  (26, .getfield 47, 3, [12, 19, 2], 0, 1055), (29, .sipush 256, 3, [], 256, 0), (32, .iload_n 2, 1, [], 0, 0), (33, .imul, 1, [], 0, 0),
  (34, .iload_n 3, 1, [], 0, 0), (35, .iadd, 1, [], 0, 0), (36, .aload_n 0, 1, [], 0, 0), (37, .iload_n 2, 1, [], 0, 0),
  (38, .iload_n 3, 1, [], 0, 0), (39, .invokevirtual 208, 3, [177, 3, 1, 1, 12], 0, 1337), (42, .iastore, 1, [], 0, 0), (43, .iinc 3 1, 3, [], 1, 0),
  (46, .goto (-29), 3, [17], 0, 0), (49, .iinc 2 1, 3, [], 1, 0), (52, .goto (-45), 3, [7], 0, 0), (55, .iconst 0, 1, [], 0, 0),
  (56, .istore_n 2, 1, [], 0, 0), (57, .iload_n 2, 1, [], 0, 0), (58, .aload_n 0, 1, [], 0, 0), (59, .getfield 194, 3, [12, 14, 0], 0, 1050),
  (62, .if_icmp .ge 20, 3, [82], 0, 0), (65, .aload_n 0, 1, [], 0, 0), (66, .getfield 50, 3, [12, 20, 2], 0, 1056), (69, .iload_n 2, 1, [], 0, 0),
  (70, .aload_n 0, 1, [], 0, 0), (71, .iload_n 2, 1, [], 0, 0), (72, .invokevirtual 214, 3, [179, 2, 1, 1, 12], 0, 1345), (75, .iastore, 1, [], 0, 0),
  (76, .iinc 2 1, 3, [], 1, 0), (79, .goto (-22), 3, [57], 0, 0), (82, .return_, 1, [], 0, 0)])
/-- 181: WordMonoidsModel.isElement(I)Z -/
def m_Ref_isElement : mv_M := (2, 2, [
  (0, .iload_n 1, 1, [], 0, 0), (1, .i2l, 1, [], 0, 0), (2, .lconst 0, 1, [], 0, 0), (3, .aload_n 0, 1, [], 0, 0),
  (4, .getfield 194, 3, [12, 14, 0], 0, 1050), (7, .iconst 1, 1, [], 1, 0), (8, .isub, 1, [], 0, 0), (9, .i2l, 1, [], 0, 0),
  (10, .invokestatic 123, 3, [147, 3, 2, 0], 0, 1210), (13, .ireturn, 1, [], 0, 0)])
/-- 182: WordMonoidsModel.size(I)I -/
def m_Ref_size : mv_M := (2, 1, [
  (0, .aload_n 0, 1, [], 0, 0), (1, .iload_n 1, 1, [], 0, 0), (2, .invokevirtual 151, 3, [149, 2, 2, 1, 12], 0, 1221), (5, .ifCond .ne 6, 3, [11], 0, 0),
  (8, .bipush (-2), 2, [], (-2), 0), (10, .ireturn, 1, [], 0, 0), (11, .aload_n 0, 1, [], 0, 0), (12, .iload_n 1, 1, [], 0, 0),
  (13, .invokevirtual 211, 3, [176, 2, 0, 1, 12], 0, 1302), (16, .aload_n 0, 1, [], 0, 0), (17, .getfield 194, 3, [12, 14, 0], 0, 1050), (20, .ireturn, 1, [], 0, 0)])
/-- 183: WordMonoidsModel.lengthOf(I)I -/
def m_Ref_lengthOf : mv_M := (4, 1, [
  (0, .iconst 0, 1, [], 0, 0), (1, .istore_n 2, 1, [], 0, 0), (2, .iload_n 1, 1, [], 0, 0), (3, .istore_n 3, 1, [], 0, 0),
  (4, .iload_n 3, 1, [], 0, 0), (5, .ifCond .eq 16, 3, [21], 0, 0), (8, .iinc 2 1, 3, [], 1, 0), (11, .aload_n 0, 1, [], 0, 0),
  (12, .getfield 43, 3, [12, 18, 2], 0, 1054), (15, .iload_n 3, 1, [], 0, 0), (16, .iaload, 1, [], 0, 0), (17, .istore_n 3, 1, [], 0, 0),
  (18, .goto (-14), 3, [4], 0, 0), (21, .iload_n 2, 1, [], 0, 0), (22, .ireturn, 1, [], 0, 0)])
/-- 184: WordMonoidsModel.word(III)I -/
def m_Ref_word : mv_M := (7, 1, [
  (0, .aload_n 0, 1, [], 0, 0), (1, .iload_n 1, 1, [], 0, 0), (2, .invokevirtual 151, 3, [149, 2, 2, 1, 12], 0, 1221), (5, .ifCond .eq 8, 3, [13], 0, 0),
  (8, .iload_n 3, 1, [], 0, 0), (9, .iconst (-1), 1, [], (-1), 0), (10, .if_icmp .ge 6, 3, [16], 0, 0), (13, .bipush (-2), 2, [], (-2), 0),
  (15, .ireturn, 1, [], 0, 0), (16, .aload_n 0, 1, [], 0, 0), (17, .iload_n 1, 1, [], 0, 0), (18, .invokevirtual 211, 3, [176, 2, 0, 1, 12], 0, 1302),
  (21, .aload_n 0, 1, [], 0, 0), (22, .iload_n 2, 1, [], 0, 0), (23, .invokevirtual 217, 3, [181, 2, 2, 1, 12], 0, 1321), (26, .ifCond .ne 6, 3, [32], 0, 0),
  (29, .bipush (-2), 2, [], (-2), 0), (31, .ireturn, 1, [], 0, 0), (32, .aload_n 0, 1, [], 0, 0), (33, .iload_n 2, 1, [], 0, 0),
  (34, .invokevirtual 220, 3, [183, 2, 1, 1, 12], 0, 1325), (37, .istore 4, 2, [], 0, 0), (39, .iload_n 3, 1, [], 0, 0), (40, .iconst (-1), 1, [], (-1), 0),
  (41, .if_icmp .ne 6, 3, [47], 0, 0), (44, .iload 4, 2, [], 0, 0), (46, .ireturn, 1, [], 0, 0), (47, .iload_n 2, 1, [], 0, 0),
  (48, .istore 5, 2, [], 0, 0), (50, .iload 4, 2, [], 0, 0), (52, .iconst 1, 1, [], 1, 0), (53, .isub, 1, [], 0, 0),
  (54, .istore 6, 2, [], 0, 0), (56, .iload 6, 2, [], 0, 0), (58, .iload_n 3, 1, [], 0, 0), (59, .if_icmp .le 18, 3, [77], 0, 0),
  (62, .aload_n 0, 1, [], 0, 0), (63, .getfield 43, 3, [12, 18, 2], 0, 1054), (66, .iload 5, 2, [], 0, 0), (68, .iaload, 1, [], 0, 0),
  (69, .istore 5, 2, [], 0, 0), (71, .iinc 6 (-1), 3, [], (-1), 0), (74, .goto (-18), 3, [56], 0, 0), (77, .iload_n 3, 1, [], 0, 0),
  (78, .iload 4, 2, [], 0, 0), (80, .if_icmp .ge 13, 3, [93], 0, 0), (83, .aload_n 0, 1, [], 0, 0), (84, .getfield 40, 3, [12, 17, 2], 0, 1053),
  (87, .iload 5, 2, [], 0, 0), (89, .iaload, 1, [], 0, 0), (90, .goto 4, 3, [94], 0, 0), (93, .iconst (-1), 1, [], (-1), 0),
  (94, .ireturn, 1, [], 0, 0)])
/-- 185: WordMonoidsModel.element(II)I -/
def m_Ref_element : mv_M := (5, 1, [
  (0, .aload_n 0, 1, [], 0, 0), (1, .iload_n 1, 1, [], 0, 0), (2, .invokevirtual 151, 3, [149, 2, 2, 1, 12], 0, 1221), (5, .ifCond .eq 11, 3, [16], 0, 0),
  (8, .aload_n 0, 1, [], 0, 0), (9, .iload_n 2, 1, [], 0, 0), (10, .invokevirtual 173, 3, [156, 2, 2, 1, 12], 0, 1281), (13, .ifCond .ne 6, 3, [19], 0, 0),
  (16, .bipush (-2), 2, [], (-2), 0), (18, .ireturn, 1, [], 0, 0), (19, .aload_n 0, 1, [], 0, 0), (20, .iload_n 1, 1, [], 0, 0),
  (21, .invokevirtual 211, 3, [176, 2, 0, 1, 12], 0, 1302), (24, .aload_n 0, 1, [], 0, 0), (25, .getfield 34, 3, [12, 15, 2], 0, 1051), (28, .iconst 0, 1, [], 0, 0),
  (29, .iaload, 1, [], 0, 0), (30, .istore_n 3, 1, [], 0, 0), (31, .iconst 0, 1, [], 0, 0), (32, .istore 4, 2, [], 0, 0),
  (34, .iload 4, 2, [], 0, 0), (36, .aload_n 0, 1, [], 0, 0), (37, .getfield 133, 3, [12, 6, 0], 0, 1042), (40, .if_icmp .ge 27, 3, [67], 0, 0),
  (43, .aload_n 0, 1, [], 0, 0), (44, .iload_n 3, 1, [], 0, 0), (45, .aload_n 0, 1, [], 0, 0), (46, .getfield 53, 3, [12, 21, 2], 0, 1057),
  (49, .aload_n 0, 1, [], 0, 0), (50, .getfield 16, 3, [12, 5, 2], 0, 1041), (53, .iload 4, 2, [], 0, 0), (55, .iaload, 1, [], 0, 0),
  (56, .iaload, 1, [], 0, 0), (57, .invokevirtual 205, 3, [174, 3, 1, 1, 12], 0, 1310), (60, .istore_n 3, 1, [], 0, 0), (61, .iinc 4 1, 3, [], 1, 0),
  (64, .goto (-30), 3, [34], 0, 0), (67, .aload_n 0, 1, [], 0, 0), (68, .getfield 37, 3, [12, 16, 2], 0, 1052), (71, .iload_n 3, 1, [], 0, 0),
  (72, .iaload, 1, [], 0, 0), (73, .ireturn, 1, [], 0, 0)])
/-- 186: WordMonoidsModel.times(III)I -/
def m_Ref_times : mv_M := (4, 1, [
  (0, .aload_n 0, 1, [], 0, 0), (1, .iload_n 1, 1, [], 0, 0), (2, .invokevirtual 151, 3, [149, 2, 2, 1, 12], 0, 1221), (5, .ifCond .ne 6, 3, [11], 0, 0),
  (8, .bipush (-2), 2, [], (-2), 0), (10, .ireturn, 1, [], 0, 0), (11, .aload_n 0, 1, [], 0, 0), (12, .iload_n 1, 1, [], 0, 0),
  (13, .invokevirtual 211, 3, [176, 2, 0, 1, 12], 0, 1302), (16, .aload_n 0, 1, [], 0, 0), (17, .iload_n 2, 1, [], 0, 0), (18, .invokevirtual 217, 3, [181, 2, 2, 1, 12], 0, 1321),
  (21, .ifCond .eq 20, 3, [41], 0, 0), (24, .aload_n 0, 1, [], 0, 0), (25, .iload_n 3, 1, [], 0, 0), (26, .invokevirtual 217, 3, [181, 2, 2, 1, 12], 0, 1321),
  (29, .ifCond .eq 12, 3, [41], 0, 0), (32, .aload_n 0, 1, [], 0, 0), (33, .iload_n 2, 1, [], 0, 0), (34, .iload_n 3, 1, [], 0, 0),
  (35, .invokevirtual 208, 3, [177, 3, 1, 1, 12], 0, 1337), (38, .goto 5, 3, [43], 0, 0), (41, .bipush (-2), 2, [], (-2), 0), (43, .ireturn, 1, [], 0, 0)])
/-- 187: WordMonoidsModel.findsPowers(I)V -/
def m_Ref_findsPowers : mv_M := (4, 0, [
  (0, .iconst 0, 1, [], 0, 0), (1, .istore_n 2, 1, [], 0, 0), (2, .iload_n 2, 1, [], 0, 0), (3, .aload_n 0, 1, [], 0, 0),
  (4, .getfield 194, 3, [12, 14, 0], 0, 1050), (7, .if_icmp .ge 16, 3, [23], 0, 0), (10, .aload_n 0, 1, [], 0, 0), (11, .getfield 60, 3, [12, 24, 2], 0, 1060),
  (14, .iload_n 2, 1, [], 0, 0), (15, .iconst 0, 1, [], 0, 0), (16, .iastore, 1, [], 0, 0), (17, .iinc 2 1, 3, [], 1, 0),
  (20, .goto (-18), 3, [2], 0, 0), (23, .iload_n 1, 1, [], 0, 0), (24, .istore_n 2, 1, [], 0, 0), (25, .iconst 1, 1, [], 1, 0),
  (26, .istore_n 3, 1, [], 0, 0), (27, .aload_n 0, 1, [], 0, 0), (28, .getfield 60, 3, [12, 24, 2], 0, 1060), (31, .iload_n 2, 1, [], 0, 0),
  (32, .iaload, 1, [], 0, 0), (33, .ifCond .ne 23, 3, [56], 0, 0), (36, .aload_n 0, 1, [], 0, 0), (37, .getfield 60, 3, [12, 24, 2], 0, 1060),
  (40, .iload_n 2, 1, [], 0, 0), (41, .iload_n 3, 1, [], 0, 0), (42, .iastore, 1, [], 0, 0), (43, .aload_n 0, 1, [], 0, 0),
  (44, .iload_n 2, 1, [], 0, 0), (45, .iload_n 1, 1, [], 0, 0), (46, .invokevirtual 208, 3, [177, 3, 1, 1, 12], 0, 1337), (49, .istore_n 2, 1, [], 0, 0),
  (50, .iinc 3 1, 3, [], 1, 0), (53, .goto (-26), 3, [27], 0, 0), (56, .aload_n 0, 1, [], 0, 0), (57, .aload_n 0, 1, [], 0, 0),
  (58, .getfield 60, 3, [12, 24, 2], 0, 1060), (61, .iload_n 2, 1, [], 0, 0), (62, .iaload, 1, [], 0, 0), (63, .putfield 223, 3, [12, 25, 0], 0, 1061),
  (66, .aload_n 0, 1, [], 0, 0), (67, .iload_n 3, 1, [], 0, 0), (68, .aload_n 0, 1, [], 0, 0), (69, .getfield 223, 3, [12, 25, 0], 0, 1061),
  (72, .isub, 1, [], 0, 0), (73, .putfield 226, 3, [12, 26, 0], 0, 1062), (76, .return_, 1, [], 0, 0)])
/-- 188: WordMonoidsModel.power(III)I -/
def m_Ref_power : mv_M := (4, 1, [
  (0, .aload_n 0, 1, [], 0, 0), (1, .iload_n 1, 1, [], 0, 0), (2, .invokevirtual 151, 3, [149, 2, 2, 1, 12], 0, 1221), (5, .ifCond .eq 15, 3, [20], 0, 0),
  (8, .iload_n 3, 1, [], 0, 0), (9, .i2l, 1, [], 0, 0), (10, .lconst 0, 1, [], 0, 0), (11, .ldc2_w 131, 3, [], 0, 2),
  (14, .invokestatic 123, 3, [147, 3, 2, 0], 0, 1210), (17, .ifCond .ne 6, 3, [23], 0, 0), (20, .bipush (-2), 2, [], (-2), 0), (22, .ireturn, 1, [], 0, 0),
  (23, .aload_n 0, 1, [], 0, 0), (24, .iload_n 1, 1, [], 0, 0), (25, .invokevirtual 211, 3, [176, 2, 0, 1, 12], 0, 1302), (28, .aload_n 0, 1, [], 0, 0),
  (29, .iload_n 2, 1, [], 0, 0), (30, .invokevirtual 217, 3, [181, 2, 2, 1, 12], 0, 1321), (33, .ifCond .ne 6, 3, [39], 0, 0), (36, .bipush (-2), 2, [], (-2), 0),
  (38, .ireturn, 1, [], 0, 0), (39, .iload_n 3, 1, [], 0, 0), (40, .iconst 2, 1, [], 2, 0), (41, .if_icmp .ne 9, 3, [50], 0, 0),
  (44, .aload_n 0, 1, [], 0, 0), (45, .iload_n 2, 1, [], 0, 0), (46, .invokevirtual 214, 3, [179, 2, 1, 1, 12], 0, 1345), (49, .ireturn, 1, [], 0, 0),
  (50, .aload_n 0, 1, [], 0, 0), (51, .iload_n 2, 1, [], 0, 0), (52, .invokevirtual 229, 3, [187, 2, 0, 1, 12], 0, 1349), (55, .iload_n 3, 1, [], 0, 0),
  (56, .ifCond .ne 10, 3, [66], 0, 0), (59, .aload_n 0, 1, [], 0, 0), (60, .getfield 223, 3, [12, 25, 0], 0, 1061), (63, .goto 7, 3, [70], 0, 0),
  (66, .aload_n 0, 1, [], 0, 0), (67, .getfield 226, 3, [12, 26, 0], 0, 1062), (70, .ireturn, 1, [], 0, 0)])
/-- 189: WordMonoidsModel.heaps(I)V -/
def m_Ref_heaps : mv_M := (2, 0, [
  (0, .aload_n 0, 1, [], 0, 0), (1, .getfield 63, 3, [12, 27, 2], 0, 1063), (4, .iload_n 1, 1, [], 0, 0), (5, .baload, 1, [22], 0, 0),
  (6, .ifCond .ne 30, 3, [36], 0, 0), (9, .aload_n 0, 1, [], 0, 0), (10, .getfield 63, 3, [12, 27, 2], 0, 1063), (13, .iload_n 1, 1, [], 0, 0),
  (14, .iconst 1, 1, [], 1, 0), (15, .bastore, 1, [22], 0, 0), (16, .aload_n 0, 1, [], 0, 0), (17, .getfield 67, 3, [12, 28, 2], 0, 1064),
  (20, .aload_n 0, 1, [], 0, 0), (21, .getfield 232, 3, [12, 29, 0], 0, 1065), (24, .iload_n 1, 1, [], 0, 0), (25, .iastore, 1, [], 0, 0),
  (26, .aload_n 0, 1, [], 0, 0), (27, .dup, 1, [], 0, 0), (28, .getfield 232, 3, [12, 29, 0], 0, 1065), (31, .iconst 1, 1, [], 1, 0),
  (32, .iadd, 1, [], 0, 0), (33, .putfield 232, 3, [12, 29, 0], 0, 1065), (36, .return_, 1, [], 0, 0)])
/-- 190: WordMonoidsModel.findsFrom(II)V -/
def m_Ref_findsFrom : mv_M := (6, 0, [
  (0, .iconst 0, 1, [], 0, 0), (1, .istore_n 3, 1, [], 0, 0), (2, .iload_n 3, 1, [], 0, 0), (3, .aload_n 0, 1, [], 0, 0),
  (4, .getfield 194, 3, [12, 14, 0], 0, 1050), (7, .if_icmp .ge 16, 3, [23], 0, 0), (10, .aload_n 0, 1, [], 0, 0), (11, .getfield 63, 3, [12, 27, 2], 0, 1063),
  (14, .iload_n 3, 1, [], 0, 0), (15, .iconst 0, 1, [], 0, 0), (16, .bastore, 1, [22], 0, 0), (17, .iinc 3 1, 3, [], 1, 0),
  (20, .goto (-18), 3, [2], 0, 0), (23, .aload_n 0, 1, [], 0, 0), (24, .iconst 0, 1, [], 0, 0), (25, .putfield 232, 3, [12, 29, 0], 0, 1065),
  (28, .aload_n 0, 1, [], 0, 0), (29, .iload_n 1, 1, [], 0, 0), (30, .invokevirtual 235, 3, [189, 2, 0, 1, 12], 0, 1361), (33, .iconst 0, 1, [], 0, 0),
  (34, .istore_n 3, 1, [], 0, 0), (35, .iload_n 3, 1, [], 0, 0), (36, .aload_n 0, 1, [], 0, 0), (37, .getfield 232, 3, [12, 29, 0], 0, 1065),
  (40, .if_icmp .ge 79, 3, [119], 0, 0), (43, .iconst 0, 1, [], 0, 0), (44, .istore 4, 2, [], 0, 0), (46, .iload 4, 2, [], 0, 0),
  (48, .iconst 3, 1, [], 3, 0), (49, .if_icmp .ge 64, 3, [113], 0, 0), (52, .aload_n 0, 1, [], 0, 0), (53, .getfield 37, 3, [12, 16, 2], 0, 1052),
  (56, .aload_n 0, 1, [], 0, 0), (57, .getfield 53, 3, [12, 21, 2], 0, 1057), (60, .iload 4, 2, [], 0, 0), (62, .iaload, 1, [], 0, 0),
  (63, .iaload, 1, [], 0, 0), (64, .istore 5, 2, [], 0, 0), (66, .iload_n 2, 1, [], 0, 0), (67, .iconst 1, 1, [], 1, 0),
  (68, .if_icmp .eq 19, 3, [87], 0, 0), (71, .aload_n 0, 1, [], 0, 0), (72, .aload_n 0, 1, [], 0, 0), (73, .aload_n 0, 1, [], 0, 0),
  (74, .getfield 67, 3, [12, 28, 2], 0, 1064), (77, .iload_n 3, 1, [], 0, 0), (78, .iaload, 1, [], 0, 0), (79, .iload 5, 2, [], 0, 0),
  (81, .invokevirtual 208, 3, [177, 3, 1, 1, 12], 0, 1337), (84, .invokevirtual 235, 3, [189, 2, 0, 1, 12], 0, 1361), (87, .iload_n 2, 1, [], 0, 0), (88, .ifCond .eq 19, 3, [107], 0, 0),
  (91, .aload_n 0, 1, [], 0, 0), (92, .aload_n 0, 1, [], 0, 0), (93, .iload 5, 2, [], 0, 0), (95, .aload_n 0, 1, [], 0, 0),
  (96, .getfield 67, 3, [12, 28, 2], 0, 1064), (99, .iload_n 3, 1, [], 0, 0), (100, .iaload, 1, [], 0, 0), (101, .invokevirtual 208, 3, [177, 3, 1, 1, 12], 0, 1337),
  (104, .invokevirtual 235, 3, [189, 2, 0, 1, 12], 0, 1361), (107, .iinc 4 1, 3, [], 1, 0), (110, .goto (-64), 3, [46], 0, 0), (113, .iinc 3 1, 3, [], 1, 0),
  (116, .goto (-81), 3, [35], 0, 0), (119, .return_, 1, [], 0, 0)])
/-- 191: WordMonoidsModel.below(IIII)I -/
def m_Ref_below : mv_M := (5, 1, [
  (0, .aload_n 0, 1, [], 0, 0), (1, .iload_n 1, 1, [], 0, 0), (2, .invokevirtual 151, 3, [149, 2, 2, 1, 12], 0, 1221), (5, .ifCond .eq 16, 3, [21], 0, 0),
  (8, .iload 4, 2, [], 0, 0), (10, .i2l, 1, [], 0, 0), (11, .lconst 0, 1, [], 0, 0), (12, .ldc2_w 131, 3, [], 0, 2),
  (15, .invokestatic 123, 3, [147, 3, 2, 0], 0, 1210), (18, .ifCond .ne 6, 3, [24], 0, 0), (21, .bipush (-2), 2, [], (-2), 0), (23, .ireturn, 1, [], 0, 0),
  (24, .aload_n 0, 1, [], 0, 0), (25, .iload_n 1, 1, [], 0, 0), (26, .invokevirtual 211, 3, [176, 2, 0, 1, 12], 0, 1302), (29, .aload_n 0, 1, [], 0, 0),
  (30, .iload_n 2, 1, [], 0, 0), (31, .invokevirtual 217, 3, [181, 2, 2, 1, 12], 0, 1321), (34, .ifCond .eq 11, 3, [45], 0, 0), (37, .aload_n 0, 1, [], 0, 0),
  (38, .iload_n 3, 1, [], 0, 0), (39, .invokevirtual 217, 3, [181, 2, 2, 1, 12], 0, 1321), (42, .ifCond .ne 6, 3, [48], 0, 0), (45, .bipush (-2), 2, [], (-2), 0),
  (47, .ireturn, 1, [], 0, 0), (48, .aload_n 0, 1, [], 0, 0), (49, .iload_n 3, 1, [], 0, 0), (50, .iload 4, 2, [], 0, 0),
  (52, .invokevirtual 238, 3, [190, 3, 0, 1, 12], 0, 1357), (55, .aload_n 0, 1, [], 0, 0), (56, .getfield 63, 3, [12, 27, 2], 0, 1063), (59, .iload_n 2, 1, [], 0, 0),
  (60, .baload, 1, [22], 0, 0), (61, .invokestatic 179, 3, [148, 1, 1, 0], 0, 1269), (64, .ireturn, 1, [], 0, 0)])
/-- 192: WordMonoidsModel.classes(I)I -/
def m_Ref_classes : mv_M := (6, 1, [
  (0, .iconst 0, 1, [], 0, 0), (1, .istore_n 2, 1, [], 0, 0), (2, .iload_n 2, 1, [], 0, 0), (3, .aload_n 0, 1, [], 0, 0),
  (4, .getfield 194, 3, [12, 14, 0], 0, 1050), (7, .if_icmp .ge 49, 3, [56], 0, 0), (10, .aload_n 0, 1, [], 0, 0), (11, .iload_n 2, 1, [], 0, 0),
  (12, .iload_n 1, 1, [], 0, 0), (13, .invokevirtual 238, 3, [190, 3, 0, 1, 12], 0, 1357), (16, .iconst 0, 1, [], 0, 0), (17, .istore_n 3, 1, [], 0, 0),
  (18, .iload_n 3, 1, [], 0, 0), (19, .aload_n 0, 1, [], 0, 0), (20, .getfield 194, 3, [12, 14, 0], 0, 1050), (23, .if_icmp .ge 27, 3, [50], 0, 0),
  (26, .aload_n 0, 1, [], 0, 0), (27, .getfield 70, 3, [12, 30, 2], 0, 1066), (30, .sipush 256, 3, [], 256, 0), (33, .iload_n 2, 1, [], 0, 0),
  (34, .imul, 1, [], 0, 0), (35, .iload_n 3, 1, [], 0, 0), (36, .iadd, 1, [], 0, 0), (37, .aload_n 0, 1, [], 0, 0),
  (38, .getfield 63, 3, [12, 27, 2], 0, 1063), (41, .iload_n 3, 1, [], 0, 0), (42, .baload, 1, [22], 0, 0), (43, .bastore, 1, [22], 0, 0),
  (44, .iinc 3 1, 3, [], 1, 0), (47, .goto (-29), 3, [18], 0, 0), (50, .iinc 2 1, 3, [], 1, 0), (53, .goto (-51), 3, [2], 0, 0),
  (56, .iconst 0, 1, [], 0, 0), (57, .istore_n 2, 1, [], 0, 0), (58, .iconst 0, 1, [], 0, 0), (59, .istore_n 3, 1, [], 0, 0),
  (60, .iload_n 3, 1, [], 0, 0), (61, .aload_n 0, 1, [], 0, 0), (62, .getfield 194, 3, [12, 14, 0], 0, 1050), (65, .if_icmp .ge 79, 3, [144], 0, 0),
  (68, .iconst 1, 1, [], 1, 0), (69, .istore 4, 2, [], 0, 0), (71, .iconst 0, 1, [], 0, 0), (72, .istore 5, 2, [], 0, 0),
  (74, .iload 5, 2, [], 0, 0), (76, .iload_n 3, 1, [], 0, 0), (77, .if_icmp .ge 53, 3, [130], 0, 0), (80, .iload 4, 2, [], 0, 0),
  (82, .ifCond .eq 39, 3, [121], 0, 0), (85, .aload_n 0, 1, [], 0, 0), (86, .getfield 70, 3, [12, 30, 2], 0, 1066), (89, .sipush 256, 3, [], 256, 0),
  (92, .iload 5, 2, [], 0, 0), (94, .imul, 1, [], 0, 0), (95, .iload_n 3, 1, [], 0, 0), (96, .iadd, 1, [], 0, 0),
  (97, .baload, 1, [22], 0, 0), (98, .ifCond .eq 19, 3, [117], 0, 0), (101, .aload_n 0, 1, [], 0, 0), (102, .getfield 70, 3, [12, 30, 2], 0, 1066),
  (105, .sipush 256, 3, [], 256, 0), (108, .iload_n 3, 1, [], 0, 0), (109, .imul, 1, [], 0, 0), (110, .iload 5, 2, [], 0, 0),
  (112, .iadd, 1, [], 0, 0), (113, .baload, 1, [22], 0, 0), (114, .ifCond .ne 7, 3, [121], 0, 0), (117, .iconst 1, 1, [], 1, 0),
  (118, .goto 4, 3, [122], 0, 0), (121, .iconst 0, 1, [], 0, 0), (122, .istore 4, 2, [], 0, 0), (124, .iinc 5 1, 3, [], 1, 0),
  (127, .goto (-53), 3, [74], 0, 0), (130, .iload_n 2, 1, [], 0, 0), (131, .iload 4, 2, [], 0, 0), (133, .invokestatic 179, 3, [148, 1, 1, 0], 0, 1269),
  (136, .iadd, 1, [], 0, 0), (137, .istore_n 2, 1, [], 0, 0), (138, .iinc 3 1, 3, [], 1, 0), (141, .goto (-81), 3, [60], 0, 0),
  (144, .iload_n 2, 1, [], 0, 0), (145, .ireturn, 1, [], 0, 0)])
/-- 193: WordMonoidsModel.isZero(I)Z -/
def m_Ref_isZero : mv_M := (5, 2, [
  (0, .iconst 1, 1, [], 1, 0), (1, .istore_n 2, 1, [], 0, 0), (2, .iconst 0, 1, [], 0, 0), (3, .istore_n 3, 1, [], 0, 0),
  (4, .iload_n 3, 1, [], 0, 0), (5, .iconst 3, 1, [], 3, 0), (6, .if_icmp .ge 54, 3, [60], 0, 0), (9, .aload_n 0, 1, [], 0, 0),
  (10, .getfield 37, 3, [12, 16, 2], 0, 1052), (13, .aload_n 0, 1, [], 0, 0), (14, .getfield 53, 3, [12, 21, 2], 0, 1057), (17, .iload_n 3, 1, [], 0, 0),
  (18, .iaload, 1, [], 0, 0), (19, .iaload, 1, [], 0, 0), (20, .istore 4, 2, [], 0, 0), (22, .iload_n 2, 1, [], 0, 0),
  (23, .ifCond .eq 29, 3, [52], 0, 0), (26, .aload_n 0, 1, [], 0, 0), (27, .iload_n 1, 1, [], 0, 0), (28, .iload 4, 2, [], 0, 0),
  (30, .invokevirtual 208, 3, [177, 3, 1, 1, 12], 0, 1337), (33, .iload_n 1, 1, [], 0, 0), (34, .if_icmp .ne 18, 3, [52], 0, 0), (37, .aload_n 0, 1, [], 0, 0),
  (38, .iload 4, 2, [], 0, 0), (40, .iload_n 1, 1, [], 0, 0), (41, .invokevirtual 208, 3, [177, 3, 1, 1, 12], 0, 1337), (44, .iload_n 1, 1, [], 0, 0),
  (45, .if_icmp .ne 7, 3, [52], 0, 0), (48, .iconst 1, 1, [], 1, 0), (49, .goto 4, 3, [53], 0, 0), (52, .iconst 0, 1, [], 0, 0),
  (53, .istore_n 2, 1, [], 0, 0), (54, .iinc 3 1, 3, [], 1, 0), (57, .goto (-53), 3, [4], 0, 0), (60, .iload_n 2, 1, [], 0, 0),
  (61, .ireturn, 1, [], 0, 0)])
/-- 194: WordMonoidsModel.isTaken(I)Z -/
def m_Ref_isTaken : mv_M := (2, 2, [
  (0, .aload_n 0, 1, [], 0, 0), (1, .getfield 168, 3, [12, 8, 0], 0, 1044), (4, .aload_n 0, 1, [], 0, 0), (5, .getfield 34, 3, [12, 15, 2], 0, 1051),
  (8, .iload_n 1, 1, [], 0, 0), (9, .iaload, 1, [], 0, 0), (10, .iconst 0, 1, [], 0, 0), (11, .invokestatic 190, 3, [173, 2, 1, 0], 0, 1314),
  (14, .ishr, 1, [], 0, 0), (15, .iconst 1, 1, [], 1, 0), (16, .iand, 1, [], 0, 0), (17, .iconst 1, 1, [], 1, 0),
  (18, .if_icmp .ne 7, 3, [25], 0, 0), (21, .iconst 1, 1, [], 1, 0), (22, .goto 4, 3, [26], 0, 0), (25, .iconst 0, 1, [], 0, 0),
  (26, .ireturn, 1, [], 0, 0)])
/-- 195: WordMonoidsModel.green(II)I -/
def m_Ref_green : mv_M := (6, 1, [
  (0, .aload_n 0, 1, [], 0, 0), (1, .iload_n 1, 1, [], 0, 0), (2, .invokevirtual 151, 3, [149, 2, 2, 1, 12], 0, 1221), (5, .ifCond .eq 15, 3, [20], 0, 0),
  (8, .iload_n 2, 1, [], 0, 0), (9, .i2l, 1, [], 0, 0), (10, .lconst 0, 1, [], 0, 0), (11, .ldc2_w 242, 3, [], 0, 6),
  (14, .invokestatic 123, 3, [147, 3, 2, 0], 0, 1210), (17, .ifCond .ne 6, 3, [23], 0, 0), (20, .bipush (-2), 2, [], (-2), 0), (22, .ireturn, 1, [], 0, 0),
  (23, .aload_n 0, 1, [], 0, 0), (24, .iload_n 1, 1, [], 0, 0), (25, .invokevirtual 211, 3, [176, 2, 0, 1, 12], 0, 1302), (28, .iload_n 2, 1, [], 0, 0),
  (29, .i2l, 1, [], 0, 0), (30, .lconst 1, 1, [], 0, 1), (31, .ldc2_w 136, 3, [], 0, 3), (34, .invokestatic 123, 3, [147, 3, 2, 0], 0, 1210),
  (37, .ifCond .eq 11, 3, [48], 0, 0), (40, .aload_n 0, 1, [], 0, 0), (41, .iload_n 2, 1, [], 0, 0), (42, .iconst 1, 1, [], 1, 0),
  (43, .isub, 1, [], 0, 0), (44, .invokevirtual 244, 3, [192, 2, 1, 1, 12], 0, 1370), (47, .ireturn, 1, [], 0, 0), (48, .iconst 0, 1, [], 0, 0),
  (49, .istore_n 3, 1, [], 0, 0), (50, .iconst (-1), 1, [], (-1), 0), (51, .istore 4, 2, [], 0, 0), (53, .iconst 0, 1, [], 0, 0),
  (54, .istore 5, 2, [], 0, 0), (56, .iload 5, 2, [], 0, 0), (58, .aload_n 0, 1, [], 0, 0), (59, .getfield 194, 3, [12, 14, 0], 0, 1050),
  (62, .if_icmp .ge 109, 3, [171], 0, 0), (65, .iload_n 2, 1, [], 0, 0), (66, .ifCond .ne 30, 3, [96], 0, 0), (69, .iload_n 3, 1, [], 0, 0),
  (70, .aload_n 0, 1, [], 0, 0), (71, .iload 5, 2, [], 0, 0), (73, .iload 5, 2, [], 0, 0), (75, .invokevirtual 208, 3, [177, 3, 1, 1, 12], 0, 1337),
  (78, .iload 5, 2, [], 0, 0), (80, .if_icmp .ne 7, 3, [87], 0, 0), (83, .iconst 1, 1, [], 1, 0), (84, .goto 4, 3, [88], 0, 0),
  (87, .iconst 0, 1, [], 0, 0), (88, .invokestatic 179, 3, [148, 1, 1, 0], 0, 1269), (91, .iadd, 1, [], 0, 0), (92, .istore_n 3, 1, [], 0, 0),
  (93, .goto 72, 3, [165], 0, 0), (96, .iload_n 2, 1, [], 0, 0), (97, .iconst 4, 1, [], 4, 0), (98, .if_icmp .ne 29, 3, [127], 0, 0),
  (101, .aload_n 0, 1, [], 0, 0), (102, .iload 5, 2, [], 0, 0), (104, .invokevirtual 229, 3, [187, 2, 0, 1, 12], 0, 1349), (107, .aload_n 0, 1, [], 0, 0),
  (108, .getfield 226, 3, [12, 26, 0], 0, 1062), (111, .iload_n 3, 1, [], 0, 0), (112, .if_icmp .le 10, 3, [122], 0, 0), (115, .aload_n 0, 1, [], 0, 0),
  (116, .getfield 226, 3, [12, 26, 0], 0, 1062), (119, .goto 4, 3, [123], 0, 0), (122, .iload_n 3, 1, [], 0, 0), (123, .istore_n 3, 1, [], 0, 0),
  (124, .goto 41, 3, [165], 0, 0), (127, .iload_n 2, 1, [], 0, 0), (128, .iconst 5, 1, [], 5, 0), (129, .if_icmp .ne 18, 3, [147], 0, 0),
  (132, .iload_n 3, 1, [], 0, 0), (133, .aload_n 0, 1, [], 0, 0), (134, .iload 5, 2, [], 0, 0), (136, .invokevirtual 247, 3, [194, 2, 2, 1, 12], 0, 1374),
  (139, .invokestatic 179, 3, [148, 1, 1, 0], 0, 1269), (142, .iadd, 1, [], 0, 0), (143, .istore_n 3, 1, [], 0, 0), (144, .goto 21, 3, [165], 0, 0),
  (147, .aload_n 0, 1, [], 0, 0), (148, .iload 5, 2, [], 0, 0), (150, .invokevirtual 250, 3, [193, 2, 2, 1, 12], 0, 1378), (153, .ifCond .eq 8, 3, [161], 0, 0),
  (156, .iload 5, 2, [], 0, 0), (158, .goto 5, 3, [163], 0, 0), (161, .iload 4, 2, [], 0, 0), (163, .istore 4, 2, [], 0, 0),
  (165, .iinc 5 1, 3, [], 1, 0), (168, .goto (-112), 3, [56], 0, 0), (171, .iload_n 2, 1, [], 0, 0), (172, .bipush 6, 2, [], 6, 0),
  (174, .if_icmp .ne 8, 3, [182], 0, 0), (177, .iload 4, 2, [], 0, 0), (179, .goto 4, 3, [183], 0, 0), (182, .iload_n 3, 1, [], 0, 0),
  (183, .ireturn, 1, [], 0, 0)])
/-- 196: WordMonoidsModel.isByOne(I)Z -/
def m_Ref_isByOne : mv_M := (1, 2, [
  (0, .iload_n 0, 1, [], 0, 0), (1, .ifCond .eq 13, 3, [14], 0, 0), (4, .iload_n 0, 1, [], 0, 0), (5, .iconst 1, 1, [], 1, 0),
  (6, .if_icmp .eq 8, 3, [14], 0, 0), (9, .iload_n 0, 1, [], 0, 0), (10, .iconst 3, 1, [], 3, 0), (11, .if_icmp .ne 7, 3, [18], 0, 0),
  (14, .iconst 1, 1, [], 1, 0), (15, .goto 4, 3, [19], 0, 0), (18, .iconst 0, 1, [], 0, 0), (19, .ireturn, 1, [], 0, 0)])
/-- 197: WordMonoidsModel.isIdempotent(I)Z -/
def m_Ref_isIdempotent : mv_M := (2, 2, [
  (0, .aload_n 0, 1, [], 0, 0), (1, .iload_n 1, 1, [], 0, 0), (2, .iload_n 1, 1, [], 0, 0), (3, .invokevirtual 253, 3, [178, 3, 1, 1, 12], 0, 1401),
  (6, .iload_n 1, 1, [], 0, 0), (7, .if_icmp .ne 7, 3, [14], 0, 0), (10, .iconst 1, 1, [], 1, 0), (11, .goto 4, 3, [15], 0, 0),
  (14, .iconst 0, 1, [], 0, 0), (15, .ireturn, 1, [], 0, 0)])
/-- 198: WordMonoidsModel.isTie(I)Z -/
def m_Ref_isTie : mv_M := (2, 2, [
  (0, .aload_n 0, 1, [], 0, 0), (1, .iload_n 1, 1, [], 0, 0), (2, .invokevirtual 256, 3, [197, 2, 2, 1, 12], 0, 1405), (5, .ifCond .eq 18, 3, [23], 0, 0),
  (8, .iload_n 1, 1, [], 0, 0), (9, .ifCond .gt 10, 3, [19], 0, 0), (12, .aload_n 0, 1, [], 0, 0), (13, .getfield 197, 3, [12, 22, 3], 0, 1058),
  (16, .ifCond .eq 7, 3, [23], 0, 0), (19, .iconst 1, 1, [], 1, 0), (20, .goto 4, 3, [24], 0, 0), (23, .iconst 0, 1, [], 0, 0),
  (24, .ireturn, 1, [], 0, 0)])
/-- 199: WordMonoidsModel.goesWith(II)Z -/
def m_Ref_goesWith : mv_M := (5, 2, [
  (0, .iconst 0, 1, [], 0, 0), (1, .istore_n 3, 1, [], 0, 0), (2, .iload_n 3, 1, [], 0, 0), (3, .aload_n 0, 1, [], 0, 0),
  (4, .getfield 194, 3, [12, 14, 0], 0, 1050), (7, .if_icmp .ge 41, 3, [48], 0, 0), (10, .aload_n 0, 1, [], 0, 0), (11, .aload_n 0, 1, [], 0, 0),
  (12, .iload_n 2, 1, [], 0, 0), (13, .iload_n 3, 1, [], 0, 0), (14, .invokevirtual 253, 3, [178, 3, 1, 1, 12], 0, 1401), (17, .iload_n 2, 1, [], 0, 0),
  (18, .invokevirtual 253, 3, [178, 3, 1, 1, 12], 0, 1401), (21, .istore 4, 2, [], 0, 0), (23, .aload_n 0, 1, [], 0, 0), (24, .iload_n 1, 1, [], 0, 0),
  (25, .iload 4, 2, [], 0, 0), (27, .invokevirtual 253, 3, [178, 3, 1, 1, 12], 0, 1401), (30, .aload_n 0, 1, [], 0, 0), (31, .iload 4, 2, [], 0, 0),
  (33, .iload_n 1, 1, [], 0, 0), (34, .invokevirtual 253, 3, [178, 3, 1, 1, 12], 0, 1401), (37, .if_icmp .eq 5, 3, [42], 0, 0), (40, .iconst 0, 1, [], 0, 0),
  (41, .ireturn, 1, [], 0, 0), (42, .iinc 3 1, 3, [], 1, 0), (45, .goto (-43), 3, [2], 0, 0), (48, .iconst 1, 1, [], 1, 0),
  (49, .ireturn, 1, [], 0, 0)])
/-- 200: WordMonoidsModel.isSo(III)Z -/
def m_Ref_isSo : mv_M := (7, 2, [
  (0, .aload_n 0, 1, [], 0, 0), (1, .getfield 50, 3, [12, 20, 2], 0, 1056), (4, .aload_n 0, 1, [], 0, 0), (5, .iload_n 2, 1, [], 0, 0),
  (6, .iload_n 3, 1, [], 0, 0), (7, .invokevirtual 253, 3, [178, 3, 1, 1, 12], 0, 1401), (10, .iaload, 1, [], 0, 0), (11, .istore 4, 2, [], 0, 0),
  (13, .aload_n 0, 1, [], 0, 0), (14, .getfield 50, 3, [12, 20, 2], 0, 1056), (17, .aload_n 0, 1, [], 0, 0), (18, .iload_n 3, 1, [], 0, 0),
  (19, .iload_n 2, 1, [], 0, 0), (20, .invokevirtual 253, 3, [178, 3, 1, 1, 12], 0, 1401), (23, .iaload, 1, [], 0, 0), (24, .istore 5, 2, [], 0, 0),
  (26, .aload_n 0, 1, [], 0, 0), (27, .aload_n 0, 1, [], 0, 0), (28, .iload_n 2, 1, [], 0, 0), (29, .iload_n 3, 1, [], 0, 0),
  (30, .invokevirtual 253, 3, [178, 3, 1, 1, 12], 0, 1401), (33, .iload_n 2, 1, [], 0, 0), (34, .invokevirtual 253, 3, [178, 3, 1, 1, 12], 0, 1401), (37, .istore 6, 2, [], 0, 0),
  (39, .iload_n 1, 1, [], 0, 0), (40, .tableswitch 298 0 10 #[60, 86, 104, 125, 131, 149, 167, 197, 230, 254, 278], 60, [338, 100, 126, 144, 165, 171, 189, 207, 237, 270, 294, 318], 0, 0), (100, .aload_n 0, 1, [], 0, 0), (101, .aload_n 0, 1, [], 0, 0),
  (102, .getfield 50, 3, [12, 20, 2], 0, 1056), (105, .iload_n 2, 1, [], 0, 0), (106, .iaload, 1, [], 0, 0), (107, .iload_n 2, 1, [], 0, 0),
  (108, .invokevirtual 253, 3, [178, 3, 1, 1, 12], 0, 1401), (111, .aload_n 0, 1, [], 0, 0), (112, .getfield 50, 3, [12, 20, 2], 0, 1056), (115, .iload_n 2, 1, [], 0, 0),
  (116, .iaload, 1, [], 0, 0), (117, .if_icmp .ne 7, 3, [124], 0, 0), (120, .iconst 1, 1, [], 1, 0), (121, .goto 4, 3, [125], 0, 0),
  (124, .iconst 0, 1, [], 0, 0), (125, .ireturn, 1, [], 0, 0), (126, .iload_n 2, 1, [], 0, 0), (127, .ifCond .eq 11, 3, [138], 0, 0),
  (130, .aload_n 0, 1, [], 0, 0), (131, .iload_n 2, 1, [], 0, 0), (132, .invokevirtual 256, 3, [197, 2, 2, 1, 12], 0, 1405), (135, .ifCond .ne 7, 3, [142], 0, 0),
  (138, .iconst 1, 1, [], 1, 0), (139, .goto 4, 3, [143], 0, 0), (142, .iconst 0, 1, [], 0, 0), (143, .ireturn, 1, [], 0, 0),
  (144, .aload_n 0, 1, [], 0, 0), (145, .iload_n 2, 1, [], 0, 0), (146, .iload_n 3, 1, [], 0, 0), (147, .invokevirtual 253, 3, [178, 3, 1, 1, 12], 0, 1401),
  (150, .aload_n 0, 1, [], 0, 0), (151, .iload_n 3, 1, [], 0, 0), (152, .iload_n 2, 1, [], 0, 0), (153, .invokevirtual 253, 3, [178, 3, 1, 1, 12], 0, 1401),
  (156, .if_icmp .ne 7, 3, [163], 0, 0), (159, .iconst 1, 1, [], 1, 0), (160, .goto 4, 3, [164], 0, 0), (163, .iconst 0, 1, [], 0, 0),
  (164, .ireturn, 1, [], 0, 0), (165, .aload_n 0, 1, [], 0, 0), (166, .iload_n 2, 1, [], 0, 0), (167, .invokevirtual 256, 3, [197, 2, 2, 1, 12], 0, 1405),
  (170, .ireturn, 1, [], 0, 0), (171, .aload_n 0, 1, [], 0, 0), (172, .iload 4, 2, [], 0, 0), (174, .iload_n 2, 1, [], 0, 0),
  (175, .invokevirtual 253, 3, [178, 3, 1, 1, 12], 0, 1401), (178, .iload 4, 2, [], 0, 0), (180, .if_icmp .ne 7, 3, [187], 0, 0), (183, .iconst 1, 1, [], 1, 0),
  (184, .goto 4, 3, [188], 0, 0), (187, .iconst 0, 1, [], 0, 0), (188, .ireturn, 1, [], 0, 0), (189, .aload_n 0, 1, [], 0, 0),
  (190, .iload_n 3, 1, [], 0, 0), (191, .iload 4, 2, [], 0, 0), (193, .invokevirtual 253, 3, [178, 3, 1, 1, 12], 0, 1401), (196, .iload 4, 2, [], 0, 0),
  (198, .if_icmp .ne 7, 3, [205], 0, 0), (201, .iconst 1, 1, [], 1, 0), (202, .goto 4, 3, [206], 0, 0), (205, .iconst 0, 1, [], 0, 0),
  (206, .ireturn, 1, [], 0, 0), (207, .aload_n 0, 1, [], 0, 0), (208, .iload 4, 2, [], 0, 0), (210, .iload_n 2, 1, [], 0, 0),
  (211, .invokevirtual 253, 3, [178, 3, 1, 1, 12], 0, 1401), (214, .iload 4, 2, [], 0, 0), (216, .if_icmp .ne 19, 3, [235], 0, 0), (219, .aload_n 0, 1, [], 0, 0),
  (220, .iload_n 3, 1, [], 0, 0), (221, .iload 4, 2, [], 0, 0), (223, .invokevirtual 253, 3, [178, 3, 1, 1, 12], 0, 1401), (226, .iload 4, 2, [], 0, 0),
  (228, .if_icmp .ne 7, 3, [235], 0, 0), (231, .iconst 1, 1, [], 1, 0), (232, .goto 4, 3, [236], 0, 0), (235, .iconst 0, 1, [], 0, 0),
  (236, .ireturn, 1, [], 0, 0), (237, .aload_n 0, 1, [], 0, 0), (238, .iload_n 2, 1, [], 0, 0), (239, .invokevirtual 259, 3, [198, 2, 2, 1, 12], 0, 1409),
  (242, .ifCond .eq 22, 3, [264], 0, 0), (245, .aload_n 0, 1, [], 0, 0), (246, .iload 6, 2, [], 0, 0), (248, .invokevirtual 256, 3, [197, 2, 2, 1, 12], 0, 1405),
  (251, .ifCond .eq 17, 3, [268], 0, 0), (254, .aload_n 0, 1, [], 0, 0), (255, .iload 6, 2, [], 0, 0), (257, .iload_n 2, 1, [], 0, 0),
  (258, .invokevirtual 262, 3, [199, 3, 2, 1, 12], 0, 1413), (261, .ifCond .eq 7, 3, [268], 0, 0), (264, .iconst 1, 1, [], 1, 0), (265, .goto 4, 3, [269], 0, 0),
  (268, .iconst 0, 1, [], 0, 0), (269, .ireturn, 1, [], 0, 0), (270, .aload_n 0, 1, [], 0, 0), (271, .iload_n 2, 1, [], 0, 0),
  (272, .invokevirtual 259, 3, [198, 2, 2, 1, 12], 0, 1409), (275, .ifCond .eq 13, 3, [288], 0, 0), (278, .aload_n 0, 1, [], 0, 0), (279, .iload_n 3, 1, [], 0, 0),
  (280, .iload_n 2, 1, [], 0, 0), (281, .invokevirtual 253, 3, [178, 3, 1, 1, 12], 0, 1401), (284, .iload_n 2, 1, [], 0, 0), (285, .if_icmp .ne 7, 3, [292], 0, 0),
  (288, .iconst 1, 1, [], 1, 0), (289, .goto 4, 3, [293], 0, 0), (292, .iconst 0, 1, [], 0, 0), (293, .ireturn, 1, [], 0, 0),
  (294, .aload_n 0, 1, [], 0, 0), (295, .iload_n 2, 1, [], 0, 0), (296, .invokevirtual 259, 3, [198, 2, 2, 1, 12], 0, 1409), (299, .ifCond .eq 13, 3, [312], 0, 0),
  (302, .aload_n 0, 1, [], 0, 0), (303, .iload_n 2, 1, [], 0, 0), (304, .iload_n 3, 1, [], 0, 0), (305, .invokevirtual 253, 3, [178, 3, 1, 1, 12], 0, 1401),
  (308, .iload_n 2, 1, [], 0, 0), (309, .if_icmp .ne 7, 3, [316], 0, 0), (312, .iconst 1, 1, [], 1, 0), (313, .goto 4, 3, [317], 0, 0),
  (316, .iconst 0, 1, [], 0, 0), (317, .ireturn, 1, [], 0, 0), (318, .aload_n 0, 1, [], 0, 0), (319, .iload_n 2, 1, [], 0, 0),
  (320, .invokevirtual 259, 3, [198, 2, 2, 1, 12], 0, 1409), (323, .ifCond .eq 9, 3, [332], 0, 0), (326, .iload 6, 2, [], 0, 0), (328, .iload_n 2, 1, [], 0, 0),
  (329, .if_icmp .ne 7, 3, [336], 0, 0), (332, .iconst 1, 1, [], 1, 0), (333, .goto 4, 3, [337], 0, 0), (336, .iconst 0, 1, [], 0, 0),
  (337, .ireturn, 1, [], 0, 0), (338, .aload_n 0, 1, [], 0, 0), (339, .aload_n 0, 1, [], 0, 0), (340, .iload 4, 2, [], 0, 0),
  (342, .iload 5, 2, [], 0, 0), (344, .invokevirtual 253, 3, [178, 3, 1, 1, 12], 0, 1401), (347, .iload 4, 2, [], 0, 0), (349, .invokevirtual 253, 3, [178, 3, 1, 1, 12], 0, 1401),
  (352, .iload 4, 2, [], 0, 0), (354, .if_icmp .ne 7, 3, [361], 0, 0), (357, .iconst 1, 1, [], 1, 0), (358, .goto 4, 3, [362], 0, 0),
  (361, .iconst 0, 1, [], 0, 0), (362, .ireturn, 1, [], 0, 0)])
/-- 201: WordMonoidsModel.findsWrong(I)V -/
def m_Ref_findsWrong : mv_M := (4, 0, [
  (0, .iconst 0, 1, [], 0, 0), (1, .istore_n 2, 1, [], 0, 0), (2, .iload_n 2, 1, [], 0, 0), (3, .aload_n 0, 1, [], 0, 0),
  (4, .getfield 194, 3, [12, 14, 0], 0, 1050), (7, .if_icmp .ge 68, 3, [75], 0, 0), (10, .iconst 0, 1, [], 0, 0), (11, .istore_n 3, 1, [], 0, 0),
  (12, .iload_n 3, 1, [], 0, 0), (13, .iload_n 1, 1, [], 0, 0), (14, .invokestatic 265, 3, [196, 1, 2, 0], 0, 1394), (17, .ifCond .eq 7, 3, [24], 0, 0),
  (20, .iconst 1, 1, [], 1, 0), (21, .goto 7, 3, [28], 0, 0), (24, .aload_n 0, 1, [], 0, 0), (25, .getfield 194, 3, [12, 14, 0], 0, 1050),
  (28, .if_icmp .ge 41, 3, [69], 0, 0), (31, .aload_n 0, 1, [], 0, 0), (32, .iload_n 1, 1, [], 0, 0), (33, .iload_n 2, 1, [], 0, 0),
  (34, .iload_n 3, 1, [], 0, 0), (35, .invokevirtual 268, 3, [200, 4, 2, 1, 12], 0, 1397), (38, .ifCond .ne 25, 3, [63], 0, 0), (41, .aload_n 0, 1, [], 0, 0),
  (42, .iload_n 2, 1, [], 0, 0), (43, .putfield 271, 3, [12, 31, 0], 0, 1067), (46, .aload_n 0, 1, [], 0, 0), (47, .iload_n 1, 1, [], 0, 0),
  (48, .invokestatic 265, 3, [196, 1, 2, 0], 0, 1394), (51, .ifCond .eq 7, 3, [58], 0, 0), (54, .iconst (-1), 1, [], (-1), 0), (55, .goto 4, 3, [59], 0, 0),
  (58, .iload_n 3, 1, [], 0, 0), (59, .putfield 274, 3, [12, 32, 0], 0, 1068), (62, .return_, 1, [], 0, 0), (63, .iinc 3 1, 3, [], 1, 0),
  (66, .goto (-54), 3, [12], 0, 0), (69, .iinc 2 1, 3, [], 1, 0), (72, .goto (-70), 3, [2], 0, 0), (75, .aload_n 0, 1, [], 0, 0),
  (76, .iconst (-1), 1, [], (-1), 0), (77, .putfield 271, 3, [12, 31, 0], 0, 1067), (80, .aload_n 0, 1, [], 0, 0), (81, .iconst (-1), 1, [], (-1), 0),
  (82, .putfield 274, 3, [12, 32, 0], 0, 1068), (85, .return_, 1, [], 0, 0)])
/-- 202: WordMonoidsModel.holds(I)I -/
def m_Ref_holds : mv_M := (4, 1, [
  (0, .aload_n 0, 1, [], 0, 0), (1, .iload_n 1, 1, [], 0, 0), (2, .invokevirtual 151, 3, [149, 2, 2, 1, 12], 0, 1221), (5, .ifCond .ne 6, 3, [11], 0, 0),
  (8, .bipush (-2), 2, [], (-2), 0), (10, .ireturn, 1, [], 0, 0), (11, .aload_n 0, 1, [], 0, 0), (12, .iload_n 1, 1, [], 0, 0),
  (13, .invokevirtual 277, 3, [180, 2, 0, 1, 12], 0, 1386), (16, .iconst 0, 1, [], 0, 0), (17, .istore_n 2, 1, [], 0, 0), (18, .iconst 0, 1, [], 0, 0),
  (19, .istore_n 3, 1, [], 0, 0), (20, .iload_n 3, 1, [], 0, 0), (21, .bipush 12, 2, [], 12, 0), (23, .if_icmp .ge 35, 3, [58], 0, 0),
  (26, .aload_n 0, 1, [], 0, 0), (27, .iload_n 3, 1, [], 0, 0), (28, .invokevirtual 280, 3, [201, 2, 0, 1, 12], 0, 1390), (31, .iload_n 2, 1, [], 0, 0),
  (32, .aload_n 0, 1, [], 0, 0), (33, .getfield 271, 3, [12, 31, 0], 0, 1067), (36, .iconst (-1), 1, [], (-1), 0), (37, .if_icmp .ne 7, 3, [44], 0, 0),
  (40, .iconst 1, 1, [], 1, 0), (41, .goto 4, 3, [45], 0, 0), (44, .iconst 0, 1, [], 0, 0), (45, .invokestatic 179, 3, [148, 1, 1, 0], 0, 1269),
  (48, .iload_n 3, 1, [], 0, 0), (49, .ishl, 1, [], 0, 0), (50, .ior, 1, [], 0, 0), (51, .istore_n 2, 1, [], 0, 0),
  (52, .iinc 3 1, 3, [], 1, 0), (55, .goto (-35), 3, [20], 0, 0), (58, .iload_n 2, 1, [], 0, 0), (59, .ireturn, 1, [], 0, 0)])
/-- 203: WordMonoidsModel.wrong(III)I -/
def m_Ref_wrong : mv_M := (4, 1, [
  (0, .aload_n 0, 1, [], 0, 0), (1, .iload_n 1, 1, [], 0, 0), (2, .invokevirtual 151, 3, [149, 2, 2, 1, 12], 0, 1221), (5, .ifCond .eq 25, 3, [30], 0, 0),
  (8, .iload_n 2, 1, [], 0, 0), (9, .i2l, 1, [], 0, 0), (10, .lconst 0, 1, [], 0, 0), (11, .ldc2_w 283, 3, [], 0, 11),
  (14, .invokestatic 123, 3, [147, 3, 2, 0], 0, 1210), (17, .ifCond .eq 13, 3, [30], 0, 0), (20, .iload_n 3, 1, [], 0, 0), (21, .i2l, 1, [], 0, 0),
  (22, .lconst 0, 1, [], 0, 0), (23, .lconst 1, 1, [], 0, 1), (24, .invokestatic 123, 3, [147, 3, 2, 0], 0, 1210), (27, .ifCond .ne 6, 3, [33], 0, 0),
  (30, .bipush (-2), 2, [], (-2), 0), (32, .ireturn, 1, [], 0, 0), (33, .aload_n 0, 1, [], 0, 0), (34, .iload_n 1, 1, [], 0, 0),
  (35, .invokevirtual 277, 3, [180, 2, 0, 1, 12], 0, 1386), (38, .aload_n 0, 1, [], 0, 0), (39, .iload_n 2, 1, [], 0, 0), (40, .invokevirtual 280, 3, [201, 2, 0, 1, 12], 0, 1390),
  (43, .iload_n 3, 1, [], 0, 0), (44, .ifCond .ne 10, 3, [54], 0, 0), (47, .aload_n 0, 1, [], 0, 0), (48, .getfield 271, 3, [12, 31, 0], 0, 1067),
  (51, .goto 7, 3, [58], 0, 0), (54, .aload_n 0, 1, [], 0, 0), (55, .getfield 274, 3, [12, 32, 0], 0, 1068), (58, .ireturn, 1, [], 0, 0)])
/-- 204: WordMonoidsModel.known(IIII)I -/
def m_Ref_known : mv_M := (7, 1, [
  (0, .iload_n 2, 1, [], 0, 0), (1, .ifCond .ne 5, 3, [6], 0, 0), (4, .iconst 0, 1, [], 0, 0), (5, .ireturn, 1, [], 0, 0),
  (6, .iload_n 2, 1, [], 0, 0), (7, .iconst 1, 1, [], 1, 0), (8, .if_icmp .ne 9, 3, [17], 0, 0), (11, .iload_n 0, 1, [], 0, 0),
  (12, .iconst 1, 1, [], 1, 0), (13, .iload_n 3, 1, [], 0, 0), (14, .ishl, 1, [], 0, 0), (15, .ior, 1, [], 0, 0),
  (16, .ireturn, 1, [], 0, 0), (17, .iload_n 1, 1, [], 0, 0), (18, .ifCond .ne 55, 3, [73], 0, 0), (21, .iload_n 0, 1, [], 0, 0),
  (22, .iconst 3, 1, [], 3, 0), (23, .ishr, 1, [], 0, 0), (24, .istore 4, 2, [], 0, 0), (26, .iconst 0, 1, [], 0, 0),
  (27, .istore 5, 2, [], 0, 0), (29, .iload 5, 2, [], 0, 0), (31, .iconst 3, 1, [], 3, 0), (32, .if_icmp .ge 27, 3, [59], 0, 0),
  (35, .iload 4, 2, [], 0, 0), (37, .iload_n 0, 1, [], 0, 0), (38, .iload 5, 2, [], 0, 0), (40, .ishr, 1, [], 0, 0),
  (41, .iconst 1, 1, [], 1, 0), (42, .iand, 1, [], 0, 0), (43, .iconst 3, 1, [], 3, 0), (44, .iload 5, 2, [], 0, 0),
  (46, .imul, 1, [], 0, 0), (47, .iload_n 3, 1, [], 0, 0), (48, .iadd, 1, [], 0, 0), (49, .ishl, 1, [], 0, 0),
  (50, .ior, 1, [], 0, 0), (51, .istore 4, 2, [], 0, 0), (53, .iinc 5 1, 3, [], 1, 0), (56, .goto (-27), 3, [29], 0, 0),
  (59, .iload 4, 2, [], 0, 0), (61, .iconst 3, 1, [], 3, 0), (62, .ishl, 1, [], 0, 0), (63, .iload_n 0, 1, [], 0, 0),
  (64, .bipush 7, 2, [], 7, 0), (66, .iand, 1, [], 0, 0), (67, .ior, 1, [], 0, 0), (68, .iconst 1, 1, [], 1, 0),
  (69, .iload_n 3, 1, [], 0, 0), (70, .ishl, 1, [], 0, 0), (71, .ior, 1, [], 0, 0), (72, .ireturn, 1, [], 0, 0),
  (73, .iload_n 0, 1, [], 0, 0), (74, .iconst 3, 1, [], 3, 0), (75, .iand, 1, [], 0, 0), (76, .istore 4, 2, [], 0, 0),
  (78, .iload_n 0, 1, [], 0, 0), (79, .iconst 2, 1, [], 2, 0), (80, .ishr, 1, [], 0, 0), (81, .iconst 3, 1, [], 3, 0),
  (82, .iand, 1, [], 0, 0), (83, .istore 5, 2, [], 0, 0), (85, .iload_n 0, 1, [], 0, 0), (86, .iconst 4, 1, [], 4, 0),
  (87, .ishr, 1, [], 0, 0), (88, .iload 5, 2, [], 0, 0), (90, .ifCond .le 16, 3, [106], 0, 0), (93, .iconst 1, 1, [], 1, 0),
  (94, .iconst 3, 1, [], 3, 0), (95, .iload 5, 2, [], 0, 0), (97, .iconst 1, 1, [], 1, 0), (98, .isub, 1, [], 0, 0),
  (99, .imul, 1, [], 0, 0), (100, .iload_n 3, 1, [], 0, 0), (101, .iadd, 1, [], 0, 0), (102, .ishl, 1, [], 0, 0),
  (103, .goto 4, 3, [107], 0, 0), (106, .iconst 0, 1, [], 0, 0), (107, .ior, 1, [], 0, 0), (108, .istore 6, 2, [], 0, 0),
  (110, .iload 6, 2, [], 0, 0), (112, .iconst 4, 1, [], 4, 0), (113, .ishl, 1, [], 0, 0), (114, .iload_n 3, 1, [], 0, 0),
  (115, .iconst 1, 1, [], 1, 0), (116, .iadd, 1, [], 0, 0), (117, .iconst 2, 1, [], 2, 0), (118, .ishl, 1, [], 0, 0),
  (119, .ior, 1, [], 0, 0), (120, .iload 4, 2, [], 0, 0), (122, .ifCond .le 8, 3, [130], 0, 0), (125, .iload 4, 2, [], 0, 0),
  (127, .goto 6, 3, [133], 0, 0), (130, .iload_n 3, 1, [], 0, 0), (131, .iconst 1, 1, [], 1, 0), (132, .iadd, 1, [], 0, 0),
  (133, .ior, 1, [], 0, 0), (134, .ireturn, 1, [], 0, 0)])
/-- 205: WordMonoidsModel.findsKnown(III)V -/
def m_Ref_findsKnown : mv_M := (10, 0, [
  (0, .iconst 0, 1, [], 0, 0), (1, .istore 4, 2, [], 0, 0), (3, .iload 4, 2, [], 0, 0), (5, .sipush 8192, 3, [], 8192, 0),
  (8, .if_icmp .ge 25, 3, [33], 0, 0), (11, .aload_n 0, 1, [], 0, 0), (12, .getfield 80, 3, [12, 35, 2], 0, 1071), (15, .iload 4, 2, [], 0, 0),
  (17, .iconst 0, 1, [], 0, 0), (18, .bastore, 1, [22], 0, 0), (19, .aload_n 0, 1, [], 0, 0), (20, .getfield 83, 3, [12, 36, 2], 0, 1072),
  (23, .iload 4, 2, [], 0, 0), (25, .iconst 0, 1, [], 0, 0), (26, .bastore, 1, [22], 0, 0), (27, .iinc 4 1, 3, [], 1, 0),
  (30, .goto (-27), 3, [3], 0, 0), (33, .iconst 0, 1, [], 0, 0), (34, .istore 4, 2, [], 0, 0), (36, .iload 4, 2, [], 0, 0),
  (38, .ldc 73, 2, [], 32768, 0), (40, .if_icmp .ge 17, 3, [57], 0, 0), (43, .aload_n 0, 1, [], 0, 0), (44, .getfield 74, 3, [12, 33, 2], 0, 1069),
  (47, .iload 4, 2, [], 0, 0), (49, .iconst 0, 1, [], 0, 0), (50, .bastore, 1, [22], 0, 0), (51, .iinc 4 1, 3, [], 1, 0),
  (54, .goto (-18), 3, [36], 0, 0), (57, .aload_n 0, 1, [], 0, 0), (58, .getfield 77, 3, [12, 34, 2], 0, 1070), (61, .iconst 0, 1, [], 0, 0),
  (62, .aload_n 0, 1, [], 0, 0), (63, .iload_n 1, 1, [], 0, 0), (64, .invokevirtual 138, 3, [154, 2, 1, 1, 12], 0, 1249), (67, .iastore, 1, [], 0, 0),
  (68, .aload_n 0, 1, [], 0, 0), (69, .getfield 74, 3, [12, 33, 2], 0, 1069), (72, .aload_n 0, 1, [], 0, 0), (73, .getfield 77, 3, [12, 34, 2], 0, 1070),
  (76, .iconst 0, 1, [], 0, 0), (77, .iaload, 1, [], 0, 0), (78, .iconst 1, 1, [], 1, 0), (79, .bastore, 1, [22], 0, 0),
  (80, .iconst 1, 1, [], 1, 0), (81, .istore 4, 2, [], 0, 0), (83, .iconst 0, 1, [], 0, 0), (84, .istore 5, 2, [], 0, 0),
  (86, .iload 5, 2, [], 0, 0), (88, .iload 4, 2, [], 0, 0), (90, .if_icmp .ge 163, 3, [253], 0, 0), (93, .aload_n 0, 1, [], 0, 0),
  (94, .getfield 77, 3, [12, 34, 2], 0, 1070), (97, .iload 5, 2, [], 0, 0), (99, .iaload, 1, [], 0, 0), (100, .iconst 4, 1, [], 4, 0),
  (101, .idiv, 1, [], 0, 0), (102, .istore 6, 2, [], 0, 0), (104, .aload_n 0, 1, [], 0, 0), (105, .getfield 77, 3, [12, 34, 2], 0, 1070),
  (108, .iload 5, 2, [], 0, 0), (110, .iaload, 1, [], 0, 0), (111, .iconst 4, 1, [], 4, 0), (112, .irem, 1, [], 0, 0),
  (113, .istore 7, 2, [], 0, 0), (115, .aload_n 0, 1, [], 0, 0), (116, .getfield 80, 3, [12, 35, 2], 0, 1071), (119, .iload 6, 2, [], 0, 0),
  (121, .aload_n 0, 1, [], 0, 0), (122, .getfield 80, 3, [12, 35, 2], 0, 1071), (125, .iload 6, 2, [], 0, 0), (127, .baload, 1, [22], 0, 0),
  (128, .ifCond .ne 13, 3, [141], 0, 0), (131, .aload_n 0, 1, [], 0, 0), (132, .iload_n 1, 1, [], 0, 0), (133, .iload 7, 2, [], 0, 0),
  (135, .invokevirtual 145, 3, [155, 3, 2, 1, 12], 0, 1265), (138, .ifCond .eq 7, 3, [145], 0, 0), (141, .iconst 1, 1, [], 1, 0), (142, .goto 4, 3, [146], 0, 0),
  (145, .iconst 0, 1, [], 0, 0), (146, .bastore, 1, [22], 0, 0), (147, .aload_n 0, 1, [], 0, 0), (148, .getfield 83, 3, [12, 36, 2], 0, 1072),
  (151, .iload 6, 2, [], 0, 0), (153, .aload_n 0, 1, [], 0, 0), (154, .getfield 83, 3, [12, 36, 2], 0, 1072), (157, .iload 6, 2, [], 0, 0),
  (159, .baload, 1, [22], 0, 0), (160, .ifCond .ne 13, 3, [173], 0, 0), (163, .aload_n 0, 1, [], 0, 0), (164, .iload_n 1, 1, [], 0, 0),
  (165, .iload 7, 2, [], 0, 0), (167, .invokevirtual 145, 3, [155, 3, 2, 1, 12], 0, 1265), (170, .ifCond .ne 7, 3, [177], 0, 0), (173, .iconst 1, 1, [], 1, 0),
  (174, .goto 4, 3, [178], 0, 0), (177, .iconst 0, 1, [], 0, 0), (178, .bastore, 1, [22], 0, 0), (179, .iconst 0, 1, [], 0, 0),
  (180, .istore 8, 2, [], 0, 0), (182, .iload 8, 2, [], 0, 0), (184, .iconst 3, 1, [], 3, 0), (185, .if_icmp .ge 62, 3, [247], 0, 0),
  (188, .iconst 4, 1, [], 4, 0), (189, .iload 6, 2, [], 0, 0), (191, .iload_n 2, 1, [], 0, 0), (192, .iload_n 3, 1, [], 0, 0),
  (193, .iload 8, 2, [], 0, 0), (195, .invokestatic 285, 3, [204, 4, 1, 0], 0, 1430), (198, .imul, 1, [], 0, 0), (199, .aload_n 0, 1, [], 0, 0),
  (200, .iload_n 1, 1, [], 0, 0), (201, .iload 7, 2, [], 0, 0), (203, .iload 8, 2, [], 0, 0), (205, .invokevirtual 141, 3, [153, 4, 1, 1, 12], 0, 1237),
  (208, .iadd, 1, [], 0, 0), (209, .istore 9, 2, [], 0, 0), (211, .aload_n 0, 1, [], 0, 0), (212, .getfield 74, 3, [12, 33, 2], 0, 1069),
  (215, .iload 9, 2, [], 0, 0), (217, .baload, 1, [22], 0, 0), (218, .ifCond .ne 23, 3, [241], 0, 0), (221, .aload_n 0, 1, [], 0, 0),
  (222, .getfield 74, 3, [12, 33, 2], 0, 1069), (225, .iload 9, 2, [], 0, 0), (227, .iconst 1, 1, [], 1, 0), (228, .bastore, 1, [22], 0, 0),
  (229, .aload_n 0, 1, [], 0, 0), (230, .getfield 77, 3, [12, 34, 2], 0, 1070), (233, .iload 4, 2, [], 0, 0), (235, .iload 9, 2, [], 0, 0),
  (237, .iastore, 1, [], 0, 0), (238, .iinc 4 1, 3, [], 1, 0), (241, .iinc 8 1, 3, [], 1, 0), (244, .goto (-62), 3, [182], 0, 0),
  (247, .iinc 5 1, 3, [], 1, 0), (250, .goto (-164), 3, [86], 0, 0), (253, .return_, 1, [], 0, 0)])
/-- 206: WordMonoidsModel.level(II)I -/
def m_Ref_level : mv_M := (6, 1, [
  (0, .aload_n 0, 1, [], 0, 0), (1, .iload_n 1, 1, [], 0, 0), (2, .invokevirtual 151, 3, [149, 2, 2, 1, 12], 0, 1221), (5, .ifCond .eq 13, 3, [18], 0, 0),
  (8, .iload_n 2, 1, [], 0, 0), (9, .i2l, 1, [], 0, 0), (10, .lconst 0, 1, [], 0, 0), (11, .lconst 1, 1, [], 0, 1),
  (12, .invokestatic 123, 3, [147, 3, 2, 0], 0, 1210), (15, .ifCond .ne 6, 3, [21], 0, 0), (18, .bipush (-2), 2, [], (-2), 0), (20, .ireturn, 1, [], 0, 0),
  (21, .iconst 0, 1, [], 0, 0), (22, .istore_n 3, 1, [], 0, 0), (23, .iload_n 3, 1, [], 0, 0), (24, .iconst 3, 1, [], 3, 0),
  (25, .if_icmp .ge 75, 3, [100], 0, 0), (28, .aload_n 0, 1, [], 0, 0), (29, .iload_n 1, 1, [], 0, 0), (30, .iload_n 2, 1, [], 0, 0),
  (31, .iload_n 3, 1, [], 0, 0), (32, .invokevirtual 289, 3, [205, 4, 0, 1, 12], 0, 1426), (35, .iconst 1, 1, [], 1, 0), (36, .istore 4, 2, [], 0, 0),
  (38, .iconst 0, 1, [], 0, 0), (39, .istore 5, 2, [], 0, 0), (41, .iload 5, 2, [], 0, 0), (43, .sipush 8192, 3, [], 8192, 0),
  (46, .if_icmp .ge 41, 3, [87], 0, 0), (49, .iload 4, 2, [], 0, 0), (51, .ifCond .eq 27, 3, [78], 0, 0), (54, .aload_n 0, 1, [], 0, 0),
  (55, .getfield 80, 3, [12, 35, 2], 0, 1071), (58, .iload 5, 2, [], 0, 0), (60, .baload, 1, [22], 0, 0), (61, .ifCond .eq 13, 3, [74], 0, 0),
  (64, .aload_n 0, 1, [], 0, 0), (65, .getfield 83, 3, [12, 36, 2], 0, 1072), (68, .iload 5, 2, [], 0, 0), (70, .baload, 1, [22], 0, 0),
  (71, .ifCond .ne 7, 3, [78], 0, 0), (74, .iconst 1, 1, [], 1, 0), (75, .goto 4, 3, [79], 0, 0), (78, .iconst 0, 1, [], 0, 0),
  (79, .istore 4, 2, [], 0, 0), (81, .iinc 5 1, 3, [], 1, 0), (84, .goto (-43), 3, [41], 0, 0), (87, .iload 4, 2, [], 0, 0),
  (89, .ifCond .eq 5, 3, [94], 0, 0), (92, .iload_n 3, 1, [], 0, 0), (93, .ireturn, 1, [], 0, 0), (94, .iinc 3 1, 3, [], 1, 0),
  (97, .goto (-74), 3, [23], 0, 0), (100, .iconst (-1), 1, [], (-1), 0), (101, .ireturn, 1, [], 0, 0)])
/-- 207: WordMonoidsModel.separates(III)I -/
def m_Ref_separates : mv_M := (7, 1, [
  (0, .aload_n 0, 1, [], 0, 0), (1, .iload_n 1, 1, [], 0, 0), (2, .invokevirtual 151, 3, [149, 2, 2, 1, 12], 0, 1221), (5, .ifCond .eq 21, 3, [26], 0, 0),
  (8, .aload_n 0, 1, [], 0, 0), (9, .iload_n 2, 1, [], 0, 0), (10, .invokevirtual 151, 3, [149, 2, 2, 1, 12], 0, 1221), (13, .ifCond .eq 13, 3, [26], 0, 0),
  (16, .iload_n 3, 1, [], 0, 0), (17, .i2l, 1, [], 0, 0), (18, .lconst 0, 1, [], 0, 0), (19, .lconst 1, 1, [], 0, 1),
  (20, .invokestatic 123, 3, [147, 3, 2, 0], 0, 1210), (23, .ifCond .ne 6, 3, [29], 0, 0), (26, .bipush (-2), 2, [], (-2), 0), (28, .ireturn, 1, [], 0, 0),
  (29, .iconst 0, 1, [], 0, 0), (30, .istore 4, 2, [], 0, 0), (32, .iload 4, 2, [], 0, 0), (34, .iconst 3, 1, [], 3, 0),
  (35, .if_icmp .ge 101, 3, [136], 0, 0), (38, .aload_n 0, 1, [], 0, 0), (39, .iload_n 2, 1, [], 0, 0), (40, .iload_n 3, 1, [], 0, 0),
  (41, .iload 4, 2, [], 0, 0), (43, .invokevirtual 289, 3, [205, 4, 0, 1, 12], 0, 1426), (46, .aload_n 0, 1, [], 0, 0), (47, .getfield 80, 3, [12, 35, 2], 0, 1071),
  (50, .iconst 0, 1, [], 0, 0), (51, .aload_n 0, 1, [], 0, 0), (52, .getfield 86, 3, [12, 37, 2], 0, 1073), (55, .iconst 0, 1, [], 0, 0),
  (56, .sipush 8192, 3, [], 8192, 0), (59, .invokestatic 292, 3, [0, 0, 0, 3, 22], 0, 1437), (62, .aload_n 0, 1, [], 0, 0), (63, .iload_n 1, 1, [], 0, 0),
  (64, .iload_n 3, 1, [], 0, 0), (65, .iload 4, 2, [], 0, 0), (67, .invokevirtual 289, 3, [205, 4, 0, 1, 12], 0, 1426), (70, .iconst 1, 1, [], 1, 0),
  (71, .istore 5, 2, [], 0, 0), (73, .iconst 0, 1, [], 0, 0), (74, .istore 6, 2, [], 0, 0), (76, .iload 6, 2, [], 0, 0),
  (78, .sipush 8192, 3, [], 8192, 0), (81, .if_icmp .ge 41, 3, [122], 0, 0), (84, .iload 5, 2, [], 0, 0), (86, .ifCond .eq 27, 3, [113], 0, 0),
  (89, .aload_n 0, 1, [], 0, 0), (90, .getfield 80, 3, [12, 35, 2], 0, 1071), (93, .iload 6, 2, [], 0, 0), (95, .baload, 1, [22], 0, 0),
  (96, .ifCond .eq 13, 3, [109], 0, 0), (99, .aload_n 0, 1, [], 0, 0), (100, .getfield 86, 3, [12, 37, 2], 0, 1073), (103, .iload 6, 2, [], 0, 0),
  (105, .baload, 1, [22], 0, 0), (106, .ifCond .ne 7, 3, [113], 0, 0), (109, .iconst 1, 1, [], 1, 0), (110, .goto 4, 3, [114], 0, 0),
  (113, .iconst 0, 1, [], 0, 0), (114, .istore 5, 2, [], 0, 0), (116, .iinc 6 1, 3, [], 1, 0), (119, .goto (-43), 3, [76], 0, 0),
  (122, .iload 5, 2, [], 0, 0), (124, .ifCond .eq 6, 3, [130], 0, 0), (127, .iload 4, 2, [], 0, 0), (129, .ireturn, 1, [], 0, 0),
  (130, .iinc 4 1, 3, [], 1, 0), (133, .goto (-101), 3, [32], 0, 0), (136, .iconst (-1), 1, [], (-1), 0), (137, .ireturn, 1, [], 0, 0)])
/-- 208: WordMonoidsModel.least(III)J -/
def m_Ref_least : mv_M := (12, 3, [
  (0, .aload_n 0, 1, [], 0, 0), (1, .iload_n 1, 1, [], 0, 0), (2, .invokevirtual 151, 3, [149, 2, 2, 1, 12], 0, 1221), (5, .ifCond .eq 23, 3, [28], 0, 0),
  (8, .aload_n 0, 1, [], 0, 0), (9, .iload_n 2, 1, [], 0, 0), (10, .invokevirtual 151, 3, [149, 2, 2, 1, 12], 0, 1221), (13, .ifCond .eq 15, 3, [28], 0, 0),
  (16, .iload_n 3, 1, [], 0, 0), (17, .i2l, 1, [], 0, 0), (18, .lconst 0, 1, [], 0, 0), (19, .ldc2_w 131, 3, [], 0, 2),
  (22, .invokestatic 123, 3, [147, 3, 2, 0], 0, 1210), (25, .ifCond .ne 7, 3, [32], 0, 0), (28, .ldc2_w 298, 3, [], 0, (-2)), (31, .lreturn, 1, [], 0, 0),
  (32, .iconst 0, 1, [], 0, 0), (33, .istore 4, 2, [], 0, 0), (35, .iload 4, 2, [], 0, 0), (37, .bipush 16, 2, [], 16, 0),
  (39, .if_icmp .ge 19, 3, [58], 0, 0), (42, .aload_n 0, 1, [], 0, 0), (43, .getfield 89, 3, [12, 38, 2], 0, 1074), (46, .iload 4, 2, [], 0, 0),
  (48, .ldc2_w 300, 3, [], 0, (-1)), (51, .lastore, 1, [], 0, 0), (52, .iinc 4 1, 3, [], 1, 0), (55, .goto (-20), 3, [35], 0, 0),
  (58, .aload_n 0, 1, [], 0, 0), (59, .getfield 77, 3, [12, 34, 2], 0, 1070), (62, .iconst 0, 1, [], 0, 0), (63, .iconst 4, 1, [], 4, 0),
  (64, .aload_n 0, 1, [], 0, 0), (65, .iload_n 1, 1, [], 0, 0), (66, .invokevirtual 138, 3, [154, 2, 1, 1, 12], 0, 1249), (69, .imul, 1, [], 0, 0),
  (70, .aload_n 0, 1, [], 0, 0), (71, .iload_n 2, 1, [], 0, 0), (72, .invokevirtual 138, 3, [154, 2, 1, 1, 12], 0, 1249), (75, .iadd, 1, [], 0, 0),
  (76, .iastore, 1, [], 0, 0), (77, .aload_n 0, 1, [], 0, 0), (78, .getfield 89, 3, [12, 38, 2], 0, 1074), (81, .aload_n 0, 1, [], 0, 0),
  (82, .getfield 77, 3, [12, 34, 2], 0, 1070), (85, .iconst 0, 1, [], 0, 0), (86, .iaload, 1, [], 0, 0), (87, .lconst 0, 1, [], 0, 0),
  (88, .lastore, 1, [], 0, 0), (89, .iconst 1, 1, [], 1, 0), (90, .istore 4, 2, [], 0, 0), (92, .iconst 0, 1, [], 0, 0),
  (93, .istore 5, 2, [], 0, 0), (95, .iload 5, 2, [], 0, 0), (97, .iload 4, 2, [], 0, 0), (99, .if_icmp .ge 197, 3, [296], 0, 0),
  (102, .aload_n 0, 1, [], 0, 0), (103, .getfield 77, 3, [12, 34, 2], 0, 1070), (106, .iload 5, 2, [], 0, 0), (108, .iaload, 1, [], 0, 0),
  (109, .iconst 4, 1, [], 4, 0), (110, .idiv, 1, [], 0, 0), (111, .istore 6, 2, [], 0, 0), (113, .aload_n 0, 1, [], 0, 0),
  (114, .getfield 77, 3, [12, 34, 2], 0, 1070), (117, .iload 5, 2, [], 0, 0), (119, .iaload, 1, [], 0, 0), (120, .iconst 4, 1, [], 4, 0),
  (121, .irem, 1, [], 0, 0), (122, .istore 7, 2, [], 0, 0), (124, .aload_n 0, 1, [], 0, 0), (125, .iload_n 1, 1, [], 0, 0),
  (126, .iload 6, 2, [], 0, 0), (128, .invokevirtual 145, 3, [155, 3, 2, 1, 12], 0, 1265), (131, .istore 8, 2, [], 0, 0), (133, .aload_n 0, 1, [], 0, 0),
  (134, .iload_n 2, 1, [], 0, 0), (135, .iload 7, 2, [], 0, 0), (137, .invokevirtual 145, 3, [155, 3, 2, 1, 12], 0, 1265), (140, .istore 9, 2, [], 0, 0),
  (142, .iload_n 3, 1, [], 0, 0), (143, .ifCond .ne 16, 3, [159], 0, 0), (146, .iload 8, 2, [], 0, 0), (148, .ifCond .eq 49, 3, [197], 0, 0),
  (151, .iload 9, 2, [], 0, 0), (153, .ifCond .eq 44, 3, [197], 0, 0), (156, .goto 28, 3, [184], 0, 0), (159, .iload_n 3, 1, [], 0, 0),
  (160, .iconst 1, 1, [], 1, 0), (161, .if_icmp .ne 13, 3, [174], 0, 0), (164, .iload 8, 2, [], 0, 0), (166, .iload 9, 2, [], 0, 0),
  (168, .if_icmp .eq 29, 3, [197], 0, 0), (171, .goto 13, 3, [184], 0, 0), (174, .iload 8, 2, [], 0, 0), (176, .ifCond .eq 21, 3, [197], 0, 0),
  (179, .iload 9, 2, [], 0, 0), (181, .ifCond .ne 16, 3, [197], 0, 0), (184, .aload_n 0, 1, [], 0, 0), (185, .getfield 89, 3, [12, 38, 2], 0, 1074),
  (188, .aload_n 0, 1, [], 0, 0), (189, .getfield 77, 3, [12, 34, 2], 0, 1070), (192, .iload 5, 2, [], 0, 0), (194, .iaload, 1, [], 0, 0),
  (195, .laload, 1, [], 0, 0), (196, .lreturn, 1, [], 0, 0), (197, .iconst 0, 1, [], 0, 0), (198, .istore 10, 2, [], 0, 0),
  (200, .iload 10, 2, [], 0, 0), (202, .iconst 3, 1, [], 3, 0), (203, .if_icmp .ge 87, 3, [290], 0, 0), (206, .iconst 4, 1, [], 4, 0),
  (207, .aload_n 0, 1, [], 0, 0), (208, .iload_n 1, 1, [], 0, 0), (209, .iload 6, 2, [], 0, 0), (211, .iload 10, 2, [], 0, 0),
  (213, .invokevirtual 141, 3, [153, 4, 1, 1, 12], 0, 1237), (216, .imul, 1, [], 0, 0), (217, .aload_n 0, 1, [], 0, 0), (218, .iload_n 2, 1, [], 0, 0),
  (219, .iload 7, 2, [], 0, 0), (221, .iload 10, 2, [], 0, 0), (223, .invokevirtual 141, 3, [153, 4, 1, 1, 12], 0, 1237), (226, .iadd, 1, [], 0, 0),
  (227, .istore 11, 2, [], 0, 0), (229, .aload_n 0, 1, [], 0, 0), (230, .getfield 89, 3, [12, 38, 2], 0, 1074), (233, .iload 11, 2, [], 0, 0),
  (235, .laload, 1, [], 0, 0), (236, .ldc2_w 300, 3, [], 0, (-1)), (239, .lcmp, 1, [], 0, 0), (240, .ifCond .ne 44, 3, [284], 0, 0),
  (243, .aload_n 0, 1, [], 0, 0), (244, .getfield 89, 3, [12, 38, 2], 0, 1074), (247, .iload 11, 2, [], 0, 0), (249, .ldc2_w 171, 3, [], 0, 10),
  (252, .aload_n 0, 1, [], 0, 0), (253, .getfield 89, 3, [12, 38, 2], 0, 1074), (256, .aload_n 0, 1, [], 0, 0), (257, .getfield 77, 3, [12, 34, 2], 0, 1070),
  (260, .iload 5, 2, [], 0, 0), (262, .iaload, 1, [], 0, 0), (263, .laload, 1, [], 0, 0), (264, .lmul, 1, [], 0, 0),
  (265, .iload 10, 2, [], 0, 0), (267, .i2l, 1, [], 0, 0), (268, .ladd, 1, [], 0, 0), (269, .lconst 1, 1, [], 0, 1),
  (270, .ladd, 1, [], 0, 0), (271, .lastore, 1, [], 0, 0), (272, .aload_n 0, 1, [], 0, 0), (273, .getfield 77, 3, [12, 34, 2], 0, 1070),
  (276, .iload 4, 2, [], 0, 0), (278, .iload 11, 2, [], 0, 0), (280, .iastore, 1, [], 0, 0), (281, .iinc 4 1, 3, [], 1, 0),
  (284, .iinc 10 1, 3, [], 1, 0), (287, .goto (-87), 3, [200], 0, 0), (290, .iinc 5 1, 3, [], 1, 0), (293, .goto (-198), 3, [95], 0, 0),
  (296, .ldc2_w 300, 3, [], 0, (-1)), (299, .lreturn, 1, [], 0, 0)])
/-- 209: WordMonoidsModel.next()I -/
def m_Ref_next : mv_M := (1, 1, [
  (0, .aload_n 0, 1, [], 0, 0), (1, .getfield 302, 3, [12, 46, 0], 0, 1081), (4, .aload_n 0, 1, [], 0, 0), (5, .getfield 305, 3, [12, 45, 0], 0, 1080),
  (8, .if_icmp .ge 15, 3, [23], 0, 0), (11, .aload_n 0, 1, [], 0, 0), (12, .getfield 108, 3, [12, 52, 2], 0, 1087), (15, .aload_n 0, 1, [], 0, 0),
  (16, .getfield 302, 3, [12, 46, 0], 0, 1081), (19, .iaload, 1, [], 0, 0), (20, .goto 4, 3, [24], 0, 0), (23, .iconst (-1), 1, [], (-1), 0),
  (24, .ireturn, 1, [], 0, 0)])
/-- 210: WordMonoidsModel.faulty(I)V -/
def m_Ref_faulty : mv_M := (3, 0, [
  (0, .aload_n 0, 1, [], 0, 0), (1, .getfield 308, 3, [12, 47, 0], 0, 1082), (4, .ifCond .lt 4, 3, [8], 0, 0), (7, .return_, 1, [], 0, 0),
  (8, .aload_n 0, 1, [], 0, 0), (9, .iload_n 1, 1, [], 0, 0), (10, .putfield 308, 3, [12, 47, 0], 0, 1082), (13, .aload_n 0, 1, [], 0, 0),
  (14, .getfield 105, 3, [12, 50, 2], 0, 1085), (17, .iconst 0, 1, [], 0, 0), (18, .iconst 0, 1, [], 0, 0), (19, .iastore, 1, [], 0, 0),
  (20, .iconst 0, 1, [], 0, 0), (21, .istore_n 2, 1, [], 0, 0), (22, .iload_n 2, 1, [], 0, 0), (23, .aload_n 0, 1, [], 0, 0),
  (24, .getfield 311, 3, [12, 49, 0], 0, 1084), (27, .if_icmp .ge 23, 3, [50], 0, 0), (30, .aload_n 0, 1, [], 0, 0), (31, .getfield 105, 3, [12, 50, 2], 0, 1085),
  (34, .iload_n 2, 1, [], 0, 0), (35, .iconst 1, 1, [], 1, 0), (36, .iadd, 1, [], 0, 0), (37, .aload_n 0, 1, [], 0, 0),
  (38, .getfield 102, 3, [12, 48, 2], 0, 1083), (41, .iload_n 2, 1, [], 0, 0), (42, .iaload, 1, [], 0, 0), (43, .iastore, 1, [], 0, 0),
  (44, .iinc 2 1, 3, [], 1, 0), (47, .goto (-25), 3, [22], 0, 0), (50, .aload_n 0, 1, [], 0, 0), (51, .getfield 105, 3, [12, 50, 2], 0, 1085),
  (54, .aload_n 0, 1, [], 0, 0), (55, .getfield 311, 3, [12, 49, 0], 0, 1084), (58, .iconst 1, 1, [], 1, 0), (59, .iadd, 1, [], 0, 0),
  (60, .iload_n 1, 1, [], 0, 0), (61, .iastore, 1, [], 0, 0), (62, .aload_n 0, 1, [], 0, 0), (63, .aload_n 0, 1, [], 0, 0),
  (64, .getfield 311, 3, [12, 49, 0], 0, 1084), (67, .iconst 2, 1, [], 2, 0), (68, .iadd, 1, [], 0, 0), (69, .putfield 314, 3, [12, 51, 0], 0, 1086),
  (72, .return_, 1, [], 0, 0)])
/-- 211: WordMonoidsModel.either()Z -/
def m_Ref_either : mv_M := (3, 2, [
  (0, .aload_n 0, 1, [], 0, 0), (1, .invokevirtual 317, 3, [212, 1, 2, 1, 12], 0, 1456), (4, .istore_n 1, 1, [], 0, 0), (5, .aload_n 0, 1, [], 0, 0),
  (6, .getfield 308, 3, [12, 47, 0], 0, 1082), (9, .ifCond .ge 44, 3, [53], 0, 0), (12, .aload_n 0, 1, [], 0, 0), (13, .invokevirtual 321, 3, [209, 1, 1, 1, 12], 0, 1464),
  (16, .bipush 124, 2, [], 124, 0), (18, .if_icmp .ne 35, 3, [53], 0, 0), (21, .aload_n 0, 1, [], 0, 0), (22, .dup, 1, [], 0, 0),
  (23, .getfield 302, 3, [12, 46, 0], 0, 1081), (26, .iconst 1, 1, [], 1, 0), (27, .iadd, 1, [], 0, 0), (28, .putfield 302, 3, [12, 46, 0], 0, 1081),
  (31, .aload_n 0, 1, [], 0, 0), (32, .invokevirtual 317, 3, [212, 1, 2, 1, 12], 0, 1456), (35, .istore_n 2, 1, [], 0, 0), (36, .iload_n 1, 1, [], 0, 0),
  (37, .ifCond .ne 7, 3, [44], 0, 0), (40, .iload_n 2, 1, [], 0, 0), (41, .ifCond .eq 7, 3, [48], 0, 0), (44, .iconst 1, 1, [], 1, 0),
  (45, .goto 4, 3, [49], 0, 0), (48, .iconst 0, 1, [], 0, 0), (49, .istore_n 1, 1, [], 0, 0), (50, .goto (-45), 3, [5], 0, 0),
  (53, .iload_n 1, 1, [], 0, 0), (54, .ireturn, 1, [], 0, 0)])
/-- 212: WordMonoidsModel.both()Z -/
def m_Ref_both : mv_M := (3, 2, [
  (0, .aload_n 0, 1, [], 0, 0), (1, .invokevirtual 325, 3, [214, 1, 2, 1, 12], 0, 1460), (4, .istore_n 1, 1, [], 0, 0), (5, .aload_n 0, 1, [], 0, 0),
  (6, .getfield 308, 3, [12, 47, 0], 0, 1082), (9, .ifCond .ge 44, 3, [53], 0, 0), (12, .aload_n 0, 1, [], 0, 0), (13, .invokevirtual 321, 3, [209, 1, 1, 1, 12], 0, 1464),
  (16, .bipush 38, 2, [], 38, 0), (18, .if_icmp .ne 35, 3, [53], 0, 0), (21, .aload_n 0, 1, [], 0, 0), (22, .dup, 1, [], 0, 0),
  (23, .getfield 302, 3, [12, 46, 0], 0, 1081), (26, .iconst 1, 1, [], 1, 0), (27, .iadd, 1, [], 0, 0), (28, .putfield 302, 3, [12, 46, 0], 0, 1081),
  (31, .aload_n 0, 1, [], 0, 0), (32, .invokevirtual 325, 3, [214, 1, 2, 1, 12], 0, 1460), (35, .istore_n 2, 1, [], 0, 0), (36, .iload_n 1, 1, [], 0, 0),
  (37, .ifCond .eq 11, 3, [48], 0, 0), (40, .iload_n 2, 1, [], 0, 0), (41, .ifCond .eq 7, 3, [48], 0, 0), (44, .iconst 1, 1, [], 1, 0),
  (45, .goto 4, 3, [49], 0, 0), (48, .iconst 0, 1, [], 0, 0), (49, .istore_n 1, 1, [], 0, 0), (50, .goto (-45), 3, [5], 0, 0),
  (53, .iload_n 1, 1, [], 0, 0), (54, .ireturn, 1, [], 0, 0)])
/-- 213: WordMonoidsModel.opens()Z -/
def m_Ref_opens : mv_M := (1, 2, [
  (0, .aload_n 0, 1, [], 0, 0), (1, .getfield 311, 3, [12, 49, 0], 0, 1084), (4, .bipush 6, 2, [], 6, 0), (6, .if_icmp .ne 13, 3, [19], 0, 0),
  (9, .aload_n 0, 1, [], 0, 0), (10, .aload_n 0, 1, [], 0, 0), (11, .getfield 302, 3, [12, 46, 0], 0, 1081), (14, .invokevirtual 328, 3, [210, 2, 0, 1, 12], 0, 1474),
  (17, .iconst 0, 1, [], 0, 0), (18, .ireturn, 1, [], 0, 0), (19, .aload_n 0, 1, [], 0, 0), (20, .getfield 102, 3, [12, 48, 2], 0, 1083),
  (23, .aload_n 0, 1, [], 0, 0), (24, .getfield 311, 3, [12, 49, 0], 0, 1084), (27, .aload_n 0, 1, [], 0, 0), (28, .getfield 302, 3, [12, 46, 0], 0, 1081),
  (31, .iastore, 1, [], 0, 0), (32, .aload_n 0, 1, [], 0, 0), (33, .dup, 1, [], 0, 0), (34, .getfield 311, 3, [12, 49, 0], 0, 1084),
  (37, .iconst 1, 1, [], 1, 0), (38, .iadd, 1, [], 0, 0), (39, .putfield 311, 3, [12, 49, 0], 0, 1084), (42, .aload_n 0, 1, [], 0, 0),
  (43, .dup, 1, [], 0, 0), (44, .getfield 302, 3, [12, 46, 0], 0, 1081), (47, .iconst 1, 1, [], 1, 0), (48, .iadd, 1, [], 0, 0),
  (49, .putfield 302, 3, [12, 46, 0], 0, 1081), (52, .iconst 1, 1, [], 1, 0), (53, .ireturn, 1, [], 0, 0)])
/-- 214: WordMonoidsModel.one()Z -/
def m_Ref_one : mv_M := (3, 2, [
  (0, .aload_n 0, 1, [], 0, 0), (1, .invokevirtual 321, 3, [209, 1, 1, 1, 12], 0, 1464), (4, .istore_n 1, 1, [], 0, 0), (5, .iload_n 1, 1, [], 0, 0),
  (6, .bipush 33, 2, [], 33, 0), (8, .if_icmp .eq 15, 3, [23], 0, 0), (11, .iload_n 1, 1, [], 0, 0), (12, .bipush 40, 2, [], 40, 0),
  (14, .if_icmp .eq 9, 3, [23], 0, 0), (17, .aload_n 0, 1, [], 0, 0), (18, .iload_n 1, 1, [], 0, 0), (19, .invokevirtual 331, 3, [215, 2, 2, 1, 12], 0, 1468),
  (22, .ireturn, 1, [], 0, 0), (23, .aload_n 0, 1, [], 0, 0), (24, .invokevirtual 334, 3, [213, 1, 2, 1, 12], 0, 1488), (27, .ifCond .ne 5, 3, [32], 0, 0),
  (30, .iconst 0, 1, [], 0, 0), (31, .ireturn, 1, [], 0, 0), (32, .iload_n 1, 1, [], 0, 0), (33, .bipush 33, 2, [], 33, 0),
  (35, .if_icmp .ne 18, 3, [53], 0, 0), (38, .aload_n 0, 1, [], 0, 0), (39, .invokevirtual 325, 3, [214, 1, 2, 1, 12], 0, 1460), (42, .ifCond .ne 7, 3, [49], 0, 0),
  (45, .iconst 1, 1, [], 1, 0), (46, .goto 11, 3, [57], 0, 0), (49, .iconst 0, 1, [], 0, 0), (50, .goto 7, 3, [57], 0, 0),
  (53, .aload_n 0, 1, [], 0, 0), (54, .invokevirtual 337, 3, [211, 1, 2, 1, 12], 0, 1452), (57, .istore_n 2, 1, [], 0, 0), (58, .aload_n 0, 1, [], 0, 0),
  (59, .getfield 308, 3, [12, 47, 0], 0, 1082), (62, .ifCond .ge 39, 3, [101], 0, 0), (65, .iload_n 1, 1, [], 0, 0), (66, .bipush 40, 2, [], 40, 0),
  (68, .if_icmp .ne 33, 3, [101], 0, 0), (71, .aload_n 0, 1, [], 0, 0), (72, .invokevirtual 321, 3, [209, 1, 1, 1, 12], 0, 1464), (75, .bipush 41, 2, [], 41, 0),
  (77, .if_icmp .ne 16, 3, [93], 0, 0), (80, .aload_n 0, 1, [], 0, 0), (81, .dup, 1, [], 0, 0), (82, .getfield 302, 3, [12, 46, 0], 0, 1081),
  (85, .iconst 1, 1, [], 1, 0), (86, .iadd, 1, [], 0, 0), (87, .putfield 302, 3, [12, 46, 0], 0, 1081), (90, .goto 11, 3, [101], 0, 0),
  (93, .aload_n 0, 1, [], 0, 0), (94, .aload_n 0, 1, [], 0, 0), (95, .getfield 302, 3, [12, 46, 0], 0, 1081), (98, .invokevirtual 328, 3, [210, 2, 0, 1, 12], 0, 1474),
  (101, .aload_n 0, 1, [], 0, 0), (102, .dup, 1, [], 0, 0), (103, .getfield 311, 3, [12, 49, 0], 0, 1084), (106, .iconst 1, 1, [], 1, 0),
  (107, .isub, 1, [], 0, 0), (108, .putfield 311, 3, [12, 49, 0], 0, 1084), (111, .iload_n 2, 1, [], 0, 0), (112, .ireturn, 1, [], 0, 0)])
/-- 215: WordMonoidsModel.atom(I)Z -/
def m_Ref_atom : mv_M := (2, 2, [
  (0, .iload_n 1, 1, [], 0, 0), (1, .lookupswitch 163 #[(35, 157), (36, 157), (37, 82), (94, 157), (101, 59), (126, 157)], 59, [164, 35, 158, 36, 158, 37, 83, 94, 158, 101, 60, 126, 158], 0, 0), (60, .aload_n 0, 1, [], 0, 0), (61, .dup, 1, [], 0, 0),
  (62, .getfield 302, 3, [12, 46, 0], 0, 1081), (65, .iconst 1, 1, [], 1, 0), (66, .iadd, 1, [], 0, 0), (67, .putfield 302, 3, [12, 46, 0], 0, 1081),
  (70, .aload_n 0, 1, [], 0, 0), (71, .getfield 133, 3, [12, 6, 0], 0, 1042), (74, .ifCond .ne 7, 3, [81], 0, 0), (77, .iconst 1, 1, [], 1, 0),
  (78, .goto 4, 3, [82], 0, 0), (81, .iconst 0, 1, [], 0, 0), (82, .ireturn, 1, [], 0, 0), (83, .aload_n 0, 1, [], 0, 0),
  (84, .dup, 1, [], 0, 0), (85, .getfield 302, 3, [12, 46, 0], 0, 1081), (88, .iconst 1, 1, [], 1, 0), (89, .iadd, 1, [], 0, 0),
  (90, .putfield 302, 3, [12, 46, 0], 0, 1081), (93, .aload_n 0, 1, [], 0, 0), (94, .invokevirtual 321, 3, [209, 1, 1, 1, 12], 0, 1464), (97, .i2l, 1, [], 0, 0),
  (98, .ldc2_w 340, 3, [], 0, 50), (101, .ldc2_w 342, 3, [], 0, 53), (104, .invokestatic 123, 3, [147, 3, 2, 0], 0, 1210), (107, .ifCond .ne 13, 3, [120], 0, 0),
  (110, .aload_n 0, 1, [], 0, 0), (111, .aload_n 0, 1, [], 0, 0), (112, .getfield 302, 3, [12, 46, 0], 0, 1081), (115, .invokevirtual 328, 3, [210, 2, 0, 1, 12], 0, 1474),
  (118, .iconst 0, 1, [], 0, 0), (119, .ireturn, 1, [], 0, 0), (120, .aload_n 0, 1, [], 0, 0), (121, .dup, 1, [], 0, 0),
  (122, .getfield 302, 3, [12, 46, 0], 0, 1081), (125, .iconst 1, 1, [], 1, 0), (126, .iadd, 1, [], 0, 0), (127, .putfield 302, 3, [12, 46, 0], 0, 1081),
  (130, .aload_n 0, 1, [], 0, 0), (131, .getfield 133, 3, [12, 6, 0], 0, 1042), (134, .aload_n 0, 1, [], 0, 0), (135, .getfield 108, 3, [12, 52, 2], 0, 1087),
  (138, .aload_n 0, 1, [], 0, 0), (139, .getfield 302, 3, [12, 46, 0], 0, 1081), (142, .iconst 1, 1, [], 1, 0), (143, .isub, 1, [], 0, 0),
  (144, .iaload, 1, [], 0, 0), (145, .bipush 48, 2, [], 48, 0), (147, .isub, 1, [], 0, 0), (148, .irem, 1, [], 0, 0),
  (149, .ifCond .ne 7, 3, [156], 0, 0), (152, .iconst 1, 1, [], 1, 0), (153, .goto 4, 3, [157], 0, 0), (156, .iconst 0, 1, [], 0, 0),
  (157, .ireturn, 1, [], 0, 0), (158, .aload_n 0, 1, [], 0, 0), (159, .iload_n 1, 1, [], 0, 0), (160, .invokevirtual 344, 3, [216, 2, 2, 1, 12], 0, 1478),
  (163, .ireturn, 1, [], 0, 0), (164, .aload_n 0, 1, [], 0, 0), (165, .aload_n 0, 1, [], 0, 0), (166, .getfield 302, 3, [12, 46, 0], 0, 1081),
  (169, .invokevirtual 328, 3, [210, 2, 0, 1, 12], 0, 1474), (172, .iconst 0, 1, [], 0, 0), (173, .ireturn, 1, [], 0, 0)])
/-- 216: WordMonoidsModel.sample(I)Z -/
def m_Ref_sample : mv_M := (6, 2, [
  (0, .aload_n 0, 1, [], 0, 0), (1, .dup, 1, [], 0, 0), (2, .getfield 302, 3, [12, 46, 0], 0, 1081), (5, .iconst 1, 1, [], 1, 0),
  (6, .iadd, 1, [], 0, 0), (7, .putfield 302, 3, [12, 46, 0], 0, 1081), (10, .aload_n 0, 1, [], 0, 0), (11, .getfield 302, 3, [12, 46, 0], 0, 1081),
  (14, .istore_n 2, 1, [], 0, 0), (15, .aload_n 0, 1, [], 0, 0), (16, .getfield 302, 3, [12, 46, 0], 0, 1081), (19, .iload_n 2, 1, [], 0, 0),
  (20, .iconst 3, 1, [], 3, 0), (21, .iadd, 1, [], 0, 0), (22, .if_icmp .ge 33, 3, [55], 0, 0), (25, .aload_n 0, 1, [], 0, 0),
  (26, .invokevirtual 321, 3, [209, 1, 1, 1, 12], 0, 1464), (29, .i2l, 1, [], 0, 0), (30, .ldc2_w 347, 3, [], 0, 97), (33, .ldc2_w 349, 3, [], 0, 99),
  (36, .invokestatic 123, 3, [147, 3, 2, 0], 0, 1210), (39, .ifCond .eq 16, 3, [55], 0, 0), (42, .aload_n 0, 1, [], 0, 0), (43, .dup, 1, [], 0, 0),
  (44, .getfield 302, 3, [12, 46, 0], 0, 1081), (47, .iconst 1, 1, [], 1, 0), (48, .iadd, 1, [], 0, 0), (49, .putfield 302, 3, [12, 46, 0], 0, 1081),
  (52, .goto (-37), 3, [15], 0, 0), (55, .aload_n 0, 1, [], 0, 0), (56, .getfield 302, 3, [12, 46, 0], 0, 1081), (59, .iload_n 2, 1, [], 0, 0),
  (60, .isub, 1, [], 0, 0), (61, .istore_n 3, 1, [], 0, 0), (62, .iload_n 3, 1, [], 0, 0), (63, .ifCond .ne 13, 3, [76], 0, 0),
  (66, .aload_n 0, 1, [], 0, 0), (67, .aload_n 0, 1, [], 0, 0), (68, .getfield 302, 3, [12, 46, 0], 0, 1081), (71, .invokevirtual 328, 3, [210, 2, 0, 1, 12], 0, 1474),
  (74, .iconst 0, 1, [], 0, 0), (75, .ireturn, 1, [], 0, 0), (76, .iload_n 1, 1, [], 0, 0), (77, .bipush 126, 2, [], 126, 0),
  (79, .if_icmp .ne 74, 3, [153], 0, 0), (82, .iconst 0, 1, [], 0, 0), (83, .istore 4, 2, [], 0, 0), (85, .iconst 0, 1, [], 0, 0),
  (86, .istore 5, 2, [], 0, 0), (88, .iload 5, 2, [], 0, 0), (90, .aload_n 0, 1, [], 0, 0), (91, .getfield 133, 3, [12, 6, 0], 0, 1042),
  (94, .if_icmp .ge 47, 3, [141], 0, 0), (97, .iload 4, 2, [], 0, 0), (99, .iload_n 3, 1, [], 0, 0), (100, .if_icmp .ge 41, 3, [141], 0, 0),
  (103, .iload 4, 2, [], 0, 0), (105, .aload_n 0, 1, [], 0, 0), (106, .getfield 16, 3, [12, 5, 2], 0, 1041), (109, .iload 5, 2, [], 0, 0),
  (111, .iaload, 1, [], 0, 0), (112, .aload_n 0, 1, [], 0, 0), (113, .getfield 108, 3, [12, 52, 2], 0, 1087), (116, .iload_n 2, 1, [], 0, 0),
  (117, .iload 4, 2, [], 0, 0), (119, .iadd, 1, [], 0, 0), (120, .iaload, 1, [], 0, 0), (121, .bipush 97, 2, [], 97, 0),
  (123, .isub, 1, [], 0, 0), (124, .if_icmp .ne 7, 3, [131], 0, 0), (127, .iconst 1, 1, [], 1, 0), (128, .goto 4, 3, [132], 0, 0),
  (131, .iconst 0, 1, [], 0, 0), (132, .iadd, 1, [], 0, 0), (133, .istore 4, 2, [], 0, 0), (135, .iinc 5 1, 3, [], 1, 0),
  (138, .goto (-50), 3, [88], 0, 0), (141, .iload 4, 2, [], 0, 0), (143, .iload_n 3, 1, [], 0, 0), (144, .if_icmp .ne 7, 3, [151], 0, 0),
  (147, .iconst 1, 1, [], 1, 0), (148, .goto 4, 3, [152], 0, 0), (151, .iconst 0, 1, [], 0, 0), (152, .ireturn, 1, [], 0, 0),
  (153, .iload_n 1, 1, [], 0, 0), (154, .bipush 35, 2, [], 35, 0), (156, .if_icmp .ne 52, 3, [208], 0, 0), (159, .iconst 0, 1, [], 0, 0),
  (160, .istore 4, 2, [], 0, 0), (162, .iconst 0, 1, [], 0, 0), (163, .istore 5, 2, [], 0, 0), (165, .iload 5, 2, [], 0, 0),
  (167, .iload_n 3, 1, [], 0, 0), (168, .iadd, 1, [], 0, 0), (169, .aload_n 0, 1, [], 0, 0), (170, .getfield 133, 3, [12, 6, 0], 0, 1042),
  (173, .if_icmp .gt 32, 3, [205], 0, 0), (176, .iload 4, 2, [], 0, 0), (178, .ifCond .ne 14, 3, [192], 0, 0), (181, .aload_n 0, 1, [], 0, 0),
  (182, .iload_n 2, 1, [], 0, 0), (183, .iload_n 3, 1, [], 0, 0), (184, .iload 5, 2, [], 0, 0), (186, .invokevirtual 351, 3, [217, 4, 2, 1, 12], 0, 1484),
  (189, .ifCond .eq 7, 3, [196], 0, 0), (192, .iconst 1, 1, [], 1, 0), (193, .goto 4, 3, [197], 0, 0), (196, .iconst 0, 1, [], 0, 0),
  (197, .istore 4, 2, [], 0, 0), (199, .iinc 5 1, 3, [], 1, 0), (202, .goto (-37), 3, [165], 0, 0), (205, .iload 4, 2, [], 0, 0),
  (207, .ireturn, 1, [], 0, 0), (208, .iload_n 3, 1, [], 0, 0), (209, .aload_n 0, 1, [], 0, 0), (210, .getfield 133, 3, [12, 6, 0], 0, 1042),
  (213, .if_icmp .gt 32, 3, [245], 0, 0), (216, .aload_n 0, 1, [], 0, 0), (217, .iload_n 2, 1, [], 0, 0), (218, .iload_n 3, 1, [], 0, 0),
  (219, .iload_n 1, 1, [], 0, 0), (220, .bipush 94, 2, [], 94, 0), (222, .if_icmp .ne 7, 3, [229], 0, 0), (225, .iconst 0, 1, [], 0, 0),
  (226, .goto 9, 3, [235], 0, 0), (229, .aload_n 0, 1, [], 0, 0), (230, .getfield 133, 3, [12, 6, 0], 0, 1042), (233, .iload_n 3, 1, [], 0, 0),
  (234, .isub, 1, [], 0, 0), (235, .invokevirtual 351, 3, [217, 4, 2, 1, 12], 0, 1484), (238, .ifCond .eq 7, 3, [245], 0, 0), (241, .iconst 1, 1, [], 1, 0),
  (242, .goto 4, 3, [246], 0, 0), (245, .iconst 0, 1, [], 0, 0), (246, .ireturn, 1, [], 0, 0)])
/-- 217: WordMonoidsModel.stands(III)Z -/
def m_Ref_stands : mv_M := (6, 2, [
  (0, .iconst 1, 1, [], 1, 0), (1, .istore 4, 2, [], 0, 0), (3, .iconst 0, 1, [], 0, 0), (4, .istore 5, 2, [], 0, 0),
  (6, .iload 5, 2, [], 0, 0), (8, .iload_n 2, 1, [], 0, 0), (9, .if_icmp .ge 45, 3, [54], 0, 0), (12, .iload 4, 2, [], 0, 0),
  (14, .ifCond .eq 31, 3, [45], 0, 0), (17, .aload_n 0, 1, [], 0, 0), (18, .getfield 16, 3, [12, 5, 2], 0, 1041), (21, .iload_n 3, 1, [], 0, 0),
  (22, .iload 5, 2, [], 0, 0), (24, .iadd, 1, [], 0, 0), (25, .iaload, 1, [], 0, 0), (26, .aload_n 0, 1, [], 0, 0),
  (27, .getfield 108, 3, [12, 52, 2], 0, 1087), (30, .iload_n 1, 1, [], 0, 0), (31, .iload 5, 2, [], 0, 0), (33, .iadd, 1, [], 0, 0),
  (34, .iaload, 1, [], 0, 0), (35, .bipush 97, 2, [], 97, 0), (37, .isub, 1, [], 0, 0), (38, .if_icmp .ne 7, 3, [45], 0, 0),
  (41, .iconst 1, 1, [], 1, 0), (42, .goto 4, 3, [46], 0, 0), (45, .iconst 0, 1, [], 0, 0), (46, .istore 4, 2, [], 0, 0),
  (48, .iinc 5 1, 3, [], 1, 0), (51, .goto (-45), 3, [6], 0, 0), (54, .iload 4, 2, [], 0, 0), (56, .ireturn, 1, [], 0, 0)])
/-- 218: WordMonoidsModel.goesThrough(I)Z -/
def m_Ref_goesThrough : mv_M := (3, 2, [
  (0, .aload_n 0, 1, [], 0, 0), (1, .iconst 0, 1, [], 0, 0), (2, .putfield 302, 3, [12, 46, 0], 0, 1081), (5, .aload_n 0, 1, [], 0, 0),
  (6, .iload_n 1, 1, [], 0, 0), (7, .putfield 305, 3, [12, 45, 0], 0, 1080), (10, .aload_n 0, 1, [], 0, 0), (11, .iconst (-1), 1, [], (-1), 0),
  (12, .putfield 308, 3, [12, 47, 0], 0, 1082), (15, .aload_n 0, 1, [], 0, 0), (16, .iconst 0, 1, [], 0, 0), (17, .putfield 311, 3, [12, 49, 0], 0, 1084),
  (20, .aload_n 0, 1, [], 0, 0), (21, .invokevirtual 337, 3, [211, 1, 2, 1, 12], 0, 1452), (24, .istore_n 2, 1, [], 0, 0), (25, .aload_n 0, 1, [], 0, 0),
  (26, .getfield 308, 3, [12, 47, 0], 0, 1082), (29, .ifCond .ge 22, 3, [51], 0, 0), (32, .aload_n 0, 1, [], 0, 0), (33, .getfield 302, 3, [12, 46, 0], 0, 1081),
  (36, .aload_n 0, 1, [], 0, 0), (37, .getfield 305, 3, [12, 45, 0], 0, 1080), (40, .if_icmp .ge 11, 3, [51], 0, 0), (43, .aload_n 0, 1, [], 0, 0),
  (44, .aload_n 0, 1, [], 0, 0), (45, .getfield 302, 3, [12, 46, 0], 0, 1081), (48, .invokevirtual 328, 3, [210, 2, 0, 1, 12], 0, 1474), (51, .iload_n 2, 1, [], 0, 0),
  (52, .ireturn, 1, [], 0, 0)])
/-- 219: WordMonoidsModel.isFormula(I)Z -/
def m_Ref_isFormula : mv_M := (2, 2, [
  (0, .iload_n 1, 1, [], 0, 0), (1, .i2l, 1, [], 0, 0), (2, .lconst 0, 1, [], 0, 0), (3, .aload_n 0, 1, [], 0, 0),
  (4, .getfield 354, 3, [12, 41, 0], 0, 1077), (7, .iconst 1, 1, [], 1, 0), (8, .isub, 1, [], 0, 0), (9, .i2l, 1, [], 0, 0),
  (10, .invokestatic 123, 3, [147, 3, 2, 0], 0, 1210), (13, .ireturn, 1, [], 0, 0)])
/-- 220: WordMonoidsModel.saysNow(I)Z -/
def m_Ref_saysNow : mv_M := (2, 2, [
  (0, .aload_n 0, 1, [], 0, 0), (1, .getfield 93, 3, [12, 39, 2], 0, 1075), (4, .bipush 60, 2, [], 60, 0), (6, .iload_n 1, 1, [], 0, 0),
  (7, .imul, 1, [], 0, 0), (8, .aload_n 0, 1, [], 0, 0), (9, .getfield 108, 3, [12, 52, 2], 0, 1087), (12, .iconst 0, 1, [], 0, 0),
  (13, .aload_n 0, 1, [], 0, 0), (14, .getfield 96, 3, [12, 40, 2], 0, 1076), (17, .iload_n 1, 1, [], 0, 0), (18, .iaload, 1, [], 0, 0),
  (19, .invokestatic 292, 3, [0, 0, 0, 3, 20], 0, 1437), (22, .aload_n 0, 1, [], 0, 0), (23, .aload_n 0, 1, [], 0, 0), (24, .getfield 96, 3, [12, 40, 2], 0, 1076),
  (27, .iload_n 1, 1, [], 0, 0), (28, .iaload, 1, [], 0, 0), (29, .invokevirtual 357, 3, [218, 2, 2, 1, 12], 0, 1448), (32, .ireturn, 1, [], 0, 0)])
/-- 221: WordMonoidsModel.formula()I -/
def m_Ref_formula : mv_M := (3, 1, [
  (0, .aload_n 0, 1, [], 0, 0), (1, .getfield 354, 3, [12, 41, 0], 0, 1077), (4, .iconst 4, 1, [], 4, 0), (5, .if_icmp .ne 6, 3, [11], 0, 0),
  (8, .bipush (-4), 2, [], (-4), 0), (10, .ireturn, 1, [], 0, 0), (11, .aload_n 0, 1, [], 0, 0), (12, .getfield 99, 3, [12, 42, 2], 0, 1078),
  (15, .iconst 0, 1, [], 0, 0), (16, .aload_n 0, 1, [], 0, 0), (17, .getfield 108, 3, [12, 52, 2], 0, 1087), (20, .iconst 0, 1, [], 0, 0),
  (21, .aload_n 0, 1, [], 0, 0), (22, .getfield 360, 3, [12, 43, 0], 0, 1079), (25, .invokestatic 292, 3, [0, 0, 0, 3, 20], 0, 1437), (28, .aload_n 0, 1, [], 0, 0),
  (29, .getfield 360, 3, [12, 43, 0], 0, 1079), (32, .istore_n 1, 1, [], 0, 0), (33, .aload_n 0, 1, [], 0, 0), (34, .iconst 0, 1, [], 0, 0),
  (35, .putfield 360, 3, [12, 43, 0], 0, 1079), (38, .aload_n 0, 1, [], 0, 0), (39, .iconst 0, 1, [], 0, 0), (40, .putfield 133, 3, [12, 6, 0], 0, 1042),
  (43, .aload_n 0, 1, [], 0, 0), (44, .iload_n 1, 1, [], 0, 0), (45, .invokevirtual 357, 3, [218, 2, 2, 1, 12], 0, 1448), (48, .istore_n 2, 1, [], 0, 0),
  (49, .aload_n 0, 1, [], 0, 0), (50, .getfield 308, 3, [12, 47, 0], 0, 1082), (53, .ifCond .lt 11, 3, [64], 0, 0), (56, .bipush (-100), 2, [], (-100), 0),
  (58, .aload_n 0, 1, [], 0, 0), (59, .getfield 308, 3, [12, 47, 0], 0, 1082), (62, .isub, 1, [], 0, 0), (63, .ireturn, 1, [], 0, 0),
  (64, .aload_n 0, 1, [], 0, 0), (65, .iconst 0, 1, [], 0, 0), (66, .putfield 314, 3, [12, 51, 0], 0, 1086), (69, .aload_n 0, 1, [], 0, 0),
  (70, .getfield 108, 3, [12, 52, 2], 0, 1087), (73, .iconst 0, 1, [], 0, 0), (74, .aload_n 0, 1, [], 0, 0), (75, .getfield 93, 3, [12, 39, 2], 0, 1075),
  (78, .bipush 60, 2, [], 60, 0), (80, .aload_n 0, 1, [], 0, 0), (81, .getfield 354, 3, [12, 41, 0], 0, 1077), (84, .imul, 1, [], 0, 0),
  (85, .iload_n 1, 1, [], 0, 0), (86, .invokestatic 292, 3, [0, 0, 0, 3, 20], 0, 1437), (89, .aload_n 0, 1, [], 0, 0), (90, .getfield 96, 3, [12, 40, 2], 0, 1076),
  (93, .aload_n 0, 1, [], 0, 0), (94, .getfield 354, 3, [12, 41, 0], 0, 1077), (97, .iload_n 1, 1, [], 0, 0), (98, .iastore, 1, [], 0, 0),
  (99, .aload_n 0, 1, [], 0, 0), (100, .dup, 1, [], 0, 0), (101, .getfield 354, 3, [12, 41, 0], 0, 1077), (104, .iconst 1, 1, [], 1, 0),
  (105, .iadd, 1, [], 0, 0), (106, .putfield 354, 3, [12, 41, 0], 0, 1077), (109, .aload_n 0, 1, [], 0, 0), (110, .getfield 354, 3, [12, 41, 0], 0, 1077),
  (113, .iconst 1, 1, [], 1, 0), (114, .isub, 1, [], 0, 0), (115, .ireturn, 1, [], 0, 0)])
/-- 222: WordMonoidsModel.why(I)I -/
def m_Ref_why : mv_M := (2, 1, [
  (0, .iload_n 1, 1, [], 0, 0), (1, .iconst (-1), 1, [], (-1), 0), (2, .if_icmp .ge 6, 3, [8], 0, 0), (5, .bipush (-2), 2, [], (-2), 0),
  (7, .ireturn, 1, [], 0, 0), (8, .iload_n 1, 1, [], 0, 0), (9, .iconst (-1), 1, [], (-1), 0), (10, .if_icmp .ne 10, 3, [20], 0, 0),
  (13, .aload_n 0, 1, [], 0, 0), (14, .getfield 314, 3, [12, 51, 0], 0, 1086), (17, .goto 21, 3, [38], 0, 0), (20, .iload_n 1, 1, [], 0, 0),
  (21, .aload_n 0, 1, [], 0, 0), (22, .getfield 314, 3, [12, 51, 0], 0, 1086), (25, .if_icmp .ge 12, 3, [37], 0, 0), (28, .aload_n 0, 1, [], 0, 0),
  (29, .getfield 105, 3, [12, 50, 2], 0, 1085), (32, .iload_n 1, 1, [], 0, 0), (33, .iaload, 1, [], 0, 0), (34, .goto 4, 3, [38], 0, 0),
  (37, .iconst (-1), 1, [], (-1), 0), (38, .ireturn, 1, [], 0, 0)])
/-- 223: WordMonoidsModel.says(II)I -/
def m_Ref_says : mv_M := (3, 1, [
  (0, .aload_n 0, 1, [], 0, 0), (1, .iload_n 1, 1, [], 0, 0), (2, .invokevirtual 363, 3, [219, 2, 2, 1, 12], 0, 1500), (5, .ifCond .eq 22, 3, [27], 0, 0),
  (8, .aload_n 0, 1, [], 0, 0), (9, .iload_n 2, 1, [], 0, 0), (10, .invokevirtual 173, 3, [156, 2, 2, 1, 12], 0, 1281), (13, .ifCond .eq 14, 3, [27], 0, 0),
  (16, .aload_n 0, 1, [], 0, 0), (17, .iload_n 1, 1, [], 0, 0), (18, .invokevirtual 366, 3, [220, 2, 2, 1, 12], 0, 1504), (21, .invokestatic 179, 3, [148, 1, 1, 0], 0, 1269),
  (24, .goto 5, 3, [29], 0, 0), (27, .bipush (-2), 2, [], (-2), 0), (29, .ireturn, 1, [], 0, 0)])
/-- 224: WordMonoidsModel.isAsked(II)Z -/
def m_Ref_isAsked : mv_M := (3, 2, [
  (0, .iload_n 1, 1, [], 0, 0), (1, .ifCond .ne 11, 3, [12], 0, 0), (4, .aload_n 0, 1, [], 0, 0), (5, .iload_n 2, 1, [], 0, 0),
  (6, .invokevirtual 151, 3, [149, 2, 2, 1, 12], 0, 1221), (9, .goto 21, 3, [30], 0, 0), (12, .iload_n 1, 1, [], 0, 0), (13, .iconst 1, 1, [], 1, 0),
  (14, .if_icmp .ne 15, 3, [29], 0, 0), (17, .aload_n 0, 1, [], 0, 0), (18, .iload_n 2, 1, [], 0, 0), (19, .invokevirtual 363, 3, [219, 2, 2, 1, 12], 0, 1500),
  (22, .ifCond .eq 7, 3, [29], 0, 0), (25, .iconst 1, 1, [], 1, 0), (26, .goto 4, 3, [30], 0, 0), (29, .iconst 0, 1, [], 0, 0),
  (30, .ireturn, 1, [], 0, 0)])
/-- 225: WordMonoidsModel.saysOf(II)Z -/
def m_Ref_saysOf : mv_M := (3, 2, [
  (0, .iload_n 1, 1, [], 0, 0), (1, .ifCond .ne 11, 3, [12], 0, 0), (4, .aload_n 0, 1, [], 0, 0), (5, .iload_n 2, 1, [], 0, 0),
  (6, .invokevirtual 176, 3, [160, 2, 2, 1, 12], 0, 1286), (9, .goto 8, 3, [17], 0, 0), (12, .aload_n 0, 1, [], 0, 0), (13, .iload_n 2, 1, [], 0, 0),
  (14, .invokevirtual 366, 3, [220, 2, 2, 1, 12], 0, 1504), (17, .ireturn, 1, [], 0, 0)])
/-- 226: WordMonoidsModel.many(III)I -/
def m_Ref_many : mv_M := (5, 1, [
  (0, .aload_n 0, 1, [], 0, 0), (1, .iload_n 1, 1, [], 0, 0), (2, .iload_n 2, 1, [], 0, 0), (3, .invokevirtual 369, 3, [224, 3, 2, 1, 12], 0, 1512),
  (6, .ifCond .eq 15, 3, [21], 0, 0), (9, .iload_n 3, 1, [], 0, 0), (10, .i2l, 1, [], 0, 0), (11, .lconst 0, 1, [], 0, 0),
  (12, .ldc2_w 372, 3, [], 0, 9), (15, .invokestatic 123, 3, [147, 3, 2, 0], 0, 1210), (18, .ifCond .ne 6, 3, [24], 0, 0), (21, .bipush (-2), 2, [], (-2), 0),
  (23, .ireturn, 1, [], 0, 0), (24, .aload_n 0, 1, [], 0, 0), (25, .iload_n 3, 1, [], 0, 0), (26, .invokevirtual 374, 3, [159, 2, 0, 1, 12], 0, 1517),
  (29, .aload_n 0, 1, [], 0, 0), (30, .iload_n 1, 1, [], 0, 0), (31, .iload_n 2, 1, [], 0, 0), (32, .invokevirtual 377, 3, [225, 3, 2, 1, 12], 0, 1521),
  (35, .invokestatic 179, 3, [148, 1, 1, 0], 0, 1269), (38, .istore 4, 2, [], 0, 0), (40, .aload_n 0, 1, [], 0, 0), (41, .invokevirtual 380, 3, [158, 1, 2, 1, 12], 0, 1525),
  (44, .ifCond .eq 20, 3, [64], 0, 0), (47, .iload 4, 2, [], 0, 0), (49, .aload_n 0, 1, [], 0, 0), (50, .iload_n 1, 1, [], 0, 0),
  (51, .iload_n 2, 1, [], 0, 0), (52, .invokevirtual 377, 3, [225, 3, 2, 1, 12], 0, 1521), (55, .invokestatic 179, 3, [148, 1, 1, 0], 0, 1269), (58, .iadd, 1, [], 0, 0),
  (59, .istore 4, 2, [], 0, 0), (61, .goto (-21), 3, [40], 0, 0), (64, .iload 4, 2, [], 0, 0), (66, .ireturn, 1, [], 0, 0)])
/-- 227: WordMonoidsModel.agree(III)I -/
def m_Ref_agree : mv_M := (6, 1, [
  (0, .aload_n 0, 1, [], 0, 0), (1, .iload_n 1, 1, [], 0, 0), (2, .invokevirtual 151, 3, [149, 2, 2, 1, 12], 0, 1221), (5, .ifCond .eq 23, 3, [28], 0, 0),
  (8, .aload_n 0, 1, [], 0, 0), (9, .iload_n 2, 1, [], 0, 0), (10, .invokevirtual 363, 3, [219, 2, 2, 1, 12], 0, 1500), (13, .ifCond .eq 15, 3, [28], 0, 0),
  (16, .iload_n 3, 1, [], 0, 0), (17, .i2l, 1, [], 0, 0), (18, .lconst 0, 1, [], 0, 0), (19, .ldc2_w 383, 3, [], 0, 5),
  (22, .invokestatic 123, 3, [147, 3, 2, 0], 0, 1210), (25, .ifCond .ne 6, 3, [31], 0, 0), (28, .bipush (-2), 2, [], (-2), 0), (30, .ireturn, 1, [], 0, 0),
  (31, .iconst 0, 1, [], 0, 0), (32, .istore 4, 2, [], 0, 0), (34, .iload 4, 2, [], 0, 0), (36, .iload_n 3, 1, [], 0, 0),
  (37, .if_icmp .gt 50, 3, [87], 0, 0), (40, .aload_n 0, 1, [], 0, 0), (41, .iload 4, 2, [], 0, 0), (43, .invokevirtual 374, 3, [159, 2, 0, 1, 12], 0, 1517),
  (46, .iconst 1, 1, [], 1, 0), (47, .istore 5, 2, [], 0, 0), (49, .iload 5, 2, [], 0, 0), (51, .ifCond .eq 30, 3, [81], 0, 0),
  (54, .aload_n 0, 1, [], 0, 0), (55, .iload_n 1, 1, [], 0, 0), (56, .invokevirtual 176, 3, [160, 2, 2, 1, 12], 0, 1286), (59, .aload_n 0, 1, [], 0, 0),
  (60, .iload_n 2, 1, [], 0, 0), (61, .invokevirtual 366, 3, [220, 2, 2, 1, 12], 0, 1504), (64, .if_icmp .eq 8, 3, [72], 0, 0), (67, .aload_n 0, 1, [], 0, 0),
  (68, .invokevirtual 385, 3, [157, 1, 1, 1, 12], 0, 1534), (71, .ireturn, 1, [], 0, 0), (72, .aload_n 0, 1, [], 0, 0), (73, .invokevirtual 380, 3, [158, 1, 2, 1, 12], 0, 1525),
  (76, .istore 5, 2, [], 0, 0), (78, .goto (-29), 3, [49], 0, 0), (81, .iinc 4 1, 3, [], 1, 0), (84, .goto (-50), 3, [34], 0, 0),
  (87, .iconst (-1), 1, [], (-1), 0), (88, .ireturn, 1, [], 0, 0)])
/-- 228: WordMonoidsModel.drawn(III)I -/
def m_Ref_drawn : mv_M := (7, 1, [
  (0, .aload_n 0, 1, [], 0, 0), (1, .iload_n 1, 1, [], 0, 0), (2, .invokevirtual 151, 3, [149, 2, 2, 1, 12], 0, 1221), (5, .ifCond .eq 15, 3, [20], 0, 0),
  (8, .iload_n 3, 1, [], 0, 0), (9, .i2l, 1, [], 0, 0), (10, .lconst 0, 1, [], 0, 0), (11, .ldc2_w 349, 3, [], 0, 99),
  (14, .invokestatic 123, 3, [147, 3, 2, 0], 0, 1210), (17, .ifCond .ne 6, 3, [23], 0, 0), (20, .bipush (-2), 2, [], (-2), 0), (22, .ireturn, 1, [], 0, 0),
  (23, .aload_n 0, 1, [], 0, 0), (24, .iload_n 1, 1, [], 0, 0), (25, .invokevirtual 211, 3, [176, 2, 0, 1, 12], 0, 1302), (28, .iload_n 2, 1, [], 0, 0),
  (29, .istore 4, 2, [], 0, 0), (31, .aload_n 0, 1, [], 0, 0), (32, .getfield 34, 3, [12, 15, 2], 0, 1051), (35, .iconst 0, 1, [], 0, 0),
  (36, .iaload, 1, [], 0, 0), (37, .istore 5, 2, [], 0, 0), (39, .iconst 0, 1, [], 0, 0), (40, .istore 6, 2, [], 0, 0),
  (42, .iload 6, 2, [], 0, 0), (44, .iload_n 3, 1, [], 0, 0), (45, .if_icmp .ge 41, 3, [86], 0, 0), (48, .iload 4, 2, [], 0, 0),
  (50, .ldc_w 388, 3, [], 1103515245, 0), (53, .imul, 1, [], 0, 0), (54, .sipush 12345, 3, [], 12345, 0), (57, .iadd, 1, [], 0, 0),
  (58, .istore 4, 2, [], 0, 0), (60, .aload_n 0, 1, [], 0, 0), (61, .iload 5, 2, [], 0, 0), (63, .aload_n 0, 1, [], 0, 0),
  (64, .getfield 53, 3, [12, 21, 2], 0, 1057), (67, .iload 4, 2, [], 0, 0), (69, .bipush 9, 2, [], 9, 0), (71, .iushr, 1, [], 0, 0),
  (72, .iconst 3, 1, [], 3, 0), (73, .irem, 1, [], 0, 0), (74, .iaload, 1, [], 0, 0), (75, .invokevirtual 205, 3, [174, 3, 1, 1, 12], 0, 1310),
  (78, .istore 5, 2, [], 0, 0), (80, .iinc 6 1, 3, [], 1, 0), (83, .goto (-41), 3, [42], 0, 0), (86, .aload_n 0, 1, [], 0, 0),
  (87, .getfield 37, 3, [12, 16, 2], 0, 1052), (90, .iload 5, 2, [], 0, 0), (92, .iaload, 1, [], 0, 0), (93, .ireturn, 1, [], 0, 0)])
/-- 229: WordMonoidsModel.isDrawnTaken(III)Z -/
def m_Ref_isDrawnTaken : mv_M := (7, 2, [
  (0, .iload_n 2, 1, [], 0, 0), (1, .istore 4, 2, [], 0, 0), (3, .aload_n 0, 1, [], 0, 0), (4, .iload_n 1, 1, [], 0, 0),
  (5, .invokevirtual 138, 3, [154, 2, 1, 1, 12], 0, 1249), (8, .istore 5, 2, [], 0, 0), (10, .iconst 0, 1, [], 0, 0), (11, .istore 6, 2, [], 0, 0),
  (13, .iload 6, 2, [], 0, 0), (15, .iload_n 3, 1, [], 0, 0), (16, .if_icmp .ge 37, 3, [53], 0, 0), (19, .iload 4, 2, [], 0, 0),
  (21, .ldc_w 388, 3, [], 1103515245, 0), (24, .imul, 1, [], 0, 0), (25, .sipush 12345, 3, [], 12345, 0), (28, .iadd, 1, [], 0, 0),
  (29, .istore 4, 2, [], 0, 0), (31, .aload_n 0, 1, [], 0, 0), (32, .iload_n 1, 1, [], 0, 0), (33, .iload 5, 2, [], 0, 0),
  (35, .iload 4, 2, [], 0, 0), (37, .bipush 9, 2, [], 9, 0), (39, .iushr, 1, [], 0, 0), (40, .iconst 3, 1, [], 3, 0),
  (41, .irem, 1, [], 0, 0), (42, .invokevirtual 141, 3, [153, 4, 1, 1, 12], 0, 1237), (45, .istore 5, 2, [], 0, 0), (47, .iinc 6 1, 3, [], 1, 0),
  (50, .goto (-37), 3, [13], 0, 0), (53, .aload_n 0, 1, [], 0, 0), (54, .iload_n 1, 1, [], 0, 0), (55, .iload 5, 2, [], 0, 0),
  (57, .invokevirtual 145, 3, [155, 3, 2, 1, 12], 0, 1265), (60, .ireturn, 1, [], 0, 0)])
/-- 230: WordMonoidsModel.chance(IIIII)I -/
def m_Ref_chance : mv_M := (10, 1, [
  (0, .aload_n 0, 1, [], 0, 0), (1, .iload_n 1, 1, [], 0, 0), (2, .invokevirtual 151, 3, [149, 2, 2, 1, 12], 0, 1221), (5, .ifCond .eq 39, 3, [44], 0, 0),
  (8, .iload_n 3, 1, [], 0, 0), (9, .i2l, 1, [], 0, 0), (10, .lconst 1, 1, [], 0, 1), (11, .ldc2_w 389, 3, [], 0, 20),
  (14, .invokestatic 123, 3, [147, 3, 2, 0], 0, 1210), (17, .ifCond .eq 27, 3, [44], 0, 0), (20, .iload 4, 2, [], 0, 0), (22, .i2l, 1, [], 0, 0),
  (23, .lconst 0, 1, [], 0, 0), (24, .ldc2_w 349, 3, [], 0, 99), (27, .invokestatic 123, 3, [147, 3, 2, 0], 0, 1210), (30, .ifCond .eq 14, 3, [44], 0, 0),
  (33, .iload 5, 2, [], 0, 0), (35, .i2l, 1, [], 0, 0), (36, .lconst 0, 1, [], 0, 0), (37, .lconst 1, 1, [], 0, 1),
  (38, .invokestatic 123, 3, [147, 3, 2, 0], 0, 1210), (41, .ifCond .ne 6, 3, [47], 0, 0), (44, .bipush (-2), 2, [], (-2), 0), (46, .ireturn, 1, [], 0, 0),
  (47, .iconst 0, 1, [], 0, 0), (48, .istore 6, 2, [], 0, 0), (50, .iconst 0, 1, [], 0, 0), (51, .istore 7, 2, [], 0, 0),
  (53, .iload 7, 2, [], 0, 0), (55, .iload_n 3, 1, [], 0, 0), (56, .if_icmp .ge 28, 3, [84], 0, 0), (59, .iload 6, 2, [], 0, 0),
  (61, .aload_n 0, 1, [], 0, 0), (62, .iload_n 1, 1, [], 0, 0), (63, .iload_n 2, 1, [], 0, 0), (64, .iload 7, 2, [], 0, 0),
  (66, .iadd, 1, [], 0, 0), (67, .iload 4, 2, [], 0, 0), (69, .invokevirtual 391, 3, [229, 4, 2, 1, 12], 0, 1548), (72, .invokestatic 179, 3, [148, 1, 1, 0], 0, 1269),
  (75, .iadd, 1, [], 0, 0), (76, .istore 6, 2, [], 0, 0), (78, .iinc 7 1, 3, [], 1, 0), (81, .goto (-28), 3, [53], 0, 0),
  (84, .iload 6, 2, [], 0, 0), (86, .istore 7, 2, [], 0, 0), (88, .iload_n 3, 1, [], 0, 0), (89, .istore 8, 2, [], 0, 0),
  (91, .iload 8, 2, [], 0, 0), (93, .ifCond .eq 21, 3, [114], 0, 0), (96, .iload 7, 2, [], 0, 0), (98, .iload 8, 2, [], 0, 0),
  (100, .irem, 1, [], 0, 0), (101, .istore 9, 2, [], 0, 0), (103, .iload 8, 2, [], 0, 0), (105, .istore 7, 2, [], 0, 0),
  (107, .iload 9, 2, [], 0, 0), (109, .istore 8, 2, [], 0, 0), (111, .goto (-20), 3, [91], 0, 0), (114, .iload 5, 2, [], 0, 0),
  (116, .ifCond .ne 11, 3, [127], 0, 0), (119, .iload 6, 2, [], 0, 0), (121, .iload 7, 2, [], 0, 0), (123, .idiv, 1, [], 0, 0),
  (124, .goto 7, 3, [131], 0, 0), (127, .iload_n 3, 1, [], 0, 0), (128, .iload 7, 2, [], 0, 0), (130, .idiv, 1, [], 0, 0),
  (131, .ireturn, 1, [], 0, 0)])
/-- 231: WordMonoidsModel.tells(III)I -/
def m_Ref_tells : mv_M := (6, 1, [
  (0, .iload_n 1, 1, [], 0, 0), (1, .invokestatic 394, 3, [237, 1, 2, 0], 0, 1556), (4, .ifCond .eq 12, 3, [16], 0, 0), (7, .aload_n 0, 1, [], 0, 0),
  (8, .iload_n 2, 1, [], 0, 0), (9, .iload_n 3, 1, [], 0, 0), (10, .invokevirtual 369, 3, [224, 3, 2, 1, 12], 0, 1512), (13, .ifCond .ne 6, 3, [19], 0, 0),
  (16, .bipush (-2), 2, [], (-2), 0), (18, .ireturn, 1, [], 0, 0), (19, .aload_n 0, 1, [], 0, 0), (20, .getfield 111, 3, [12, 53, 2], 0, 1088),
  (23, .iload_n 1, 1, [], 0, 0), (24, .iaload, 1, [], 0, 0), (25, .iconst (-1), 1, [], (-1), 0), (26, .if_icmp .ne 6, 3, [32], 0, 0),
  (29, .bipush (-11), 2, [], (-11), 0), (31, .ireturn, 1, [], 0, 0), (32, .iconst 0, 1, [], 0, 0), (33, .istore 4, 2, [], 0, 0),
  (35, .iconst 2, 1, [], 2, 0), (36, .iload 4, 2, [], 0, 0), (38, .imul, 1, [], 0, 0), (39, .iconst 1, 1, [], 1, 0),
  (40, .iadd, 1, [], 0, 0), (41, .aload_n 0, 1, [], 0, 0), (42, .getfield 114, 3, [12, 54, 2], 0, 1089), (45, .iload_n 1, 1, [], 0, 0),
  (46, .iaload, 1, [], 0, 0), (47, .if_icmp .ge 65, 3, [112], 0, 0), (50, .aload_n 0, 1, [], 0, 0), (51, .getfield 117, 3, [12, 55, 2], 0, 1090),
  (54, .bipush 40, 2, [], 40, 0), (56, .iload_n 1, 1, [], 0, 0), (57, .imul, 1, [], 0, 0), (58, .iconst 2, 1, [], 2, 0),
  (59, .iload 4, 2, [], 0, 0), (61, .imul, 1, [], 0, 0), (62, .iadd, 1, [], 0, 0), (63, .iconst 1, 1, [], 1, 0),
  (64, .iadd, 1, [], 0, 0), (65, .iaload, 1, [], 0, 0), (66, .istore 5, 2, [], 0, 0), (68, .aload_n 0, 1, [], 0, 0),
  (69, .aload_n 0, 1, [], 0, 0), (70, .getfield 117, 3, [12, 55, 2], 0, 1090), (73, .bipush 40, 2, [], 40, 0), (75, .iload_n 1, 1, [], 0, 0),
  (76, .imul, 1, [], 0, 0), (77, .iconst 2, 1, [], 2, 0), (78, .iload 4, 2, [], 0, 0), (80, .imul, 1, [], 0, 0),
  (81, .iadd, 1, [], 0, 0), (82, .iaload, 1, [], 0, 0), (83, .invokevirtual 173, 3, [156, 2, 2, 1, 12], 0, 1281), (86, .ifCond .eq 17, 3, [103], 0, 0),
  (89, .iload 5, 2, [], 0, 0), (91, .aload_n 0, 1, [], 0, 0), (92, .iload_n 2, 1, [], 0, 0), (93, .iload_n 3, 1, [], 0, 0),
  (94, .invokevirtual 377, 3, [225, 3, 2, 1, 12], 0, 1521), (97, .invokestatic 179, 3, [148, 1, 1, 0], 0, 1269), (100, .if_icmp .eq 6, 3, [106], 0, 0), (103, .iload 4, 2, [], 0, 0),
  (105, .ireturn, 1, [], 0, 0), (106, .iinc 4 1, 3, [], 1, 0), (109, .goto (-74), 3, [35], 0, 0), (112, .iconst (-1), 1, [], (-1), 0),
  (113, .ireturn, 1, [], 0, 0)])
/-- 232: WordMonoidsModel.film(IIII)I -/
def m_Ref_film : mv_M := (8, 1, [
  (0, .iload_n 1, 1, [], 0, 0), (1, .invokestatic 394, 3, [237, 1, 2, 0], 0, 1556), (4, .ifCond .eq 25, 3, [29], 0, 0), (7, .aload_n 0, 1, [], 0, 0),
  (8, .iload_n 2, 1, [], 0, 0), (9, .iload_n 3, 1, [], 0, 0), (10, .invokevirtual 369, 3, [224, 3, 2, 1, 12], 0, 1512), (13, .ifCond .eq 16, 3, [29], 0, 0),
  (16, .iload 4, 2, [], 0, 0), (18, .i2l, 1, [], 0, 0), (19, .lconst 0, 1, [], 0, 0), (20, .ldc2_w 397, 3, [], 0, 40),
  (23, .invokestatic 123, 3, [147, 3, 2, 0], 0, 1210), (26, .ifCond .ne 6, 3, [32], 0, 0), (29, .bipush (-2), 2, [], (-2), 0), (31, .ireturn, 1, [], 0, 0),
  (32, .aload_n 0, 1, [], 0, 0), (33, .iload_n 1, 1, [], 0, 0), (34, .iconst 1, 1, [], 1, 0), (35, .iload 4, 2, [], 0, 0),
  (37, .invokevirtual 399, 3, [238, 4, 0, 1, 12], 0, 1564), (40, .iconst 0, 1, [], 0, 0), (41, .istore 5, 2, [], 0, 0), (43, .iconst 0, 1, [], 0, 0),
  (44, .istore 6, 2, [], 0, 0), (46, .iload 6, 2, [], 0, 0), (48, .iconst 5, 1, [], 5, 0), (49, .if_icmp .gt 67, 3, [116], 0, 0),
  (52, .aload_n 0, 1, [], 0, 0), (53, .iload 6, 2, [], 0, 0), (55, .invokevirtual 374, 3, [159, 2, 0, 1, 12], 0, 1517), (58, .iconst 1, 1, [], 1, 0),
  (59, .istore 7, 2, [], 0, 0), (61, .iload 7, 2, [], 0, 0), (63, .ifCond .eq 47, 3, [110], 0, 0), (66, .iload 5, 2, [], 0, 0),
  (68, .iload 4, 2, [], 0, 0), (70, .if_icmp .ge 40, 3, [110], 0, 0), (73, .aload_n 0, 1, [], 0, 0), (74, .iload_n 2, 1, [], 0, 0),
  (75, .iload_n 3, 1, [], 0, 0), (76, .invokevirtual 377, 3, [225, 3, 2, 1, 12], 0, 1521), (79, .ifCond .eq 22, 3, [101], 0, 0), (82, .aload_n 0, 1, [], 0, 0),
  (83, .getfield 117, 3, [12, 55, 2], 0, 1090), (86, .bipush 40, 2, [], 40, 0), (88, .iload_n 1, 1, [], 0, 0), (89, .imul, 1, [], 0, 0),
  (90, .iload 5, 2, [], 0, 0), (92, .iadd, 1, [], 0, 0), (93, .aload_n 0, 1, [], 0, 0), (94, .invokevirtual 385, 3, [157, 1, 1, 1, 12], 0, 1534),
  (97, .iastore, 1, [], 0, 0), (98, .iinc 5 1, 3, [], 1, 0), (101, .aload_n 0, 1, [], 0, 0), (102, .invokevirtual 380, 3, [158, 1, 2, 1, 12], 0, 1525),
  (105, .istore 7, 2, [], 0, 0), (107, .goto (-46), 3, [61], 0, 0), (110, .iinc 6 1, 3, [], 1, 0), (113, .goto (-67), 3, [46], 0, 0),
  (116, .iload 5, 2, [], 0, 0), (118, .ireturn, 1, [], 0, 0)])
/-- 233: WordMonoidsModel.isByte(I)Z -/
def m_Ref_isByte : mv_M := (1, 2, [
  (0, .iload_n 0, 1, [], 0, 0), (1, .i2l, 1, [], 0, 0), (2, .lconst 0, 1, [], 0, 0), (3, .ldc2_w 402, 3, [], 0, 255),
  (6, .invokestatic 123, 3, [147, 3, 2, 0], 0, 1210), (9, .ireturn, 1, [], 0, 0)])
/-- 234: WordMonoidsModel.feed(IIIIII)I -/
def m_Ref_feed : mv_M := (8, 1, [
  (0, .iload_n 1, 1, [], 0, 0), (1, .i2l, 1, [], 0, 0), (2, .lconst 1, 1, [], 0, 1), (3, .ldc2_w 383, 3, [], 0, 5),
  (6, .invokestatic 123, 3, [147, 3, 2, 0], 0, 1210), (9, .ifCond .eq 41, 3, [50], 0, 0), (12, .iload_n 2, 1, [], 0, 0), (13, .invokestatic 404, 3, [233, 1, 2, 0], 0, 1572),
  (16, .ifCond .eq 34, 3, [50], 0, 0), (19, .iload_n 3, 1, [], 0, 0), (20, .invokestatic 404, 3, [233, 1, 2, 0], 0, 1572), (23, .ifCond .eq 27, 3, [50], 0, 0),
  (26, .iload 4, 2, [], 0, 0), (28, .invokestatic 404, 3, [233, 1, 2, 0], 0, 1572), (31, .ifCond .eq 19, 3, [50], 0, 0), (34, .iload 5, 2, [], 0, 0),
  (36, .invokestatic 404, 3, [233, 1, 2, 0], 0, 1572), (39, .ifCond .eq 11, 3, [50], 0, 0), (42, .iload 6, 2, [], 0, 0), (44, .invokestatic 404, 3, [233, 1, 2, 0], 0, 1572),
  (47, .ifCond .ne 6, 3, [53], 0, 0), (50, .bipush (-2), 2, [], (-2), 0), (52, .ireturn, 1, [], 0, 0), (53, .aload_n 0, 1, [], 0, 0),
  (54, .getfield 360, 3, [12, 43, 0], 0, 1079), (57, .iload_n 1, 1, [], 0, 0), (58, .iadd, 1, [], 0, 0), (59, .bipush 60, 2, [], 60, 0),
  (61, .if_icmp .le 6, 3, [67], 0, 0), (64, .bipush (-4), 2, [], (-4), 0), (66, .ireturn, 1, [], 0, 0), (67, .iconst 0, 1, [], 0, 0),
  (68, .istore 7, 2, [], 0, 0), (70, .iload 7, 2, [], 0, 0), (72, .iload_n 1, 1, [], 0, 0), (73, .if_icmp .ge 71, 3, [144], 0, 0),
  (76, .aload_n 0, 1, [], 0, 0), (77, .getfield 99, 3, [12, 42, 2], 0, 1078), (80, .aload_n 0, 1, [], 0, 0), (81, .getfield 360, 3, [12, 43, 0], 0, 1079),
  (84, .iload 7, 2, [], 0, 0), (86, .ifCond .ne 7, 3, [93], 0, 0), (89, .iload_n 2, 1, [], 0, 0), (90, .goto 37, 3, [127], 0, 0),
  (93, .iload 7, 2, [], 0, 0), (95, .iconst 1, 1, [], 1, 0), (96, .if_icmp .ne 7, 3, [103], 0, 0), (99, .iload_n 3, 1, [], 0, 0),
  (100, .goto 27, 3, [127], 0, 0), (103, .iload 7, 2, [], 0, 0), (105, .iconst 2, 1, [], 2, 0), (106, .if_icmp .ne 8, 3, [114], 0, 0),
  (109, .iload 4, 2, [], 0, 0), (111, .goto 16, 3, [127], 0, 0), (114, .iload 7, 2, [], 0, 0), (116, .iconst 3, 1, [], 3, 0),
  (117, .if_icmp .ne 8, 3, [125], 0, 0), (120, .iload 5, 2, [], 0, 0), (122, .goto 5, 3, [127], 0, 0), (125, .iload 6, 2, [], 0, 0),
  (127, .iastore, 1, [], 0, 0), (128, .aload_n 0, 1, [], 0, 0), (129, .dup, 1, [], 0, 0), (130, .getfield 360, 3, [12, 43, 0], 0, 1079),
  (133, .iconst 1, 1, [], 1, 0), (134, .iadd, 1, [], 0, 0), (135, .putfield 360, 3, [12, 43, 0], 0, 1079), (138, .iinc 7 1, 3, [], 1, 0),
  (141, .goto (-71), 3, [70], 0, 0), (144, .aload_n 0, 1, [], 0, 0), (145, .getfield 360, 3, [12, 43, 0], 0, 1079), (148, .ireturn, 1, [], 0, 0)])
/-- 235: WordMonoidsModel.image()I -/
def m_Ref_image : mv_M := (1, 1, [
  (0, .aload_n 0, 1, [], 0, 0), (1, .getfield 9, 3, [12, 0, 2], 0, 1036), (4, .iconst 0, 1, [], 0, 0), (5, .aload_n 0, 1, [], 0, 0),
  (6, .getfield 13, 3, [12, 2, 2], 0, 1038), (9, .iconst 0, 1, [], 0, 0), (10, .bipush 45, 2, [], 45, 0), (12, .invokestatic 292, 3, [0, 0, 0, 3, 20], 0, 1437),
  (15, .aload_n 0, 1, [], 0, 0), (16, .aload_n 0, 1, [], 0, 0), (17, .getfield 120, 3, [12, 1, 0], 0, 1037), (20, .putfield 407, 3, [12, 3, 0], 0, 1039),
  (23, .aload_n 0, 1, [], 0, 0), (24, .iconst 1, 1, [], 1, 0), (25, .putfield 410, 3, [12, 4, 3], 0, 1040), (28, .aload_n 0, 1, [], 0, 0),
  (29, .getfield 120, 3, [12, 1, 0], 0, 1037), (32, .ireturn, 1, [], 0, 0)])
/-- 236: WordMonoidsModel.back()I -/
def m_Ref_back : mv_M := (1, 1, [
  (0, .aload_n 0, 1, [], 0, 0), (1, .getfield 410, 3, [12, 4, 3], 0, 1040), (4, .ifCond .ne 6, 3, [10], 0, 0), (7, .bipush (-3), 2, [], (-3), 0),
  (9, .ireturn, 1, [], 0, 0), (10, .aload_n 0, 1, [], 0, 0), (11, .getfield 13, 3, [12, 2, 2], 0, 1038), (14, .iconst 0, 1, [], 0, 0),
  (15, .aload_n 0, 1, [], 0, 0), (16, .getfield 9, 3, [12, 0, 2], 0, 1036), (19, .iconst 0, 1, [], 0, 0), (20, .bipush 45, 2, [], 45, 0),
  (22, .invokestatic 292, 3, [0, 0, 0, 3, 20], 0, 1437), (25, .aload_n 0, 1, [], 0, 0), (26, .aload_n 0, 1, [], 0, 0), (27, .getfield 407, 3, [12, 3, 0], 0, 1039),
  (30, .putfield 120, 3, [12, 1, 0], 0, 1037), (33, .aload_n 0, 1, [], 0, 0), (34, .iconst (-1), 1, [], (-1), 0), (35, .putfield 56, 3, [12, 23, 0], 0, 1059),
  (38, .aload_n 0, 1, [], 0, 0), (39, .getfield 120, 3, [12, 1, 0], 0, 1037), (42, .ireturn, 1, [], 0, 0)])
/-- 237: WordMonoidsModel.isSheet(I)Z -/
def m_Ref_isSheet : mv_M := (1, 2, [
  (0, .iload_n 0, 1, [], 0, 0), (1, .i2l, 1, [], 0, 0), (2, .lconst 0, 1, [], 0, 0), (3, .ldc2_w 136, 3, [], 0, 3),
  (6, .invokestatic 123, 3, [147, 3, 2, 0], 0, 1210), (9, .ireturn, 1, [], 0, 0)])
/-- 238: WordMonoidsModel.becomes(III)V -/
def m_Ref_becomes : mv_M := (5, 0, [
  (0, .aload_n 0, 1, [], 0, 0), (1, .getfield 111, 3, [12, 53, 2], 0, 1088), (4, .iload_n 1, 1, [], 0, 0), (5, .iload_n 2, 1, [], 0, 0),
  (6, .iastore, 1, [], 0, 0), (7, .aload_n 0, 1, [], 0, 0), (8, .getfield 114, 3, [12, 54, 2], 0, 1089), (11, .iload_n 1, 1, [], 0, 0),
  (12, .iload_n 3, 1, [], 0, 0), (13, .iastore, 1, [], 0, 0), (14, .iconst 0, 1, [], 0, 0), (15, .istore 4, 2, [], 0, 0),
  (17, .iload 4, 2, [], 0, 0), (19, .bipush 40, 2, [], 40, 0), (21, .if_icmp .ge 22, 3, [43], 0, 0), (24, .aload_n 0, 1, [], 0, 0),
  (25, .getfield 117, 3, [12, 55, 2], 0, 1090), (28, .bipush 40, 2, [], 40, 0), (30, .iload_n 1, 1, [], 0, 0), (31, .imul, 1, [], 0, 0),
  (32, .iload 4, 2, [], 0, 0), (34, .iadd, 1, [], 0, 0), (35, .iconst 0, 1, [], 0, 0), (36, .iastore, 1, [], 0, 0),
  (37, .iinc 4 1, 3, [], 1, 0), (40, .goto (-23), 3, [17], 0, 0), (43, .return_, 1, [], 0, 0)])
/-- 239: WordMonoidsModel.load(IIII)I -/
def m_Ref_load : mv_M := (10, 1, [
  (0, .iload_n 1, 1, [], 0, 0), (1, .invokestatic 394, 3, [237, 1, 2, 0], 0, 1556), (4, .ifCond .eq 22, 3, [26], 0, 0), (7, .iload_n 2, 1, [], 0, 0),
  (8, .i2l, 1, [], 0, 0), (9, .lconst 0, 1, [], 0, 0), (10, .lconst 1, 1, [], 0, 1), (11, .invokestatic 123, 3, [147, 3, 2, 0], 0, 1210),
  (14, .ifCond .eq 12, 3, [26], 0, 0), (17, .aload_n 0, 1, [], 0, 0), (18, .iload 4, 2, [], 0, 0), (20, .invokevirtual 151, 3, [149, 2, 2, 1, 12], 0, 1221),
  (23, .ifCond .ne 6, 3, [29], 0, 0), (26, .bipush (-2), 2, [], (-2), 0), (28, .ireturn, 1, [], 0, 0), (29, .aload_n 0, 1, [], 0, 0),
  (30, .getfield 111, 3, [12, 53, 2], 0, 1088), (33, .iload_n 1, 1, [], 0, 0), (34, .iaload, 1, [], 0, 0), (35, .iconst (-1), 1, [], (-1), 0),
  (36, .if_icmp .ne 6, 3, [42], 0, 0), (39, .bipush (-11), 2, [], (-11), 0), (41, .ireturn, 1, [], 0, 0), (42, .aload_n 0, 1, [], 0, 0),
  (43, .getfield 111, 3, [12, 53, 2], 0, 1088), (46, .iload_n 1, 1, [], 0, 0), (47, .iaload, 1, [], 0, 0), (48, .iload_n 2, 1, [], 0, 0),
  (49, .if_icmp .eq 6, 3, [55], 0, 0), (52, .bipush (-13), 2, [], (-13), 0), (54, .ireturn, 1, [], 0, 0), (55, .aload_n 0, 1, [], 0, 0),
  (56, .iconst (-1), 1, [], (-1), 0), (57, .putfield 56, 3, [12, 23, 0], 0, 1059), (60, .iconst 0, 1, [], 0, 0), (61, .istore 5, 2, [], 0, 0),
  (63, .iconst 0, 1, [], 0, 0), (64, .istore 6, 2, [], 0, 0), (66, .iload 6, 2, [], 0, 0), (68, .iconst 3, 1, [], 3, 0),
  (69, .aload_n 0, 1, [], 0, 0), (70, .iload 4, 2, [], 0, 0), (72, .invokevirtual 127, 3, [150, 2, 1, 1, 12], 0, 1229), (75, .imul, 1, [], 0, 0),
  (76, .if_icmp .ge 84, 3, [160], 0, 0), (79, .iload_n 3, 1, [], 0, 0), (80, .i2l, 1, [], 0, 0), (81, .iload 6, 2, [], 0, 0),
  (83, .i2l, 1, [], 0, 0), (84, .ladd, 1, [], 0, 0), (85, .lstore 7, 2, [], 0, 0), (87, .lload 7, 2, [], 0, 0),
  (89, .lconst 0, 1, [], 0, 0), (90, .aload_n 0, 1, [], 0, 0), (91, .getfield 114, 3, [12, 54, 2], 0, 1089), (94, .iload_n 1, 1, [], 0, 0),
  (95, .iaload, 1, [], 0, 0), (96, .i2l, 1, [], 0, 0), (97, .lconst 1, 1, [], 0, 1), (98, .lsub, 1, [], 0, 0),
  (99, .invokestatic 123, 3, [147, 3, 2, 0], 0, 1210), (102, .ifCond .ne 6, 3, [108], 0, 0), (105, .bipush (-12), 2, [], (-12), 0), (107, .ireturn, 1, [], 0, 0),
  (108, .aload_n 0, 1, [], 0, 0), (109, .getfield 117, 3, [12, 55, 2], 0, 1090), (112, .bipush 40, 2, [], 40, 0), (114, .iload_n 1, 1, [], 0, 0),
  (115, .imul, 1, [], 0, 0), (116, .lload 7, 2, [], 0, 0), (118, .l2i, 1, [], 0, 0), (119, .iadd, 1, [], 0, 0),
  (120, .iaload, 1, [], 0, 0), (121, .istore 9, 2, [], 0, 0), (123, .aload_n 0, 1, [], 0, 0), (124, .iload 4, 2, [], 0, 0),
  (126, .iload 9, 2, [], 0, 0), (128, .invokevirtual 155, 3, [151, 3, 2, 1, 12], 0, 1225), (131, .ifCond .eq 23, 3, [154], 0, 0), (134, .aload_n 0, 1, [], 0, 0),
  (135, .getfield 9, 3, [12, 0, 2], 0, 1036), (138, .bipush 15, 2, [], 15, 0), (140, .iload 4, 2, [], 0, 0), (142, .imul, 1, [], 0, 0),
  (143, .iconst 3, 1, [], 3, 0), (144, .iadd, 1, [], 0, 0), (145, .iload 6, 2, [], 0, 0), (147, .iadd, 1, [], 0, 0),
  (148, .iload 9, 2, [], 0, 0), (150, .iastore, 1, [], 0, 0), (151, .iinc 5 1, 3, [], 1, 0), (154, .iinc 6 1, 3, [], 1, 0),
  (157, .goto (-91), 3, [66], 0, 0), (160, .iload 5, 2, [], 0, 0), (162, .ireturn, 1, [], 0, 0)])
/-- 240: WordMonoidsModel.count(I)I -/
def m_Ref_count : mv_M := (4, 1, [
  (0, .iload_n 1, 1, [], 0, 0), (1, .tableswitch 74 0 3 #[31, 36, 41, 46], 31, [75, 32, 37, 42, 47], 0, 0), (32, .aload_n 0, 1, [], 0, 0), (33, .getfield 120, 3, [12, 1, 0], 0, 1037),
  (36, .ireturn, 1, [], 0, 0), (37, .aload_n 0, 1, [], 0, 0), (38, .getfield 354, 3, [12, 41, 0], 0, 1077), (41, .ireturn, 1, [], 0, 0),
  (42, .aload_n 0, 1, [], 0, 0), (43, .getfield 360, 3, [12, 43, 0], 0, 1079), (46, .ireturn, 1, [], 0, 0), (47, .iconst 0, 1, [], 0, 0),
  (48, .istore_n 2, 1, [], 0, 0), (49, .iconst 0, 1, [], 0, 0), (50, .istore_n 3, 1, [], 0, 0), (51, .iload_n 3, 1, [], 0, 0),
  (52, .aload_n 0, 1, [], 0, 0), (53, .getfield 120, 3, [12, 1, 0], 0, 1037), (56, .if_icmp .ge 17, 3, [73], 0, 0), (59, .iload_n 2, 1, [], 0, 0),
  (60, .aload_n 0, 1, [], 0, 0), (61, .iload_n 3, 1, [], 0, 0), (62, .invokevirtual 127, 3, [150, 2, 1, 1, 12], 0, 1229), (65, .iadd, 1, [], 0, 0),
  (66, .istore_n 2, 1, [], 0, 0), (67, .iinc 3 1, 3, [], 1, 0), (70, .goto (-19), 3, [51], 0, 0), (73, .iload_n 2, 1, [], 0, 0),
  (74, .ireturn, 1, [], 0, 0), (75, .bipush (-2), 2, [], (-2), 0), (77, .ireturn, 1, [], 0, 0)])
/-- 241: WordMonoidsModel.sheet(III)I -/
def m_Ref_sheet : mv_M := (4, 1, [
  (0, .iload_n 1, 1, [], 0, 0), (1, .invokestatic 394, 3, [237, 1, 2, 0], 0, 1556), (4, .ifCond .eq 26, 3, [30], 0, 0), (7, .iload_n 2, 1, [], 0, 0),
  (8, .i2l, 1, [], 0, 0), (9, .ldc2_w 300, 3, [], 0, (-1)), (12, .lconst 1, 1, [], 0, 1), (13, .invokestatic 123, 3, [147, 3, 2, 0], 0, 1210),
  (16, .ifCond .eq 14, 3, [30], 0, 0), (19, .iload_n 2, 1, [], 0, 0), (20, .iconst (-1), 1, [], (-1), 0), (21, .if_icmp .eq 12, 3, [33], 0, 0),
  (24, .iload_n 3, 1, [], 0, 0), (25, .bipush 40, 2, [], 40, 0), (27, .if_icmp .le 6, 3, [33], 0, 0), (30, .bipush (-2), 2, [], (-2), 0),
  (32, .ireturn, 1, [], 0, 0), (33, .iload_n 2, 1, [], 0, 0), (34, .iconst (-1), 1, [], (-1), 0), (35, .if_icmp .eq 10, 3, [45], 0, 0),
  (38, .iload_n 3, 1, [], 0, 0), (39, .ifCond .ge 6, 3, [45], 0, 0), (42, .bipush (-14), 2, [], (-14), 0), (44, .ireturn, 1, [], 0, 0),
  (45, .aload_n 0, 1, [], 0, 0), (46, .iload_n 1, 1, [], 0, 0), (47, .iload_n 2, 1, [], 0, 0), (48, .iload_n 2, 1, [], 0, 0),
  (49, .iconst (-1), 1, [], (-1), 0), (50, .if_icmp .ne 7, 3, [57], 0, 0), (53, .iconst 0, 1, [], 0, 0), (54, .goto 4, 3, [58], 0, 0),
  (57, .iload_n 3, 1, [], 0, 0), (58, .invokevirtual 399, 3, [238, 4, 0, 1, 12], 0, 1564), (61, .iconst 1, 1, [], 1, 0), (62, .ireturn, 1, [], 0, 0)])
/-- 242: WordMonoidsModel.put(III)I -/
def m_Ref_put : mv_M := (4, 1, [
  (0, .iload_n 1, 1, [], 0, 0), (1, .invokestatic 394, 3, [237, 1, 2, 0], 0, 1556), (4, .ifCond .ne 6, 3, [10], 0, 0), (7, .bipush (-2), 2, [], (-2), 0),
  (9, .ireturn, 1, [], 0, 0), (10, .aload_n 0, 1, [], 0, 0), (11, .getfield 111, 3, [12, 53, 2], 0, 1088), (14, .iload_n 1, 1, [], 0, 0),
  (15, .iaload, 1, [], 0, 0), (16, .iconst (-1), 1, [], (-1), 0), (17, .if_icmp .ne 6, 3, [23], 0, 0), (20, .bipush (-11), 2, [], (-11), 0),
  (22, .ireturn, 1, [], 0, 0), (23, .iload_n 2, 1, [], 0, 0), (24, .i2l, 1, [], 0, 0), (25, .lconst 0, 1, [], 0, 0),
  (26, .aload_n 0, 1, [], 0, 0), (27, .getfield 114, 3, [12, 54, 2], 0, 1089), (30, .iload_n 1, 1, [], 0, 0), (31, .iaload, 1, [], 0, 0),
  (32, .iconst 1, 1, [], 1, 0), (33, .isub, 1, [], 0, 0), (34, .i2l, 1, [], 0, 0), (35, .invokestatic 123, 3, [147, 3, 2, 0], 0, 1210),
  (38, .ifCond .ne 6, 3, [44], 0, 0), (41, .bipush (-12), 2, [], (-12), 0), (43, .ireturn, 1, [], 0, 0), (44, .aload_n 0, 1, [], 0, 0),
  (45, .getfield 117, 3, [12, 55, 2], 0, 1090), (48, .bipush 40, 2, [], 40, 0), (50, .iload_n 1, 1, [], 0, 0), (51, .imul, 1, [], 0, 0),
  (52, .iload_n 2, 1, [], 0, 0), (53, .iadd, 1, [], 0, 0), (54, .aload_n 0, 1, [], 0, 0), (55, .getfield 111, 3, [12, 53, 2], 0, 1088),
  (58, .iload_n 1, 1, [], 0, 0), (59, .iaload, 1, [], 0, 0), (60, .ifCond .ne 8, 3, [68], 0, 0), (63, .iload_n 3, 1, [], 0, 0),
  (64, .i2s, 1, [], 0, 0), (65, .goto 4, 3, [69], 0, 0), (68, .iload_n 3, 1, [], 0, 0), (69, .iastore, 1, [], 0, 0),
  (70, .iconst 1, 1, [], 1, 0), (71, .ireturn, 1, [], 0, 0)])
/-- 243: WordMonoidsModel.copy(IIIII)I -/
def m_Ref_copy : mv_M := (6, 1, [
  (0, .iload_n 1, 1, [], 0, 0), (1, .invokestatic 394, 3, [237, 1, 2, 0], 0, 1556), (4, .ifCond .eq 10, 3, [14], 0, 0), (7, .iload_n 3, 1, [], 0, 0),
  (8, .invokestatic 394, 3, [237, 1, 2, 0], 0, 1556), (11, .ifCond .ne 6, 3, [17], 0, 0), (14, .bipush (-2), 2, [], (-2), 0), (16, .ireturn, 1, [], 0, 0),
  (17, .aload_n 0, 1, [], 0, 0), (18, .getfield 111, 3, [12, 53, 2], 0, 1088), (21, .iload_n 1, 1, [], 0, 0), (22, .iaload, 1, [], 0, 0),
  (23, .iconst (-1), 1, [], (-1), 0), (24, .if_icmp .eq 13, 3, [37], 0, 0), (27, .aload_n 0, 1, [], 0, 0), (28, .getfield 111, 3, [12, 53, 2], 0, 1088),
  (31, .iload_n 3, 1, [], 0, 0), (32, .iaload, 1, [], 0, 0), (33, .iconst (-1), 1, [], (-1), 0), (34, .if_icmp .ne 6, 3, [40], 0, 0),
  (37, .bipush (-11), 2, [], (-11), 0), (39, .ireturn, 1, [], 0, 0), (40, .aload_n 0, 1, [], 0, 0), (41, .getfield 111, 3, [12, 53, 2], 0, 1088),
  (44, .iload_n 1, 1, [], 0, 0), (45, .iaload, 1, [], 0, 0), (46, .aload_n 0, 1, [], 0, 0), (47, .getfield 111, 3, [12, 53, 2], 0, 1088),
  (50, .iload_n 3, 1, [], 0, 0), (51, .iaload, 1, [], 0, 0), (52, .if_icmp .eq 6, 3, [58], 0, 0), (55, .bipush (-13), 2, [], (-13), 0),
  (57, .ireturn, 1, [], 0, 0), (58, .iload 5, 2, [], 0, 0), (60, .ifCond .lt 39, 3, [99], 0, 0), (63, .iload_n 2, 1, [], 0, 0),
  (64, .ifCond .lt 35, 3, [99], 0, 0), (67, .iload 4, 2, [], 0, 0), (69, .ifCond .lt 30, 3, [99], 0, 0), (72, .iload_n 2, 1, [], 0, 0),
  (73, .aload_n 0, 1, [], 0, 0), (74, .getfield 114, 3, [12, 54, 2], 0, 1089), (77, .iload_n 1, 1, [], 0, 0), (78, .iaload, 1, [], 0, 0),
  (79, .iload 5, 2, [], 0, 0), (81, .isub, 1, [], 0, 0), (82, .if_icmp .gt 17, 3, [99], 0, 0), (85, .iload 4, 2, [], 0, 0),
  (87, .aload_n 0, 1, [], 0, 0), (88, .getfield 114, 3, [12, 54, 2], 0, 1089), (91, .iload_n 3, 1, [], 0, 0), (92, .iaload, 1, [], 0, 0),
  (93, .iload 5, 2, [], 0, 0), (95, .isub, 1, [], 0, 0), (96, .if_icmp .le 6, 3, [102], 0, 0), (99, .bipush (-12), 2, [], (-12), 0),
  (101, .ireturn, 1, [], 0, 0), (102, .aload_n 0, 1, [], 0, 0), (103, .getfield 117, 3, [12, 55, 2], 0, 1090), (106, .bipush 40, 2, [], 40, 0),
  (108, .iload_n 1, 1, [], 0, 0), (109, .imul, 1, [], 0, 0), (110, .iload_n 2, 1, [], 0, 0), (111, .iadd, 1, [], 0, 0),
  (112, .aload_n 0, 1, [], 0, 0), (113, .getfield 117, 3, [12, 55, 2], 0, 1090), (116, .bipush 40, 2, [], 40, 0), (118, .iload_n 3, 1, [], 0, 0),
  (119, .imul, 1, [], 0, 0), (120, .iload 4, 2, [], 0, 0), (122, .iadd, 1, [], 0, 0), (123, .iload 5, 2, [], 0, 0),
  (125, .invokestatic 292, 3, [0, 0, 0, 3, 20], 0, 1437), (128, .iload 5, 2, [], 0, 0), (130, .ireturn, 1, [], 0, 0)])
/-- 244: WordMonoidsLaw.law([I)Z -/
def m_law_1 : List (Nat × mv_I) := [
  (18, .iload_n 3, 1, [], 0, 0), (19, .aload_n 0, 1, [], 0, 0), (20, .arraylength, 1, [], 0, 0), (21, .bipush 7, 2, [], 7, 0),
  (23, .isub, 1, [], 0, 0), (24, .if_icmp .gt 1609, 3, [1633], 0, 0), (27, .aload_n 0, 1, [], 0, 0), (28, .iload_n 3, 1, [], 0, 0),
  (29, .iaload, 1, [], 0, 0), (30, .bipush 63, 2, [], 63, 0), (32, .iand, 1, [], 0, 0), (33, .tableswitch 1594 0 37 #[167, 190, 203, 256, 289, 322, 355, 388, 431, 454, 477, 520, 553, 596, 639, 692, 725, 748, 791, 824, 867, 911, 924, 947, 980, 1023, 1066, 1109, 1172, 1215, 1268, 1343, 1356, 1369, 1422, 1445, 1488, 1531], 167, [1627, 200, 223, 236, 289, 322, 355, 388, 421, 464, 487, 510, 553, 586, 629, 672, 725, 758, 781, 824, 857, 900, 944, 957, 980, 1013, 1056, 1099, 1142, 1205, 1248, 1301, 1376, 1389, 1402, 1455, 1478, 1521, 1564], 0, 0),
  (200, .aload_n 1, 1, [], 0, 0), (201, .aload_n 0, 1, [], 0, 0), (202, .iload_n 3, 1, [], 0, 0), (203, .iconst 1, 1, [], 1, 0),
  (204, .iadd, 1, [], 0, 0), (205, .iaload, 1, [], 0, 0), (206, .invokevirtual 13, 3, [97, 2, 1, 1, 11], 0, 411), (209, .aload_n 2, 1, [], 0, 0),
  (210, .aload_n 0, 1, [], 0, 0), (211, .iload_n 3, 1, [], 0, 0), (212, .iconst 1, 1, [], 1, 0), (213, .iadd, 1, [], 0, 0),
  (214, .iaload, 1, [], 0, 0), (215, .invokevirtual 17, 3, [161, 2, 1, 1, 12], 0, 1205), (218, .if_icmp .eq 1409, 3, [1627], 0, 0), (221, .iconst 0, 1, [], 0, 0),
  (222, .ireturn, 1, [], 0, 0), (223, .aload_n 1, 1, [], 0, 0), (224, .invokevirtual 18, 3, [98, 1, 1, 1, 11], 0, 419), (227, .aload_n 2, 1, [], 0, 0),
  (228, .invokevirtual 22, 3, [162, 1, 1, 1, 12], 0, 1213), (231, .if_icmp .eq 1396, 3, [1627], 0, 0), (234, .iconst 0, 1, [], 0, 0), (235, .ireturn, 1, [], 0, 0),
  (236, .aload_n 1, 1, [], 0, 0), (237, .aload_n 0, 1, [], 0, 0), (238, .iload_n 3, 1, [], 0, 0), (239, .iconst 1, 1, [], 1, 0),
  (240, .iadd, 1, [], 0, 0), (241, .iaload, 1, [], 0, 0), (242, .aload_n 0, 1, [], 0, 0), (243, .iload_n 3, 1, [], 0, 0),
  (244, .iconst 2, 1, [], 2, 0), (245, .iadd, 1, [], 0, 0), (246, .iaload, 1, [], 0, 0), (247, .aload_n 0, 1, [], 0, 0),
  (248, .iload_n 3, 1, [], 0, 0), (249, .iconst 3, 1, [], 3, 0), (250, .iadd, 1, [], 0, 0), (251, .iaload, 1, [], 0, 0),
  (252, .aload_n 0, 1, [], 0, 0), (253, .iload_n 3, 1, [], 0, 0), (254, .iconst 4, 1, [], 4, 0), (255, .iadd, 1, [], 0, 0),
  (256, .iaload, 1, [], 0, 0), (257, .invokevirtual 23, 3, [99, 5, 1, 1, 11], 0, 423), (260, .aload_n 2, 1, [], 0, 0), (261, .aload_n 0, 1, [], 0, 0),
  (262, .iload_n 3, 1, [], 0, 0), (263, .iconst 1, 1, [], 1, 0), (264, .iadd, 1, [], 0, 0), (265, .iaload, 1, [], 0, 0)]
def m_law_2 : List (Nat × mv_I) := [
  (266, .aload_n 0, 1, [], 0, 0), (267, .iload_n 3, 1, [], 0, 0), (268, .iconst 2, 1, [], 2, 0), (269, .iadd, 1, [], 0, 0),
  (270, .iaload, 1, [], 0, 0), (271, .aload_n 0, 1, [], 0, 0), (272, .iload_n 3, 1, [], 0, 0), (273, .iconst 3, 1, [], 3, 0),
  (274, .iadd, 1, [], 0, 0), (275, .iaload, 1, [], 0, 0), (276, .aload_n 0, 1, [], 0, 0), (277, .iload_n 3, 1, [], 0, 0),
  (278, .iconst 4, 1, [], 4, 0), (279, .iadd, 1, [], 0, 0), (280, .iaload, 1, [], 0, 0), (281, .invokevirtual 27, 3, [163, 5, 1, 1, 12], 0, 1217),
  (284, .if_icmp .eq 1343, 3, [1627], 0, 0), (287, .iconst 0, 1, [], 0, 0), (288, .ireturn, 1, [], 0, 0), (289, .aload_n 1, 1, [], 0, 0),
  (290, .aload_n 0, 1, [], 0, 0), (291, .iload_n 3, 1, [], 0, 0), (292, .iconst 1, 1, [], 1, 0), (293, .iadd, 1, [], 0, 0),
  (294, .iaload, 1, [], 0, 0), (295, .aload_n 0, 1, [], 0, 0), (296, .iload_n 3, 1, [], 0, 0), (297, .iconst 2, 1, [], 2, 0),
  (298, .iadd, 1, [], 0, 0), (299, .iaload, 1, [], 0, 0), (300, .invokevirtual 28, 3, [100, 3, 1, 1, 11], 0, 446), (303, .aload_n 2, 1, [], 0, 0),
  (304, .aload_n 0, 1, [], 0, 0), (305, .iload_n 3, 1, [], 0, 0), (306, .iconst 1, 1, [], 1, 0), (307, .iadd, 1, [], 0, 0),
  (308, .iaload, 1, [], 0, 0), (309, .aload_n 0, 1, [], 0, 0), (310, .iload_n 3, 1, [], 0, 0), (311, .iconst 2, 1, [], 2, 0),
  (312, .iadd, 1, [], 0, 0), (313, .iaload, 1, [], 0, 0), (314, .invokevirtual 32, 3, [164, 3, 1, 1, 12], 0, 1241), (317, .if_icmp .eq 1310, 3, [1627], 0, 0),
  (320, .iconst 0, 1, [], 0, 0), (321, .ireturn, 1, [], 0, 0), (322, .aload_n 1, 1, [], 0, 0), (323, .aload_n 0, 1, [], 0, 0),
  (324, .iload_n 3, 1, [], 0, 0), (325, .iconst 1, 1, [], 1, 0), (326, .iadd, 1, [], 0, 0), (327, .iaload, 1, [], 0, 0),
  (328, .aload_n 0, 1, [], 0, 0), (329, .iload_n 3, 1, [], 0, 0), (330, .iconst 2, 1, [], 2, 0), (331, .iadd, 1, [], 0, 0),
  (332, .iaload, 1, [], 0, 0), (333, .invokevirtual 33, 3, [101, 3, 1, 1, 11], 0, 454), (336, .aload_n 2, 1, [], 0, 0), (337, .aload_n 0, 1, [], 0, 0),
  (338, .iload_n 3, 1, [], 0, 0), (339, .iconst 1, 1, [], 1, 0), (340, .iadd, 1, [], 0, 0), (341, .iaload, 1, [], 0, 0)]
def m_law_3 : List (Nat × mv_I) := [
  (342, .aload_n 0, 1, [], 0, 0), (343, .iload_n 3, 1, [], 0, 0), (344, .iconst 2, 1, [], 2, 0), (345, .iadd, 1, [], 0, 0),
  (346, .iaload, 1, [], 0, 0), (347, .invokevirtual 36, 3, [165, 3, 1, 1, 12], 0, 1245), (350, .if_icmp .eq 1277, 3, [1627], 0, 0), (353, .iconst 0, 1, [], 0, 0),
  (354, .ireturn, 1, [], 0, 0), (355, .aload_n 1, 1, [], 0, 0), (356, .aload_n 0, 1, [], 0, 0), (357, .iload_n 3, 1, [], 0, 0),
  (358, .iconst 1, 1, [], 1, 0), (359, .iadd, 1, [], 0, 0), (360, .iaload, 1, [], 0, 0), (361, .aload_n 0, 1, [], 0, 0),
  (362, .iload_n 3, 1, [], 0, 0), (363, .iconst 2, 1, [], 2, 0), (364, .iadd, 1, [], 0, 0), (365, .iaload, 1, [], 0, 0),
  (366, .invokevirtual 37, 3, [102, 3, 1, 1, 11], 0, 458), (369, .aload_n 2, 1, [], 0, 0), (370, .aload_n 0, 1, [], 0, 0), (371, .iload_n 3, 1, [], 0, 0),
  (372, .iconst 1, 1, [], 1, 0), (373, .iadd, 1, [], 0, 0), (374, .iaload, 1, [], 0, 0), (375, .aload_n 0, 1, [], 0, 0),
  (376, .iload_n 3, 1, [], 0, 0), (377, .iconst 2, 1, [], 2, 0), (378, .iadd, 1, [], 0, 0), (379, .iaload, 1, [], 0, 0),
  (380, .invokevirtual 40, 3, [166, 3, 1, 1, 12], 0, 1253), (383, .if_icmp .eq 1244, 3, [1627], 0, 0), (386, .iconst 0, 1, [], 0, 0), (387, .ireturn, 1, [], 0, 0),
  (388, .aload_n 1, 1, [], 0, 0), (389, .aload_n 0, 1, [], 0, 0), (390, .iload_n 3, 1, [], 0, 0), (391, .iconst 1, 1, [], 1, 0),
  (392, .iadd, 1, [], 0, 0), (393, .iaload, 1, [], 0, 0), (394, .aload_n 0, 1, [], 0, 0), (395, .iload_n 3, 1, [], 0, 0),
  (396, .iconst 2, 1, [], 2, 0), (397, .iadd, 1, [], 0, 0), (398, .iaload, 1, [], 0, 0), (399, .invokevirtual 41, 3, [103, 3, 1, 1, 11], 0, 537),
  (402, .aload_n 2, 1, [], 0, 0), (403, .aload_n 0, 1, [], 0, 0), (404, .iload_n 3, 1, [], 0, 0), (405, .iconst 1, 1, [], 1, 0),
  (406, .iadd, 1, [], 0, 0), (407, .iaload, 1, [], 0, 0), (408, .aload_n 0, 1, [], 0, 0), (409, .iload_n 3, 1, [], 0, 0),
  (410, .iconst 2, 1, [], 2, 0), (411, .iadd, 1, [], 0, 0), (412, .iaload, 1, [], 0, 0), (413, .invokevirtual 44, 3, [167, 3, 1, 1, 12], 0, 1277),
  (416, .if_icmp .eq 1211, 3, [1627], 0, 0), (419, .iconst 0, 1, [], 0, 0), (420, .ireturn, 1, [], 0, 0), (421, .aload_n 1, 1, [], 0, 0)]
def m_law_4 : List (Nat × mv_I) := [
  (422, .aload_n 0, 1, [], 0, 0), (423, .iload_n 3, 1, [], 0, 0), (424, .iconst 1, 1, [], 1, 0), (425, .iadd, 1, [], 0, 0),
  (426, .iaload, 1, [], 0, 0), (427, .aload_n 0, 1, [], 0, 0), (428, .iload_n 3, 1, [], 0, 0), (429, .iconst 2, 1, [], 2, 0),
  (430, .iadd, 1, [], 0, 0), (431, .iaload, 1, [], 0, 0), (432, .aload_n 0, 1, [], 0, 0), (433, .iload_n 3, 1, [], 0, 0),
  (434, .iconst 3, 1, [], 3, 0), (435, .iadd, 1, [], 0, 0), (436, .iaload, 1, [], 0, 0), (437, .invokevirtual 45, 3, [104, 4, 1, 1, 11], 0, 555),
  (440, .aload_n 2, 1, [], 0, 0), (441, .aload_n 0, 1, [], 0, 0), (442, .iload_n 3, 1, [], 0, 0), (443, .iconst 1, 1, [], 1, 0),
  (444, .iadd, 1, [], 0, 0), (445, .iaload, 1, [], 0, 0), (446, .aload_n 0, 1, [], 0, 0), (447, .iload_n 3, 1, [], 0, 0),
  (448, .iconst 2, 1, [], 2, 0), (449, .iadd, 1, [], 0, 0), (450, .iaload, 1, [], 0, 0), (451, .aload_n 0, 1, [], 0, 0),
  (452, .iload_n 3, 1, [], 0, 0), (453, .iconst 3, 1, [], 3, 0), (454, .iadd, 1, [], 0, 0), (455, .iaload, 1, [], 0, 0),
  (456, .invokevirtual 49, 3, [168, 4, 1, 1, 12], 0, 1290), (459, .if_icmp .eq 1168, 3, [1627], 0, 0), (462, .iconst 0, 1, [], 0, 0), (463, .ireturn, 1, [], 0, 0),
  (464, .aload_n 1, 1, [], 0, 0), (465, .aload_n 0, 1, [], 0, 0), (466, .iload_n 3, 1, [], 0, 0), (467, .iconst 1, 1, [], 1, 0),
  (468, .iadd, 1, [], 0, 0), (469, .iaload, 1, [], 0, 0), (470, .invokevirtual 50, 3, [105, 2, 1, 1, 11], 0, 563), (473, .aload_n 2, 1, [], 0, 0),
  (474, .aload_n 0, 1, [], 0, 0), (475, .iload_n 3, 1, [], 0, 0), (476, .iconst 1, 1, [], 1, 0), (477, .iadd, 1, [], 0, 0),
  (478, .iaload, 1, [], 0, 0), (479, .invokevirtual 53, 3, [169, 2, 1, 1, 12], 0, 1294), (482, .if_icmp .eq 1145, 3, [1627], 0, 0), (485, .iconst 0, 1, [], 0, 0),
  (486, .ireturn, 1, [], 0, 0), (487, .aload_n 1, 1, [], 0, 0), (488, .aload_n 0, 1, [], 0, 0), (489, .iload_n 3, 1, [], 0, 0),
  (490, .iconst 1, 1, [], 1, 0), (491, .iadd, 1, [], 0, 0), (492, .iaload, 1, [], 0, 0), (493, .invokevirtual 54, 3, [106, 2, 1, 1, 11], 0, 567),
  (496, .aload_n 2, 1, [], 0, 0), (497, .aload_n 0, 1, [], 0, 0), (498, .iload_n 3, 1, [], 0, 0), (499, .iconst 1, 1, [], 1, 0)]
def m_law_5 : List (Nat × mv_I) := [
  (500, .iadd, 1, [], 0, 0), (501, .iaload, 1, [], 0, 0), (502, .invokevirtual 57, 3, [182, 2, 1, 1, 12], 0, 1298), (505, .if_icmp .eq 1122, 3, [1627], 0, 0),
  (508, .iconst 0, 1, [], 0, 0), (509, .ireturn, 1, [], 0, 0), (510, .aload_n 1, 1, [], 0, 0), (511, .aload_n 0, 1, [], 0, 0),
  (512, .iload_n 3, 1, [], 0, 0), (513, .iconst 1, 1, [], 1, 0), (514, .iadd, 1, [], 0, 0), (515, .iaload, 1, [], 0, 0),
  (516, .aload_n 0, 1, [], 0, 0), (517, .iload_n 3, 1, [], 0, 0), (518, .iconst 2, 1, [], 2, 0), (519, .iadd, 1, [], 0, 0),
  (520, .iaload, 1, [], 0, 0), (521, .aload_n 0, 1, [], 0, 0), (522, .iload_n 3, 1, [], 0, 0), (523, .iconst 3, 1, [], 3, 0),
  (524, .iadd, 1, [], 0, 0), (525, .iaload, 1, [], 0, 0), (526, .invokevirtual 58, 3, [107, 4, 1, 1, 11], 0, 575), (529, .aload_n 2, 1, [], 0, 0),
  (530, .aload_n 0, 1, [], 0, 0), (531, .iload_n 3, 1, [], 0, 0), (532, .iconst 1, 1, [], 1, 0), (533, .iadd, 1, [], 0, 0),
  (534, .iaload, 1, [], 0, 0), (535, .aload_n 0, 1, [], 0, 0), (536, .iload_n 3, 1, [], 0, 0), (537, .iconst 2, 1, [], 2, 0),
  (538, .iadd, 1, [], 0, 0), (539, .iaload, 1, [], 0, 0), (540, .aload_n 0, 1, [], 0, 0), (541, .iload_n 3, 1, [], 0, 0),
  (542, .iconst 3, 1, [], 3, 0), (543, .iadd, 1, [], 0, 0), (544, .iaload, 1, [], 0, 0), (545, .invokevirtual 61, 3, [184, 4, 1, 1, 12], 0, 1317),
  (548, .if_icmp .eq 1079, 3, [1627], 0, 0), (551, .iconst 0, 1, [], 0, 0), (552, .ireturn, 1, [], 0, 0), (553, .aload_n 1, 1, [], 0, 0),
  (554, .aload_n 0, 1, [], 0, 0), (555, .iload_n 3, 1, [], 0, 0), (556, .iconst 1, 1, [], 1, 0), (557, .iadd, 1, [], 0, 0),
  (558, .iaload, 1, [], 0, 0), (559, .aload_n 0, 1, [], 0, 0), (560, .iload_n 3, 1, [], 0, 0), (561, .iconst 2, 1, [], 2, 0),
  (562, .iadd, 1, [], 0, 0), (563, .iaload, 1, [], 0, 0), (564, .invokevirtual 62, 3, [108, 3, 1, 1, 11], 0, 592), (567, .aload_n 2, 1, [], 0, 0),
  (568, .aload_n 0, 1, [], 0, 0), (569, .iload_n 3, 1, [], 0, 0), (570, .iconst 1, 1, [], 1, 0), (571, .iadd, 1, [], 0, 0),
  (572, .iaload, 1, [], 0, 0), (573, .aload_n 0, 1, [], 0, 0), (574, .iload_n 3, 1, [], 0, 0), (575, .iconst 2, 1, [], 2, 0)]
def m_law_6 : List (Nat × mv_I) := [
  (576, .iadd, 1, [], 0, 0), (577, .iaload, 1, [], 0, 0), (578, .invokevirtual 65, 3, [185, 3, 1, 1, 12], 0, 1329), (581, .if_icmp .eq 1046, 3, [1627], 0, 0),
  (584, .iconst 0, 1, [], 0, 0), (585, .ireturn, 1, [], 0, 0), (586, .aload_n 1, 1, [], 0, 0), (587, .aload_n 0, 1, [], 0, 0),
  (588, .iload_n 3, 1, [], 0, 0), (589, .iconst 1, 1, [], 1, 0), (590, .iadd, 1, [], 0, 0), (591, .iaload, 1, [], 0, 0),
  (592, .aload_n 0, 1, [], 0, 0), (593, .iload_n 3, 1, [], 0, 0), (594, .iconst 2, 1, [], 2, 0), (595, .iadd, 1, [], 0, 0),
  (596, .iaload, 1, [], 0, 0), (597, .aload_n 0, 1, [], 0, 0), (598, .iload_n 3, 1, [], 0, 0), (599, .iconst 3, 1, [], 3, 0),
  (600, .iadd, 1, [], 0, 0), (601, .iaload, 1, [], 0, 0), (602, .invokevirtual 66, 3, [109, 4, 1, 1, 11], 0, 599), (605, .aload_n 2, 1, [], 0, 0),
  (606, .aload_n 0, 1, [], 0, 0), (607, .iload_n 3, 1, [], 0, 0), (608, .iconst 1, 1, [], 1, 0), (609, .iadd, 1, [], 0, 0),
  (610, .iaload, 1, [], 0, 0), (611, .aload_n 0, 1, [], 0, 0), (612, .iload_n 3, 1, [], 0, 0), (613, .iconst 2, 1, [], 2, 0),
  (614, .iadd, 1, [], 0, 0), (615, .iaload, 1, [], 0, 0), (616, .aload_n 0, 1, [], 0, 0), (617, .iload_n 3, 1, [], 0, 0),
  (618, .iconst 3, 1, [], 3, 0), (619, .iadd, 1, [], 0, 0), (620, .iaload, 1, [], 0, 0), (621, .invokevirtual 69, 3, [186, 4, 1, 1, 12], 0, 1333),
  (624, .if_icmp .eq 1003, 3, [1627], 0, 0), (627, .iconst 0, 1, [], 0, 0), (628, .ireturn, 1, [], 0, 0), (629, .aload_n 1, 1, [], 0, 0),
  (630, .aload_n 0, 1, [], 0, 0), (631, .iload_n 3, 1, [], 0, 0), (632, .iconst 1, 1, [], 1, 0), (633, .iadd, 1, [], 0, 0),
  (634, .iaload, 1, [], 0, 0), (635, .aload_n 0, 1, [], 0, 0), (636, .iload_n 3, 1, [], 0, 0), (637, .iconst 2, 1, [], 2, 0),
  (638, .iadd, 1, [], 0, 0), (639, .iaload, 1, [], 0, 0), (640, .aload_n 0, 1, [], 0, 0), (641, .iload_n 3, 1, [], 0, 0),
  (642, .iconst 3, 1, [], 3, 0), (643, .iadd, 1, [], 0, 0), (644, .iaload, 1, [], 0, 0), (645, .invokevirtual 70, 3, [110, 4, 1, 1, 11], 0, 608),
  (648, .aload_n 2, 1, [], 0, 0), (649, .aload_n 0, 1, [], 0, 0), (650, .iload_n 3, 1, [], 0, 0), (651, .iconst 1, 1, [], 1, 0)]
def m_law_7 : List (Nat × mv_I) := [
  (652, .iadd, 1, [], 0, 0), (653, .iaload, 1, [], 0, 0), (654, .aload_n 0, 1, [], 0, 0), (655, .iload_n 3, 1, [], 0, 0),
  (656, .iconst 2, 1, [], 2, 0), (657, .iadd, 1, [], 0, 0), (658, .iaload, 1, [], 0, 0), (659, .aload_n 0, 1, [], 0, 0),
  (660, .iload_n 3, 1, [], 0, 0), (661, .iconst 3, 1, [], 3, 0), (662, .iadd, 1, [], 0, 0), (663, .iaload, 1, [], 0, 0),
  (664, .invokevirtual 73, 3, [188, 4, 1, 1, 12], 0, 1341), (667, .if_icmp .eq 960, 3, [1627], 0, 0), (670, .iconst 0, 1, [], 0, 0), (671, .ireturn, 1, [], 0, 0),
  (672, .aload_n 1, 1, [], 0, 0), (673, .aload_n 0, 1, [], 0, 0), (674, .iload_n 3, 1, [], 0, 0), (675, .iconst 1, 1, [], 1, 0),
  (676, .iadd, 1, [], 0, 0), (677, .iaload, 1, [], 0, 0), (678, .aload_n 0, 1, [], 0, 0), (679, .iload_n 3, 1, [], 0, 0),
  (680, .iconst 2, 1, [], 2, 0), (681, .iadd, 1, [], 0, 0), (682, .iaload, 1, [], 0, 0), (683, .aload_n 0, 1, [], 0, 0),
  (684, .iload_n 3, 1, [], 0, 0), (685, .iconst 3, 1, [], 3, 0), (686, .iadd, 1, [], 0, 0), (687, .iaload, 1, [], 0, 0),
  (688, .aload_n 0, 1, [], 0, 0), (689, .iload_n 3, 1, [], 0, 0), (690, .iconst 4, 1, [], 4, 0), (691, .iadd, 1, [], 0, 0),
  (692, .iaload, 1, [], 0, 0), (693, .invokevirtual 74, 3, [111, 5, 1, 1, 11], 0, 626), (696, .aload_n 2, 1, [], 0, 0), (697, .aload_n 0, 1, [], 0, 0),
  (698, .iload_n 3, 1, [], 0, 0), (699, .iconst 1, 1, [], 1, 0), (700, .iadd, 1, [], 0, 0), (701, .iaload, 1, [], 0, 0),
  (702, .aload_n 0, 1, [], 0, 0), (703, .iload_n 3, 1, [], 0, 0), (704, .iconst 2, 1, [], 2, 0), (705, .iadd, 1, [], 0, 0),
  (706, .iaload, 1, [], 0, 0), (707, .aload_n 0, 1, [], 0, 0), (708, .iload_n 3, 1, [], 0, 0), (709, .iconst 3, 1, [], 3, 0),
  (710, .iadd, 1, [], 0, 0), (711, .iaload, 1, [], 0, 0), (712, .aload_n 0, 1, [], 0, 0), (713, .iload_n 3, 1, [], 0, 0),
  (714, .iconst 4, 1, [], 4, 0), (715, .iadd, 1, [], 0, 0), (716, .iaload, 1, [], 0, 0), (717, .invokevirtual 77, 3, [191, 5, 1, 1, 12], 0, 1353),
  (720, .if_icmp .eq 907, 3, [1627], 0, 0), (723, .iconst 0, 1, [], 0, 0), (724, .ireturn, 1, [], 0, 0), (725, .aload_n 1, 1, [], 0, 0)]
def m_law_8 : List (Nat × mv_I) := [
  (726, .aload_n 0, 1, [], 0, 0), (727, .iload_n 3, 1, [], 0, 0), (728, .iconst 1, 1, [], 1, 0), (729, .iadd, 1, [], 0, 0),
  (730, .iaload, 1, [], 0, 0), (731, .aload_n 0, 1, [], 0, 0), (732, .iload_n 3, 1, [], 0, 0), (733, .iconst 2, 1, [], 2, 0),
  (734, .iadd, 1, [], 0, 0), (735, .iaload, 1, [], 0, 0), (736, .invokevirtual 78, 3, [112, 3, 1, 1, 11], 0, 646), (739, .aload_n 2, 1, [], 0, 0),
  (740, .aload_n 0, 1, [], 0, 0), (741, .iload_n 3, 1, [], 0, 0), (742, .iconst 1, 1, [], 1, 0), (743, .iadd, 1, [], 0, 0),
  (744, .iaload, 1, [], 0, 0), (745, .aload_n 0, 1, [], 0, 0), (746, .iload_n 3, 1, [], 0, 0), (747, .iconst 2, 1, [], 2, 0),
  (748, .iadd, 1, [], 0, 0), (749, .iaload, 1, [], 0, 0), (750, .invokevirtual 81, 3, [195, 3, 1, 1, 12], 0, 1365), (753, .if_icmp .eq 874, 3, [1627], 0, 0),
  (756, .iconst 0, 1, [], 0, 0), (757, .ireturn, 1, [], 0, 0), (758, .aload_n 1, 1, [], 0, 0), (759, .aload_n 0, 1, [], 0, 0),
  (760, .iload_n 3, 1, [], 0, 0), (761, .iconst 1, 1, [], 1, 0), (762, .iadd, 1, [], 0, 0), (763, .iaload, 1, [], 0, 0),
  (764, .invokevirtual 82, 3, [113, 2, 1, 1, 11], 0, 684), (767, .aload_n 2, 1, [], 0, 0), (768, .aload_n 0, 1, [], 0, 0), (769, .iload_n 3, 1, [], 0, 0),
  (770, .iconst 1, 1, [], 1, 0), (771, .iadd, 1, [], 0, 0), (772, .iaload, 1, [], 0, 0), (773, .invokevirtual 85, 3, [202, 2, 1, 1, 12], 0, 1382),
  (776, .if_icmp .eq 851, 3, [1627], 0, 0), (779, .iconst 0, 1, [], 0, 0), (780, .ireturn, 1, [], 0, 0), (781, .aload_n 1, 1, [], 0, 0),
  (782, .aload_n 0, 1, [], 0, 0), (783, .iload_n 3, 1, [], 0, 0), (784, .iconst 1, 1, [], 1, 0), (785, .iadd, 1, [], 0, 0),
  (786, .iaload, 1, [], 0, 0), (787, .aload_n 0, 1, [], 0, 0), (788, .iload_n 3, 1, [], 0, 0), (789, .iconst 2, 1, [], 2, 0),
  (790, .iadd, 1, [], 0, 0), (791, .iaload, 1, [], 0, 0), (792, .aload_n 0, 1, [], 0, 0), (793, .iload_n 3, 1, [], 0, 0),
  (794, .iconst 3, 1, [], 3, 0), (795, .iadd, 1, [], 0, 0), (796, .iaload, 1, [], 0, 0), (797, .invokevirtual 86, 3, [114, 4, 1, 1, 11], 0, 724),
  (800, .aload_n 2, 1, [], 0, 0), (801, .aload_n 0, 1, [], 0, 0), (802, .iload_n 3, 1, [], 0, 0), (803, .iconst 1, 1, [], 1, 0)]
def m_law_9 : List (Nat × mv_I) := [
  (804, .iadd, 1, [], 0, 0), (805, .iaload, 1, [], 0, 0), (806, .aload_n 0, 1, [], 0, 0), (807, .iload_n 3, 1, [], 0, 0),
  (808, .iconst 2, 1, [], 2, 0), (809, .iadd, 1, [], 0, 0), (810, .iaload, 1, [], 0, 0), (811, .aload_n 0, 1, [], 0, 0),
  (812, .iload_n 3, 1, [], 0, 0), (813, .iconst 3, 1, [], 3, 0), (814, .iadd, 1, [], 0, 0), (815, .iaload, 1, [], 0, 0),
  (816, .invokevirtual 89, 3, [203, 4, 1, 1, 12], 0, 1417), (819, .if_icmp .eq 808, 3, [1627], 0, 0), (822, .iconst 0, 1, [], 0, 0), (823, .ireturn, 1, [], 0, 0),
  (824, .aload_n 1, 1, [], 0, 0), (825, .aload_n 0, 1, [], 0, 0), (826, .iload_n 3, 1, [], 0, 0), (827, .iconst 1, 1, [], 1, 0),
  (828, .iadd, 1, [], 0, 0), (829, .iaload, 1, [], 0, 0), (830, .aload_n 0, 1, [], 0, 0), (831, .iload_n 3, 1, [], 0, 0),
  (832, .iconst 2, 1, [], 2, 0), (833, .iadd, 1, [], 0, 0), (834, .iaload, 1, [], 0, 0), (835, .invokevirtual 90, 3, [115, 3, 1, 1, 11], 0, 728),
  (838, .aload_n 2, 1, [], 0, 0), (839, .aload_n 0, 1, [], 0, 0), (840, .iload_n 3, 1, [], 0, 0), (841, .iconst 1, 1, [], 1, 0),
  (842, .iadd, 1, [], 0, 0), (843, .iaload, 1, [], 0, 0), (844, .aload_n 0, 1, [], 0, 0), (845, .iload_n 3, 1, [], 0, 0),
  (846, .iconst 2, 1, [], 2, 0), (847, .iadd, 1, [], 0, 0), (848, .iaload, 1, [], 0, 0), (849, .invokevirtual 93, 3, [206, 3, 1, 1, 12], 0, 1422),
  (852, .if_icmp .eq 775, 3, [1627], 0, 0), (855, .iconst 0, 1, [], 0, 0), (856, .ireturn, 1, [], 0, 0), (857, .aload_n 1, 1, [], 0, 0),
  (858, .aload_n 0, 1, [], 0, 0), (859, .iload_n 3, 1, [], 0, 0), (860, .iconst 1, 1, [], 1, 0), (861, .iadd, 1, [], 0, 0),
  (862, .iaload, 1, [], 0, 0), (863, .aload_n 0, 1, [], 0, 0), (864, .iload_n 3, 1, [], 0, 0), (865, .iconst 2, 1, [], 2, 0),
  (866, .iadd, 1, [], 0, 0), (867, .iaload, 1, [], 0, 0), (868, .aload_n 0, 1, [], 0, 0), (869, .iload_n 3, 1, [], 0, 0),
  (870, .iconst 3, 1, [], 3, 0), (871, .iadd, 1, [], 0, 0), (872, .iaload, 1, [], 0, 0), (873, .invokevirtual 94, 3, [116, 4, 1, 1, 11], 0, 758),
  (876, .aload_n 2, 1, [], 0, 0), (877, .aload_n 0, 1, [], 0, 0), (878, .iload_n 3, 1, [], 0, 0), (879, .iconst 1, 1, [], 1, 0)]
def m_law_10 : List (Nat × mv_I) := [
  (880, .iadd, 1, [], 0, 0), (881, .iaload, 1, [], 0, 0), (882, .aload_n 0, 1, [], 0, 0), (883, .iload_n 3, 1, [], 0, 0),
  (884, .iconst 2, 1, [], 2, 0), (885, .iadd, 1, [], 0, 0), (886, .iaload, 1, [], 0, 0), (887, .aload_n 0, 1, [], 0, 0),
  (888, .iload_n 3, 1, [], 0, 0), (889, .iconst 3, 1, [], 3, 0), (890, .iadd, 1, [], 0, 0), (891, .iaload, 1, [], 0, 0),
  (892, .invokevirtual 97, 3, [207, 4, 1, 1, 12], 0, 1433), (895, .if_icmp .eq 732, 3, [1627], 0, 0), (898, .iconst 0, 1, [], 0, 0), (899, .ireturn, 1, [], 0, 0),
  (900, .aload_n 1, 1, [], 0, 0), (901, .aload_n 0, 1, [], 0, 0), (902, .iload_n 3, 1, [], 0, 0), (903, .iconst 1, 1, [], 1, 0),
  (904, .iadd, 1, [], 0, 0), (905, .iaload, 1, [], 0, 0), (906, .aload_n 0, 1, [], 0, 0), (907, .iload_n 3, 1, [], 0, 0),
  (908, .iconst 2, 1, [], 2, 0), (909, .iadd, 1, [], 0, 0), (910, .iaload, 1, [], 0, 0), (911, .aload_n 0, 1, [], 0, 0),
  (912, .iload_n 3, 1, [], 0, 0), (913, .iconst 3, 1, [], 3, 0), (914, .iadd, 1, [], 0, 0), (915, .iaload, 1, [], 0, 0),
  (916, .invokevirtual 98, 3, [117, 4, 3, 1, 11], 0, 766), (919, .aload_n 2, 1, [], 0, 0), (920, .aload_n 0, 1, [], 0, 0), (921, .iload_n 3, 1, [], 0, 0),
  (922, .iconst 1, 1, [], 1, 0), (923, .iadd, 1, [], 0, 0), (924, .iaload, 1, [], 0, 0), (925, .aload_n 0, 1, [], 0, 0),
  (926, .iload_n 3, 1, [], 0, 0), (927, .iconst 2, 1, [], 2, 0), (928, .iadd, 1, [], 0, 0), (929, .iaload, 1, [], 0, 0),
  (930, .aload_n 0, 1, [], 0, 0), (931, .iload_n 3, 1, [], 0, 0), (932, .iconst 3, 1, [], 3, 0), (933, .iadd, 1, [], 0, 0),
  (934, .iaload, 1, [], 0, 0), (935, .invokevirtual 102, 3, [208, 4, 3, 1, 12], 0, 1438), (938, .lcmp, 1, [], 0, 0), (939, .ifCond .eq 688, 3, [1627], 0, 0),
  (942, .iconst 0, 1, [], 0, 0), (943, .ireturn, 1, [], 0, 0), (944, .aload_n 1, 1, [], 0, 0), (945, .invokevirtual 103, 3, [118, 1, 1, 1, 11], 0, 782),
  (948, .aload_n 2, 1, [], 0, 0), (949, .invokevirtual 106, 3, [221, 1, 1, 1, 12], 0, 1444), (952, .if_icmp .eq 675, 3, [1627], 0, 0), (955, .iconst 0, 1, [], 0, 0),
  (956, .ireturn, 1, [], 0, 0), (957, .aload_n 1, 1, [], 0, 0), (958, .aload_n 0, 1, [], 0, 0), (959, .iload_n 3, 1, [], 0, 0)]
def m_law_11 : List (Nat × mv_I) := [
  (960, .iconst 1, 1, [], 1, 0), (961, .iadd, 1, [], 0, 0), (962, .iaload, 1, [], 0, 0), (963, .invokevirtual 107, 3, [119, 2, 1, 1, 11], 0, 853),
  (966, .aload_n 2, 1, [], 0, 0), (967, .aload_n 0, 1, [], 0, 0), (968, .iload_n 3, 1, [], 0, 0), (969, .iconst 1, 1, [], 1, 0),
  (970, .iadd, 1, [], 0, 0), (971, .iaload, 1, [], 0, 0), (972, .invokevirtual 110, 3, [222, 2, 1, 1, 12], 0, 1492), (975, .if_icmp .eq 652, 3, [1627], 0, 0),
  (978, .iconst 0, 1, [], 0, 0), (979, .ireturn, 1, [], 0, 0), (980, .aload_n 1, 1, [], 0, 0), (981, .aload_n 0, 1, [], 0, 0),
  (982, .iload_n 3, 1, [], 0, 0), (983, .iconst 1, 1, [], 1, 0), (984, .iadd, 1, [], 0, 0), (985, .iaload, 1, [], 0, 0),
  (986, .aload_n 0, 1, [], 0, 0), (987, .iload_n 3, 1, [], 0, 0), (988, .iconst 2, 1, [], 2, 0), (989, .iadd, 1, [], 0, 0),
  (990, .iaload, 1, [], 0, 0), (991, .invokevirtual 111, 3, [120, 3, 1, 1, 11], 0, 861), (994, .aload_n 2, 1, [], 0, 0), (995, .aload_n 0, 1, [], 0, 0),
  (996, .iload_n 3, 1, [], 0, 0), (997, .iconst 1, 1, [], 1, 0), (998, .iadd, 1, [], 0, 0), (999, .iaload, 1, [], 0, 0),
  (1000, .aload_n 0, 1, [], 0, 0), (1001, .iload_n 3, 1, [], 0, 0), (1002, .iconst 2, 1, [], 2, 0), (1003, .iadd, 1, [], 0, 0),
  (1004, .iaload, 1, [], 0, 0), (1005, .invokevirtual 114, 3, [223, 3, 1, 1, 12], 0, 1496), (1008, .if_icmp .eq 619, 3, [1627], 0, 0), (1011, .iconst 0, 1, [], 0, 0),
  (1012, .ireturn, 1, [], 0, 0), (1013, .aload_n 1, 1, [], 0, 0), (1014, .aload_n 0, 1, [], 0, 0), (1015, .iload_n 3, 1, [], 0, 0),
  (1016, .iconst 1, 1, [], 1, 0), (1017, .iadd, 1, [], 0, 0), (1018, .iaload, 1, [], 0, 0), (1019, .aload_n 0, 1, [], 0, 0),
  (1020, .iload_n 3, 1, [], 0, 0), (1021, .iconst 2, 1, [], 2, 0), (1022, .iadd, 1, [], 0, 0), (1023, .iaload, 1, [], 0, 0),
  (1024, .aload_n 0, 1, [], 0, 0), (1025, .iload_n 3, 1, [], 0, 0), (1026, .iconst 3, 1, [], 3, 0), (1027, .iadd, 1, [], 0, 0),
  (1028, .iaload, 1, [], 0, 0), (1029, .invokevirtual 115, 3, [121, 4, 1, 1, 11], 0, 885), (1032, .aload_n 2, 1, [], 0, 0), (1033, .aload_n 0, 1, [], 0, 0),
  (1034, .iload_n 3, 1, [], 0, 0), (1035, .iconst 1, 1, [], 1, 0), (1036, .iadd, 1, [], 0, 0), (1037, .iaload, 1, [], 0, 0)]
def m_law_12 : List (Nat × mv_I) := [
  (1038, .aload_n 0, 1, [], 0, 0), (1039, .iload_n 3, 1, [], 0, 0), (1040, .iconst 2, 1, [], 2, 0), (1041, .iadd, 1, [], 0, 0),
  (1042, .iaload, 1, [], 0, 0), (1043, .aload_n 0, 1, [], 0, 0), (1044, .iload_n 3, 1, [], 0, 0), (1045, .iconst 3, 1, [], 3, 0),
  (1046, .iadd, 1, [], 0, 0), (1047, .iaload, 1, [], 0, 0), (1048, .invokevirtual 118, 3, [226, 4, 1, 1, 12], 0, 1508), (1051, .if_icmp .eq 576, 3, [1627], 0, 0),
  (1054, .iconst 0, 1, [], 0, 0), (1055, .ireturn, 1, [], 0, 0), (1056, .aload_n 1, 1, [], 0, 0), (1057, .aload_n 0, 1, [], 0, 0),
  (1058, .iload_n 3, 1, [], 0, 0), (1059, .iconst 1, 1, [], 1, 0), (1060, .iadd, 1, [], 0, 0), (1061, .iaload, 1, [], 0, 0),
  (1062, .aload_n 0, 1, [], 0, 0), (1063, .iload_n 3, 1, [], 0, 0), (1064, .iconst 2, 1, [], 2, 0), (1065, .iadd, 1, [], 0, 0),
  (1066, .iaload, 1, [], 0, 0), (1067, .aload_n 0, 1, [], 0, 0), (1068, .iload_n 3, 1, [], 0, 0), (1069, .iconst 3, 1, [], 3, 0),
  (1070, .iadd, 1, [], 0, 0), (1071, .iaload, 1, [], 0, 0), (1072, .invokevirtual 119, 3, [122, 4, 1, 1, 11], 0, 909), (1075, .aload_n 2, 1, [], 0, 0),
  (1076, .aload_n 0, 1, [], 0, 0), (1077, .iload_n 3, 1, [], 0, 0), (1078, .iconst 1, 1, [], 1, 0), (1079, .iadd, 1, [], 0, 0),
  (1080, .iaload, 1, [], 0, 0), (1081, .aload_n 0, 1, [], 0, 0), (1082, .iload_n 3, 1, [], 0, 0), (1083, .iconst 2, 1, [], 2, 0),
  (1084, .iadd, 1, [], 0, 0), (1085, .iaload, 1, [], 0, 0), (1086, .aload_n 0, 1, [], 0, 0), (1087, .iload_n 3, 1, [], 0, 0),
  (1088, .iconst 3, 1, [], 3, 0), (1089, .iadd, 1, [], 0, 0), (1090, .iaload, 1, [], 0, 0), (1091, .invokevirtual 122, 3, [227, 4, 1, 1, 12], 0, 1529),
  (1094, .if_icmp .eq 533, 3, [1627], 0, 0), (1097, .iconst 0, 1, [], 0, 0), (1098, .ireturn, 1, [], 0, 0), (1099, .aload_n 1, 1, [], 0, 0),
  (1100, .aload_n 0, 1, [], 0, 0), (1101, .iload_n 3, 1, [], 0, 0), (1102, .iconst 1, 1, [], 1, 0), (1103, .iadd, 1, [], 0, 0),
  (1104, .iaload, 1, [], 0, 0), (1105, .aload_n 0, 1, [], 0, 0), (1106, .iload_n 3, 1, [], 0, 0), (1107, .iconst 2, 1, [], 2, 0),
  (1108, .iadd, 1, [], 0, 0), (1109, .iaload, 1, [], 0, 0), (1110, .aload_n 0, 1, [], 0, 0), (1111, .iload_n 3, 1, [], 0, 0)]
def m_law_13 : List (Nat × mv_I) := [
  (1112, .iconst 3, 1, [], 3, 0), (1113, .iadd, 1, [], 0, 0), (1114, .iaload, 1, [], 0, 0), (1115, .invokevirtual 123, 3, [123, 4, 1, 1, 11], 0, 918),
  (1118, .aload_n 2, 1, [], 0, 0), (1119, .aload_n 0, 1, [], 0, 0), (1120, .iload_n 3, 1, [], 0, 0), (1121, .iconst 1, 1, [], 1, 0),
  (1122, .iadd, 1, [], 0, 0), (1123, .iaload, 1, [], 0, 0), (1124, .aload_n 0, 1, [], 0, 0), (1125, .iload_n 3, 1, [], 0, 0),
  (1126, .iconst 2, 1, [], 2, 0), (1127, .iadd, 1, [], 0, 0), (1128, .iaload, 1, [], 0, 0), (1129, .aload_n 0, 1, [], 0, 0),
  (1130, .iload_n 3, 1, [], 0, 0), (1131, .iconst 3, 1, [], 3, 0), (1132, .iadd, 1, [], 0, 0), (1133, .iaload, 1, [], 0, 0),
  (1134, .invokevirtual 126, 3, [228, 4, 1, 1, 12], 0, 1538), (1137, .if_icmp .eq 490, 3, [1627], 0, 0), (1140, .iconst 0, 1, [], 0, 0), (1141, .ireturn, 1, [], 0, 0),
  (1142, .aload_n 1, 1, [], 0, 0), (1143, .aload_n 0, 1, [], 0, 0), (1144, .iload_n 3, 1, [], 0, 0), (1145, .iconst 1, 1, [], 1, 0),
  (1146, .iadd, 1, [], 0, 0), (1147, .iaload, 1, [], 0, 0), (1148, .aload_n 0, 1, [], 0, 0), (1149, .iload_n 3, 1, [], 0, 0),
  (1150, .iconst 2, 1, [], 2, 0), (1151, .iadd, 1, [], 0, 0), (1152, .iaload, 1, [], 0, 0), (1153, .aload_n 0, 1, [], 0, 0),
  (1154, .iload_n 3, 1, [], 0, 0), (1155, .iconst 3, 1, [], 3, 0), (1156, .iadd, 1, [], 0, 0), (1157, .iaload, 1, [], 0, 0),
  (1158, .aload_n 0, 1, [], 0, 0), (1159, .iload_n 3, 1, [], 0, 0), (1160, .iconst 4, 1, [], 4, 0), (1161, .iadd, 1, [], 0, 0),
  (1162, .iaload, 1, [], 0, 0), (1163, .aload_n 0, 1, [], 0, 0), (1164, .iload_n 3, 1, [], 0, 0), (1165, .iconst 5, 1, [], 5, 0),
  (1166, .iadd, 1, [], 0, 0), (1167, .iaload, 1, [], 0, 0), (1168, .invokevirtual 127, 3, [124, 6, 1, 1, 11], 0, 929), (1171, .aload_n 2, 1, [], 0, 0),
  (1172, .aload_n 0, 1, [], 0, 0), (1173, .iload_n 3, 1, [], 0, 0), (1174, .iconst 1, 1, [], 1, 0), (1175, .iadd, 1, [], 0, 0),
  (1176, .iaload, 1, [], 0, 0), (1177, .aload_n 0, 1, [], 0, 0), (1178, .iload_n 3, 1, [], 0, 0), (1179, .iconst 2, 1, [], 2, 0),
  (1180, .iadd, 1, [], 0, 0), (1181, .iaload, 1, [], 0, 0), (1182, .aload_n 0, 1, [], 0, 0), (1183, .iload_n 3, 1, [], 0, 0)]
def m_law_14 : List (Nat × mv_I) := [
  (1184, .iconst 3, 1, [], 3, 0), (1185, .iadd, 1, [], 0, 0), (1186, .iaload, 1, [], 0, 0), (1187, .aload_n 0, 1, [], 0, 0),
  (1188, .iload_n 3, 1, [], 0, 0), (1189, .iconst 4, 1, [], 4, 0), (1190, .iadd, 1, [], 0, 0), (1191, .iaload, 1, [], 0, 0),
  (1192, .aload_n 0, 1, [], 0, 0), (1193, .iload_n 3, 1, [], 0, 0), (1194, .iconst 5, 1, [], 5, 0), (1195, .iadd, 1, [], 0, 0),
  (1196, .iaload, 1, [], 0, 0), (1197, .invokevirtual 131, 3, [230, 6, 1, 1, 12], 0, 1543), (1200, .if_icmp .eq 427, 3, [1627], 0, 0), (1203, .iconst 0, 1, [], 0, 0),
  (1204, .ireturn, 1, [], 0, 0), (1205, .aload_n 1, 1, [], 0, 0), (1206, .aload_n 0, 1, [], 0, 0), (1207, .iload_n 3, 1, [], 0, 0),
  (1208, .iconst 1, 1, [], 1, 0), (1209, .iadd, 1, [], 0, 0), (1210, .iaload, 1, [], 0, 0), (1211, .aload_n 0, 1, [], 0, 0),
  (1212, .iload_n 3, 1, [], 0, 0), (1213, .iconst 2, 1, [], 2, 0), (1214, .iadd, 1, [], 0, 0), (1215, .iaload, 1, [], 0, 0),
  (1216, .aload_n 0, 1, [], 0, 0), (1217, .iload_n 3, 1, [], 0, 0), (1218, .iconst 3, 1, [], 3, 0), (1219, .iadd, 1, [], 0, 0),
  (1220, .iaload, 1, [], 0, 0), (1221, .invokevirtual 132, 3, [125, 4, 1, 1, 11], 0, 940), (1224, .aload_n 2, 1, [], 0, 0), (1225, .aload_n 0, 1, [], 0, 0),
  (1226, .iload_n 3, 1, [], 0, 0), (1227, .iconst 1, 1, [], 1, 0), (1228, .iadd, 1, [], 0, 0), (1229, .iaload, 1, [], 0, 0),
  (1230, .aload_n 0, 1, [], 0, 0), (1231, .iload_n 3, 1, [], 0, 0), (1232, .iconst 2, 1, [], 2, 0), (1233, .iadd, 1, [], 0, 0),
  (1234, .iaload, 1, [], 0, 0), (1235, .aload_n 0, 1, [], 0, 0), (1236, .iload_n 3, 1, [], 0, 0), (1237, .iconst 3, 1, [], 3, 0),
  (1238, .iadd, 1, [], 0, 0), (1239, .iaload, 1, [], 0, 0), (1240, .invokevirtual 135, 3, [231, 4, 1, 1, 12], 0, 1552), (1243, .if_icmp .eq 384, 3, [1627], 0, 0),
  (1246, .iconst 0, 1, [], 0, 0), (1247, .ireturn, 1, [], 0, 0), (1248, .aload_n 1, 1, [], 0, 0), (1249, .aload_n 0, 1, [], 0, 0),
  (1250, .iload_n 3, 1, [], 0, 0), (1251, .iconst 1, 1, [], 1, 0), (1252, .iadd, 1, [], 0, 0), (1253, .iaload, 1, [], 0, 0),
  (1254, .aload_n 0, 1, [], 0, 0), (1255, .iload_n 3, 1, [], 0, 0), (1256, .iconst 2, 1, [], 2, 0), (1257, .iadd, 1, [], 0, 0)]
def m_law_15 : List (Nat × mv_I) := [
  (1258, .iaload, 1, [], 0, 0), (1259, .aload_n 0, 1, [], 0, 0), (1260, .iload_n 3, 1, [], 0, 0), (1261, .iconst 3, 1, [], 3, 0),
  (1262, .iadd, 1, [], 0, 0), (1263, .iaload, 1, [], 0, 0), (1264, .aload_n 0, 1, [], 0, 0), (1265, .iload_n 3, 1, [], 0, 0),
  (1266, .iconst 4, 1, [], 4, 0), (1267, .iadd, 1, [], 0, 0), (1268, .iaload, 1, [], 0, 0), (1269, .invokevirtual 136, 3, [126, 5, 1, 1, 11], 0, 956),
  (1272, .aload_n 2, 1, [], 0, 0), (1273, .aload_n 0, 1, [], 0, 0), (1274, .iload_n 3, 1, [], 0, 0), (1275, .iconst 1, 1, [], 1, 0),
  (1276, .iadd, 1, [], 0, 0), (1277, .iaload, 1, [], 0, 0), (1278, .aload_n 0, 1, [], 0, 0), (1279, .iload_n 3, 1, [], 0, 0),
  (1280, .iconst 2, 1, [], 2, 0), (1281, .iadd, 1, [], 0, 0), (1282, .iaload, 1, [], 0, 0), (1283, .aload_n 0, 1, [], 0, 0),
  (1284, .iload_n 3, 1, [], 0, 0), (1285, .iconst 3, 1, [], 3, 0), (1286, .iadd, 1, [], 0, 0), (1287, .iaload, 1, [], 0, 0),
  (1288, .aload_n 0, 1, [], 0, 0), (1289, .iload_n 3, 1, [], 0, 0), (1290, .iconst 4, 1, [], 4, 0), (1291, .iadd, 1, [], 0, 0),
  (1292, .iaload, 1, [], 0, 0), (1293, .invokevirtual 139, 3, [232, 5, 1, 1, 12], 0, 1559), (1296, .if_icmp .eq 331, 3, [1627], 0, 0), (1299, .iconst 0, 1, [], 0, 0),
  (1300, .ireturn, 1, [], 0, 0), (1301, .aload_n 1, 1, [], 0, 0), (1302, .aload_n 0, 1, [], 0, 0), (1303, .iload_n 3, 1, [], 0, 0),
  (1304, .iconst 1, 1, [], 1, 0), (1305, .iadd, 1, [], 0, 0), (1306, .iaload, 1, [], 0, 0), (1307, .aload_n 0, 1, [], 0, 0),
  (1308, .iload_n 3, 1, [], 0, 0), (1309, .iconst 2, 1, [], 2, 0), (1310, .iadd, 1, [], 0, 0), (1311, .iaload, 1, [], 0, 0),
  (1312, .aload_n 0, 1, [], 0, 0), (1313, .iload_n 3, 1, [], 0, 0), (1314, .iconst 3, 1, [], 3, 0), (1315, .iadd, 1, [], 0, 0),
  (1316, .iaload, 1, [], 0, 0), (1317, .aload_n 0, 1, [], 0, 0), (1318, .iload_n 3, 1, [], 0, 0), (1319, .iconst 4, 1, [], 4, 0),
  (1320, .iadd, 1, [], 0, 0), (1321, .iaload, 1, [], 0, 0), (1322, .aload_n 0, 1, [], 0, 0), (1323, .iload_n 3, 1, [], 0, 0),
  (1324, .iconst 5, 1, [], 5, 0), (1325, .iadd, 1, [], 0, 0), (1326, .iaload, 1, [], 0, 0), (1327, .aload_n 0, 1, [], 0, 0)]
def m_law_16 : List (Nat × mv_I) := [
  (1328, .iload_n 3, 1, [], 0, 0), (1329, .bipush 6, 2, [], 6, 0), (1331, .iadd, 1, [], 0, 0), (1332, .iaload, 1, [], 0, 0),
  (1333, .invokevirtual 140, 3, [127, 7, 1, 1, 11], 0, 971), (1336, .aload_n 2, 1, [], 0, 0), (1337, .aload_n 0, 1, [], 0, 0), (1338, .iload_n 3, 1, [], 0, 0),
  (1339, .iconst 1, 1, [], 1, 0), (1340, .iadd, 1, [], 0, 0), (1341, .iaload, 1, [], 0, 0), (1342, .aload_n 0, 1, [], 0, 0),
  (1343, .iload_n 3, 1, [], 0, 0), (1344, .iconst 2, 1, [], 2, 0), (1345, .iadd, 1, [], 0, 0), (1346, .iaload, 1, [], 0, 0),
  (1347, .aload_n 0, 1, [], 0, 0), (1348, .iload_n 3, 1, [], 0, 0), (1349, .iconst 3, 1, [], 3, 0), (1350, .iadd, 1, [], 0, 0),
  (1351, .iaload, 1, [], 0, 0), (1352, .aload_n 0, 1, [], 0, 0), (1353, .iload_n 3, 1, [], 0, 0), (1354, .iconst 4, 1, [], 4, 0),
  (1355, .iadd, 1, [], 0, 0), (1356, .iaload, 1, [], 0, 0), (1357, .aload_n 0, 1, [], 0, 0), (1358, .iload_n 3, 1, [], 0, 0),
  (1359, .iconst 5, 1, [], 5, 0), (1360, .iadd, 1, [], 0, 0), (1361, .iaload, 1, [], 0, 0), (1362, .aload_n 0, 1, [], 0, 0),
  (1363, .iload_n 3, 1, [], 0, 0), (1364, .bipush 6, 2, [], 6, 0), (1366, .iadd, 1, [], 0, 0), (1367, .iaload, 1, [], 0, 0),
  (1368, .invokevirtual 144, 3, [234, 7, 1, 1, 12], 0, 1568), (1371, .if_icmp .eq 256, 3, [1627], 0, 0), (1374, .iconst 0, 1, [], 0, 0), (1375, .ireturn, 1, [], 0, 0),
  (1376, .aload_n 1, 1, [], 0, 0), (1377, .invokevirtual 145, 3, [128, 1, 1, 1, 11], 0, 982), (1380, .aload_n 2, 1, [], 0, 0), (1381, .invokevirtual 148, 3, [235, 1, 1, 1, 12], 0, 1576),
  (1384, .if_icmp .eq 243, 3, [1627], 0, 0), (1387, .iconst 0, 1, [], 0, 0), (1388, .ireturn, 1, [], 0, 0), (1389, .aload_n 1, 1, [], 0, 0),
  (1390, .invokevirtual 149, 3, [129, 1, 1, 1, 11], 0, 991), (1393, .aload_n 2, 1, [], 0, 0), (1394, .invokevirtual 152, 3, [236, 1, 1, 1, 12], 0, 1580), (1397, .if_icmp .eq 230, 3, [1627], 0, 0),
  (1400, .iconst 0, 1, [], 0, 0), (1401, .ireturn, 1, [], 0, 0), (1402, .aload_n 1, 1, [], 0, 0), (1403, .aload_n 0, 1, [], 0, 0),
  (1404, .iload_n 3, 1, [], 0, 0), (1405, .iconst 1, 1, [], 1, 0), (1406, .iadd, 1, [], 0, 0), (1407, .iaload, 1, [], 0, 0),
  (1408, .aload_n 0, 1, [], 0, 0), (1409, .iload_n 3, 1, [], 0, 0), (1410, .iconst 2, 1, [], 2, 0), (1411, .iadd, 1, [], 0, 0)]
def m_law_17 : List (Nat × mv_I) := [
  (1412, .iaload, 1, [], 0, 0), (1413, .aload_n 0, 1, [], 0, 0), (1414, .iload_n 3, 1, [], 0, 0), (1415, .iconst 3, 1, [], 3, 0),
  (1416, .iadd, 1, [], 0, 0), (1417, .iaload, 1, [], 0, 0), (1418, .aload_n 0, 1, [], 0, 0), (1419, .iload_n 3, 1, [], 0, 0),
  (1420, .iconst 4, 1, [], 4, 0), (1421, .iadd, 1, [], 0, 0), (1422, .iaload, 1, [], 0, 0), (1423, .invokevirtual 153, 3, [130, 5, 1, 1, 11], 0, 995),
  (1426, .aload_n 2, 1, [], 0, 0), (1427, .aload_n 0, 1, [], 0, 0), (1428, .iload_n 3, 1, [], 0, 0), (1429, .iconst 1, 1, [], 1, 0),
  (1430, .iadd, 1, [], 0, 0), (1431, .iaload, 1, [], 0, 0), (1432, .aload_n 0, 1, [], 0, 0), (1433, .iload_n 3, 1, [], 0, 0),
  (1434, .iconst 2, 1, [], 2, 0), (1435, .iadd, 1, [], 0, 0), (1436, .iaload, 1, [], 0, 0), (1437, .aload_n 0, 1, [], 0, 0),
  (1438, .iload_n 3, 1, [], 0, 0), (1439, .iconst 3, 1, [], 3, 0), (1440, .iadd, 1, [], 0, 0), (1441, .iaload, 1, [], 0, 0),
  (1442, .aload_n 0, 1, [], 0, 0), (1443, .iload_n 3, 1, [], 0, 0), (1444, .iconst 4, 1, [], 4, 0), (1445, .iadd, 1, [], 0, 0),
  (1446, .iaload, 1, [], 0, 0), (1447, .invokevirtual 156, 3, [239, 5, 1, 1, 12], 0, 1584), (1450, .if_icmp .eq 177, 3, [1627], 0, 0), (1453, .iconst 0, 1, [], 0, 0),
  (1454, .ireturn, 1, [], 0, 0), (1455, .aload_n 1, 1, [], 0, 0), (1456, .aload_n 0, 1, [], 0, 0), (1457, .iload_n 3, 1, [], 0, 0),
  (1458, .iconst 1, 1, [], 1, 0), (1459, .iadd, 1, [], 0, 0), (1460, .iaload, 1, [], 0, 0), (1461, .invokevirtual 157, 3, [131, 2, 1, 1, 11], 0, 1003),
  (1464, .aload_n 2, 1, [], 0, 0), (1465, .aload_n 0, 1, [], 0, 0), (1466, .iload_n 3, 1, [], 0, 0), (1467, .iconst 1, 1, [], 1, 0),
  (1468, .iadd, 1, [], 0, 0), (1469, .iaload, 1, [], 0, 0), (1470, .invokevirtual 160, 3, [240, 2, 1, 1, 12], 0, 1588), (1473, .if_icmp .eq 154, 3, [1627], 0, 0),
  (1476, .iconst 0, 1, [], 0, 0), (1477, .ireturn, 1, [], 0, 0), (1478, .aload_n 1, 1, [], 0, 0), (1479, .aload_n 0, 1, [], 0, 0),
  (1480, .iload_n 3, 1, [], 0, 0), (1481, .iconst 1, 1, [], 1, 0), (1482, .iadd, 1, [], 0, 0), (1483, .iaload, 1, [], 0, 0),
  (1484, .aload_n 0, 1, [], 0, 0), (1485, .iload_n 3, 1, [], 0, 0), (1486, .iconst 2, 1, [], 2, 0), (1487, .iadd, 1, [], 0, 0)]
def m_law_18 : List (Nat × mv_I) := [
  (1488, .iaload, 1, [], 0, 0), (1489, .aload_n 0, 1, [], 0, 0), (1490, .iload_n 3, 1, [], 0, 0), (1491, .iconst 3, 1, [], 3, 0),
  (1492, .iadd, 1, [], 0, 0), (1493, .iaload, 1, [], 0, 0), (1494, .invokevirtual 161, 3, [132, 4, 1, 1, 11], 0, 1011), (1497, .aload_n 2, 1, [], 0, 0),
  (1498, .aload_n 0, 1, [], 0, 0), (1499, .iload_n 3, 1, [], 0, 0), (1500, .iconst 1, 1, [], 1, 0), (1501, .iadd, 1, [], 0, 0),
  (1502, .iaload, 1, [], 0, 0), (1503, .aload_n 0, 1, [], 0, 0), (1504, .iload_n 3, 1, [], 0, 0), (1505, .iconst 2, 1, [], 2, 0),
  (1506, .iadd, 1, [], 0, 0), (1507, .iaload, 1, [], 0, 0), (1508, .aload_n 0, 1, [], 0, 0), (1509, .iload_n 3, 1, [], 0, 0),
  (1510, .iconst 3, 1, [], 3, 0), (1511, .iadd, 1, [], 0, 0), (1512, .iaload, 1, [], 0, 0), (1513, .invokevirtual 164, 3, [241, 4, 1, 1, 12], 0, 1592),
  (1516, .if_icmp .eq 111, 3, [1627], 0, 0), (1519, .iconst 0, 1, [], 0, 0), (1520, .ireturn, 1, [], 0, 0), (1521, .aload_n 1, 1, [], 0, 0),
  (1522, .aload_n 0, 1, [], 0, 0), (1523, .iload_n 3, 1, [], 0, 0), (1524, .iconst 1, 1, [], 1, 0), (1525, .iadd, 1, [], 0, 0),
  (1526, .iaload, 1, [], 0, 0), (1527, .aload_n 0, 1, [], 0, 0), (1528, .iload_n 3, 1, [], 0, 0), (1529, .iconst 2, 1, [], 2, 0),
  (1530, .iadd, 1, [], 0, 0), (1531, .iaload, 1, [], 0, 0), (1532, .aload_n 0, 1, [], 0, 0), (1533, .iload_n 3, 1, [], 0, 0),
  (1534, .iconst 3, 1, [], 3, 0), (1535, .iadd, 1, [], 0, 0), (1536, .iaload, 1, [], 0, 0), (1537, .invokevirtual 165, 3, [133, 4, 1, 1, 11], 0, 1015),
  (1540, .aload_n 2, 1, [], 0, 0), (1541, .aload_n 0, 1, [], 0, 0), (1542, .iload_n 3, 1, [], 0, 0), (1543, .iconst 1, 1, [], 1, 0),
  (1544, .iadd, 1, [], 0, 0), (1545, .iaload, 1, [], 0, 0), (1546, .aload_n 0, 1, [], 0, 0), (1547, .iload_n 3, 1, [], 0, 0),
  (1548, .iconst 2, 1, [], 2, 0), (1549, .iadd, 1, [], 0, 0), (1550, .iaload, 1, [], 0, 0), (1551, .aload_n 0, 1, [], 0, 0),
  (1552, .iload_n 3, 1, [], 0, 0), (1553, .iconst 3, 1, [], 3, 0), (1554, .iadd, 1, [], 0, 0), (1555, .iaload, 1, [], 0, 0),
  (1556, .invokevirtual 168, 3, [242, 4, 1, 1, 12], 0, 1596), (1559, .if_icmp .eq 68, 3, [1627], 0, 0), (1562, .iconst 0, 1, [], 0, 0), (1563, .ireturn, 1, [], 0, 0)]
def m_law_19 : List (Nat × mv_I) := [
  (1564, .aload_n 1, 1, [], 0, 0), (1565, .aload_n 0, 1, [], 0, 0), (1566, .iload_n 3, 1, [], 0, 0), (1567, .iconst 1, 1, [], 1, 0),
  (1568, .iadd, 1, [], 0, 0), (1569, .iaload, 1, [], 0, 0), (1570, .aload_n 0, 1, [], 0, 0), (1571, .iload_n 3, 1, [], 0, 0),
  (1572, .iconst 2, 1, [], 2, 0), (1573, .iadd, 1, [], 0, 0), (1574, .iaload, 1, [], 0, 0), (1575, .aload_n 0, 1, [], 0, 0),
  (1576, .iload_n 3, 1, [], 0, 0), (1577, .iconst 3, 1, [], 3, 0), (1578, .iadd, 1, [], 0, 0), (1579, .iaload, 1, [], 0, 0),
  (1580, .aload_n 0, 1, [], 0, 0), (1581, .iload_n 3, 1, [], 0, 0), (1582, .iconst 4, 1, [], 4, 0), (1583, .iadd, 1, [], 0, 0),
  (1584, .iaload, 1, [], 0, 0), (1585, .aload_n 0, 1, [], 0, 0), (1586, .iload_n 3, 1, [], 0, 0), (1587, .iconst 5, 1, [], 5, 0),
  (1588, .iadd, 1, [], 0, 0), (1589, .iaload, 1, [], 0, 0), (1590, .invokevirtual 169, 3, [134, 6, 1, 1, 11], 0, 1019), (1593, .aload_n 2, 1, [], 0, 0),
  (1594, .aload_n 0, 1, [], 0, 0), (1595, .iload_n 3, 1, [], 0, 0), (1596, .iconst 1, 1, [], 1, 0), (1597, .iadd, 1, [], 0, 0),
  (1598, .iaload, 1, [], 0, 0), (1599, .aload_n 0, 1, [], 0, 0), (1600, .iload_n 3, 1, [], 0, 0), (1601, .iconst 2, 1, [], 2, 0),
  (1602, .iadd, 1, [], 0, 0), (1603, .iaload, 1, [], 0, 0), (1604, .aload_n 0, 1, [], 0, 0), (1605, .iload_n 3, 1, [], 0, 0),
  (1606, .iconst 3, 1, [], 3, 0), (1607, .iadd, 1, [], 0, 0), (1608, .iaload, 1, [], 0, 0), (1609, .aload_n 0, 1, [], 0, 0),
  (1610, .iload_n 3, 1, [], 0, 0), (1611, .iconst 4, 1, [], 4, 0), (1612, .iadd, 1, [], 0, 0), (1613, .iaload, 1, [], 0, 0),
  (1614, .aload_n 0, 1, [], 0, 0), (1615, .iload_n 3, 1, [], 0, 0), (1616, .iconst 5, 1, [], 5, 0), (1617, .iadd, 1, [], 0, 0),
  (1618, .iaload, 1, [], 0, 0), (1619, .invokevirtual 172, 3, [243, 6, 1, 1, 12], 0, 1600), (1622, .if_icmp .eq 5, 3, [1627], 0, 0), (1625, .iconst 0, 1, [], 0, 0),
  (1626, .ireturn, 1, [], 0, 0), (1627, .iinc 3 7, 3, [], 7, 0), (1630, .goto (-1612), 3, [18], 0, 0), (1633, .iconst 1, 1, [], 1, 0),
  (1634, .ireturn, 1, [], 0, 0)]
def m_law : mv_M := (4, 2, m_law_1 ++ (m_law_2 ++ (m_law_3 ++ (m_law_4 ++ (m_law_5 ++ (m_law_6 ++ (m_law_7 ++ (m_law_8 ++ (m_law_9 ++ (m_law_10 ++ (m_law_11 ++ (m_law_12 ++ (m_law_13 ++ (m_law_14 ++ (m_law_15 ++ (m_law_16 ++ (m_law_17 ++ (m_law_18 ++ (m_law_19)))))))))))))))))))
/-- the methods: name, bytes, locals, kind of answer -/
def mv_NL : List (MethodName × ByteArray × Nat × Option FieldType) := [
  (⟨"java/util/Arrays", "fill", "([II)V"⟩, prog_17_method_103_code, 4, (none : Option FieldType)),
  (⟨"java/util/Arrays", "fill", "([BB)V"⟩, prog_17_method_109_code, 4, (none : Option FieldType)),
  (⟨"WordMonoids$Words", "read", "(I)Z"⟩, prog_12_method_2_code, 6, (some .boolean)),
  (⟨"WordMonoids$Words", "letterAt", "(I)I"⟩, prog_12_method_3_code, 2, (some .int)),
  (⟨"WordMonoids$Words", "first", "(I)V"⟩, prog_12_method_4_code, 2, (none : Option FieldType)),
  (⟨"WordMonoids$Words", "advance", "()V"⟩, prog_12_method_5_code, 2, (none : Option FieldType)),
  (⟨"WordMonoids$Words", "told", "()I"⟩, prog_12_method_6_code, 3, (some .int)),
  (⟨"WordMonoids$Words", "howMany", "(I)I"⟩, prog_12_method_7_code, 3, (some .int)),
  (⟨"WordMonoids$Machine", "renew", "(I)V"⟩, prog_6_method_2_code, 3, (none : Option FieldType)),
  (⟨"WordMonoids$Machine", "become", "(LWordMonoids$Machine;)V"⟩, prog_6_method_3_code, 2, (none : Option FieldType)),
  (⟨"WordMonoids$Machine", "hasPoint", "(I)Z"⟩, prog_6_method_4_code, 2, (some .boolean)),
  (⟨"WordMonoids$Machine", "everyPoint", "()I"⟩, prog_6_method_5_code, 1, (some .int)),
  (⟨"WordMonoids$Machine", "isEnd", "(I)Z"⟩, prog_6_method_6_code, 2, (some .boolean)),
  (⟨"WordMonoids$Machine", "next", "(II)I"⟩, prog_6_method_7_code, 4, (some .int)),
  (⟨"WordMonoids$Machine", "lead", "(III)V"⟩, prog_6_method_8_code, 5, (none : Option FieldType)),
  (⟨"WordMonoids$Machine", "pointsThatLeadToEnds", "(I)I"⟩, prog_6_method_9_code, 4, (some .int)),
  (⟨"WordMonoids$Machine", "accepts", "(LWordMonoids$Words;)Z"⟩, prog_6_method_10_code, 4, (some .boolean)),
  (⟨"WordMonoids$Machine", "key", "()J"⟩, prog_6_method_11_code, 4, (some .long)),
  (⟨"WordMonoids$Sheet", "renew", "(II)V"⟩, prog_10_method_2_code, 3, (none : Option FieldType)),
  (⟨"WordMonoids$Sheet", "isMissing", "()Z"⟩, prog_10_method_3_code, 1, (some .boolean)),
  (⟨"WordMonoids$Sheet", "hasItem", "(I)Z"⟩, prog_10_method_4_code, 2, (some .boolean)),
  (⟨"WordMonoids$Sheet", "hasRun", "(II)Z"⟩, prog_10_method_5_code, 3, (some .boolean)),
  (⟨"WordMonoids$Sheet", "item", "(I)I"⟩, prog_10_method_6_code, 2, (some .int)),
  (⟨"WordMonoids$Sheet", "write", "(II)V"⟩, prog_10_method_7_code, 3, (none : Option FieldType)),
  (⟨"WordMonoids$Formula", "atom", "(III)I"⟩, prog_2_method_2_code, 3, (some .int)),
  (⟨"WordMonoids$Formula", "keep", "([II)V"⟩, prog_2_method_3_code, 3, (none : Option FieldType)),
  (⟨"WordMonoids$Formula", "accepts", "(LWordMonoids$Words;)Z"⟩, prog_2_method_4_code, 4, (some .boolean)),
  (⟨"WordMonoids$Formula", "howMany", "(I)I"⟩, prog_2_method_5_code, 1, (some .int)),
  (⟨"WordMonoids$Formula", "isSo", "(ILWordMonoids$Words;)Z"⟩, prog_2_method_6_code, 3, (some .boolean)),
  (⟨"WordMonoids$Formula", "standsBeside", "(IILWordMonoids$Words;)Z"⟩, prog_2_method_7_code, 6, (some .boolean)),
  (⟨"WordMonoids$Formula", "standsScattered", "(IILWordMonoids$Words;)Z"⟩, prog_2_method_8_code, 7, (some .boolean)),
  (⟨"WordMonoids$Reader", "append", "(I)V"⟩, prog_9_method_2_code, 2, (none : Option FieldType)),
  (⟨"WordMonoids$Reader", "causeAt", "(I)I"⟩, prog_9_method_3_code, 2, (some .int)),
  (⟨"WordMonoids$Reader", "readTape", "()Z"⟩, prog_9_method_4_code, 2, (some .boolean)),
  (⟨"WordMonoids$Reader", "readEither", "()Z"⟩, prog_9_method_5_code, 2, (some .boolean)),
  (⟨"WordMonoids$Reader", "readBoth", "()Z"⟩, prog_9_method_6_code, 2, (some .boolean)),
  (⟨"WordMonoids$Reader", "readOne", "()Z"⟩, prog_9_method_7_code, 2, (some .boolean)),
  (⟨"WordMonoids$Reader", "readNegated", "()Z"⟩, prog_9_method_8_code, 1, (some .boolean)),
  (⟨"WordMonoids$Reader", "readEnclosed", "()Z"⟩, prog_9_method_9_code, 1, (some .boolean)),
  (⟨"WordMonoids$Reader", "readAtom", "()Z"⟩, prog_9_method_10_code, 1, (some .boolean)),
  (⟨"WordMonoids$Reader", "readMultiple", "()Z"⟩, prog_9_method_11_code, 2, (some .boolean)),
  (⟨"WordMonoids$Reader", "readLetters", "(I)Z"⟩, prog_9_method_12_code, 4, (some .boolean)),
  (⟨"WordMonoids$Reader", "peek", "()I"⟩, prog_9_method_13_code, 1, (some .int)),
  (⟨"WordMonoids$Reader", "emit", "(I)V"⟩, prog_9_method_14_code, 2, (none : Option FieldType)),
  (⟨"WordMonoids$Reader", "refuse", "()Z"⟩, prog_9_method_15_code, 1, (some .boolean)),
  (⟨"WordMonoids$Reader", "keepCauses", "()V"⟩, prog_9_method_16_code, 2, (none : Option FieldType)),
  (⟨"WordMonoids$Least", "minimise", "(LWordMonoids$Machine;)V"⟩, prog_5_method_2_code, 4, (none : Option FieldType)),
  (⟨"WordMonoids$Least", "next", "(II)I"⟩, prog_5_method_3_code, 4, (some .int)),
  (⟨"WordMonoids$Least", "numberFor", "(LWordMonoids$Machine;I)I"⟩, prog_5_method_4_code, 4, (some .int)),
  (⟨"WordMonoids$Least", "firstAlike", "(I)I"⟩, prog_5_method_5_code, 3, (some .int)),
  (⟨"WordMonoids$Least", "areApart", "(II)Z"⟩, prog_5_method_6_code, 3, (some .boolean)),
  (⟨"WordMonoids$Least", "findApart", "(LWordMonoids$Machine;)V"⟩, prog_5_method_7_code, 5, (none : Option FieldType)),
  (⟨"WordMonoids$Least", "leadApart", "(LWordMonoids$Machine;II)Z"⟩, prog_5_method_8_code, 5, (some .boolean)),
  (⟨"WordMonoids$Monoid", "then", "(II)I"⟩, prog_7_method_2_code, 2, (some .int)),
  (⟨"WordMonoids$Monoid", "isIdempotent", "(I)Z"⟩, prog_7_method_3_code, 1, (some .boolean)),
  (⟨"WordMonoids$Monoid", "learn", "(LWordMonoids$Machine;)V"⟩, prog_7_method_4_code, 5, (none : Option FieldType)),
  (⟨"WordMonoids$Monoid", "hasElement", "(I)Z"⟩, prog_7_method_5_code, 2, (some .boolean)),
  (⟨"WordMonoids$Monoid", "codeOf", "(I)I"⟩, prog_7_method_6_code, 2, (some .int)),
  (⟨"WordMonoids$Monoid", "numberOf", "(I)I"⟩, prog_7_method_7_code, 2, (some .int)),
  (⟨"WordMonoids$Monoid", "omegaOf", "(I)I"⟩, prog_7_method_8_code, 2, (some .int)),
  (⟨"WordMonoids$Monoid", "behind", "(II)I"⟩, prog_7_method_9_code, 3, (some .int)),
  (⟨"WordMonoids$Monoid", "ahead", "(II)I"⟩, prog_7_method_10_code, 3, (some .int)),
  (⟨"WordMonoids$Monoid", "lettersOf", "(I)I"⟩, prog_7_method_11_code, 2, (some .int)),
  (⟨"WordMonoids$Monoid", "letterOf", "(II)I"⟩, prog_7_method_12_code, 6, (some .int)),
  (⟨"WordMonoids$Monoid", "isTie", "(I)Z"⟩, prog_7_method_13_code, 2, (some .boolean)),
  (⟨"WordMonoids$Monoid", "isTaken", "(I)Z"⟩, prog_7_method_14_code, 2, (some .boolean)),
  (⟨"WordMonoids$Monoid", "indexOf", "(I)I"⟩, prog_7_method_15_code, 4, (some .int)),
  (⟨"WordMonoids$Monoid", "periodOf", "(I)I"⟩, prog_7_method_16_code, 5, (some .int)),
  (⟨"WordMonoids$Monoid", "idempotents", "()I"⟩, prog_7_method_17_code, 3, (some .int)),
  (⟨"WordMonoids$Monoid", "greatestPeriod", "()I"⟩, prog_7_method_18_code, 3, (some .int)),
  (⟨"WordMonoids$Monoid", "takenElements", "()I"⟩, prog_7_method_19_code, 3, (some .int)),
  (⟨"WordMonoids$Monoid", "zero", "()I"⟩, prog_7_method_20_code, 2, (some .int)),
  (⟨"WordMonoids$Monoid", "isZero", "(I)Z"⟩, prog_7_method_21_code, 3, (some .boolean)),
  (⟨"WordMonoids$Monoid", "gatherFrom", "(II)I"⟩, prog_7_method_22_code, 6, (some .int)),
  (⟨"WordMonoids$Monoid", "gatherAround", "(I)I"⟩, prog_7_method_23_code, 4, (some .int)),
  (⟨"WordMonoids$Monoid", "gatheredAt", "(I)I"⟩, prog_7_method_24_code, 2, (some .int)),
  (⟨"WordMonoids$Monoid", "isGathered", "(I)Z"⟩, prog_7_method_25_code, 2, (some .boolean)),
  (⟨"WordMonoids$Monoid", "classesBy", "(I)I"⟩, prog_7_method_26_code, 6, (some .int)),
  (⟨"WordMonoids$Monoid", "gather", "(II)I"⟩, prog_7_method_27_code, 4, (some .int)),
  (⟨"WordMonoids$Monoid", "codeOfLetter", "(I)I"⟩, prog_7_method_28_code, 5, (some .int)),
  (⟨"WordMonoids$Monoid", "findElements", "()V"⟩, prog_7_method_29_code, 4, (none : Option FieldType)),
  (⟨"WordMonoids$Monoid", "addElement", "(III)V"⟩, prog_7_method_30_code, 4, (none : Option FieldType)),
  (⟨"WordMonoids$Monoid", "findOmega", "(I)I"⟩, prog_7_method_31_code, 4, (some .int)),
  (⟨"WordMonoids$Laws", "findWrong", "(I)Z"⟩, prog_4_method_2_code, 6, (some .boolean)),
  (⟨"WordMonoids$Laws", "isLawful", "(III)Z"⟩, prog_4_method_3_code, 6, (some .boolean)),
  (⟨"WordMonoids$Laws", "isLawfulByOmegas", "(III)Z"⟩, prog_4_method_4_code, 5, (some .boolean)),
  (⟨"WordMonoids$Laws", "isLawfulOfTie", "(III)Z"⟩, prog_4_method_5_code, 4, (some .boolean)),
  (⟨"WordMonoids$Laws", "isQuietAround", "(I)Z"⟩, prog_4_method_6_code, 4, (some .boolean)),
  (⟨"WordMonoids$Known", "tellsTaken", "(LWordMonoids$Machine;II)Z"⟩, prog_3_method_2_code, 6, (some .boolean)),
  (⟨"WordMonoids$Known", "keepsApart", "(LWordMonoids$Machine;LWordMonoids$Machine;II)Z"⟩, prog_3_method_3_code, 6, (some .boolean)),
  (⟨"WordMonoids$Known", "explore", "(LWordMonoids$Machine;III)V"⟩, prog_3_method_4_code, 10, (none : Option FieldType)),
  (⟨"WordMonoids$Known", "reach", "(IIII)I"⟩, prog_3_method_5_code, 6, (some .int)),
  (⟨"WordMonoids$Known", "nextSort", "(IIII)I"⟩, prog_3_method_6_code, 4, (some .int)),
  (⟨"WordMonoids$Known", "nextSubwords", "(II)I"⟩, prog_3_method_7_code, 4, (some .int)),
  (⟨"WordMonoids$Known", "nextNeighbours", "(II)I"⟩, prog_3_method_8_code, 5, (some .int)),
  (⟨"WordMonoids$Pairs", "leastWord", "(LWordMonoids$Machine;LWordMonoids$Machine;I)J"⟩, prog_8_method_2_code, 11, (some .long)),
  (⟨"WordMonoids$Pairs", "isWanted", "(ZZI)Z"⟩, prog_8_method_3_code, 3, (some .boolean)),
  (⟨"WordMonoids", "machine", "(I)I"⟩, prog_1_method_2_code, 2, (some .int)),
  (⟨"WordMonoids", "drop", "()I"⟩, prog_1_method_3_code, 1, (some .int)),
  (⟨"WordMonoids", "step", "(IIII)I"⟩, prog_1_method_4_code, 7, (some .int)),
  (⟨"WordMonoids", "ends", "(II)I"⟩, prog_1_method_5_code, 5, (some .int)),
  (⟨"WordMonoids", "start", "(II)I"⟩, prog_1_method_6_code, 5, (some .int)),
  (⟨"WordMonoids", "of", "(II)I"⟩, prog_1_method_7_code, 4, (some .int)),
  (⟨"WordMonoids", "takes", "(II)I"⟩, prog_1_method_8_code, 4, (some .int)),
  (⟨"WordMonoids", "quotient", "(III)I"⟩, prog_1_method_9_code, 5, (some .int)),
  (⟨"WordMonoids", "turn", "(I)I"⟩, prog_1_method_10_code, 3, (some .int)),
  (⟨"WordMonoids", "size", "(I)I"⟩, prog_1_method_11_code, 2, (some .int)),
  (⟨"WordMonoids", "word", "(III)I"⟩, prog_1_method_12_code, 4, (some .int)),
  (⟨"WordMonoids", "element", "(II)I"⟩, prog_1_method_13_code, 5, (some .int)),
  (⟨"WordMonoids", "times", "(III)I"⟩, prog_1_method_14_code, 4, (some .int)),
  (⟨"WordMonoids", "power", "(III)I"⟩, prog_1_method_15_code, 4, (some .int)),
  (⟨"WordMonoids", "below", "(IIII)I"⟩, prog_1_method_16_code, 5, (some .int)),
  (⟨"WordMonoids", "green", "(II)I"⟩, prog_1_method_17_code, 3, (some .int)),
  (⟨"WordMonoids", "holds", "(I)I"⟩, prog_1_method_18_code, 4, (some .int)),
  (⟨"WordMonoids", "wrong", "(III)I"⟩, prog_1_method_19_code, 4, (some .int)),
  (⟨"WordMonoids", "level", "(II)I"⟩, prog_1_method_20_code, 5, (some .int)),
  (⟨"WordMonoids", "separates", "(III)I"⟩, prog_1_method_21_code, 7, (some .int)),
  (⟨"WordMonoids", "least", "(III)J"⟩, prog_1_method_22_code, 6, (some .long)),
  (⟨"WordMonoids", "formula", "()I"⟩, prog_1_method_23_code, 1, (some .int)),
  (⟨"WordMonoids", "why", "(I)I"⟩, prog_1_method_24_code, 2, (some .int)),
  (⟨"WordMonoids", "says", "(II)I"⟩, prog_1_method_25_code, 4, (some .int)),
  (⟨"WordMonoids", "many", "(III)I"⟩, prog_1_method_26_code, 8, (some .int)),
  (⟨"WordMonoids", "agree", "(III)I"⟩, prog_1_method_27_code, 9, (some .int)),
  (⟨"WordMonoids", "drawn", "(III)I"⟩, prog_1_method_28_code, 7, (some .int)),
  (⟨"WordMonoids", "chance", "(IIIII)I"⟩, prog_1_method_29_code, 10, (some .int)),
  (⟨"WordMonoids", "tells", "(III)I"⟩, prog_1_method_30_code, 8, (some .int)),
  (⟨"WordMonoids", "film", "(IIII)I"⟩, prog_1_method_31_code, 11, (some .int)),
  (⟨"WordMonoids", "feed", "(IIIIII)I"⟩, prog_1_method_32_code, 8, (some .int)),
  (⟨"WordMonoids", "image", "()I"⟩, prog_1_method_33_code, 2, (some .int)),
  (⟨"WordMonoids", "back", "()I"⟩, prog_1_method_34_code, 2, (some .int)),
  (⟨"WordMonoids", "load", "(IIII)I"⟩, prog_1_method_35_code, 10, (some .int)),
  (⟨"WordMonoids", "count", "(I)I"⟩, prog_1_method_36_code, 2, (some .int)),
  (⟨"WordMonoids", "sheet", "(III)I"⟩, prog_1_method_37_code, 5, (some .int)),
  (⟨"WordMonoids", "put", "(III)I"⟩, prog_1_method_38_code, 5, (some .int)),
  (⟨"WordMonoids", "copy", "(IIIII)I"⟩, prog_1_method_39_code, 8, (some .int)),
  (⟨"WordMonoids", "machineAt", "(I)LWordMonoids$Machine;"⟩, prog_1_method_40_code, 2, (some (.object "WordMonoids$Machine"))),
  (⟨"WordMonoids", "formulaAt", "(I)LWordMonoids$Formula;"⟩, prog_1_method_41_code, 2, (some (.object "WordMonoids$Formula"))),
  (⟨"WordMonoids", "sheetAt", "(I)LWordMonoids$Sheet;"⟩, prog_1_method_42_code, 2, (some (.object "WordMonoids$Sheet"))),
  (⟨"WordMonoids", "takerAt", "(II)LWordMonoids$Taker;"⟩, prog_1_method_43_code, 3, (some (.object "WordMonoids$Taker"))),
  (⟨"WordMonoids", "learnt", "(I)Z"⟩, prog_1_method_44_code, 3, (some .boolean)),
  (⟨"WordMonoids", "isLetter", "(I)Z"⟩, prog_1_method_45_code, 1, (some .boolean)),
  (⟨"WordMonoids", "isByte", "(I)Z"⟩, prog_1_method_46_code, 1, (some .boolean)),
  (⟨"WordMonoids", "pointsOfAll", "()I"⟩, prog_1_method_47_code, 3, (some .int)),
  (⟨"WordMonoids", "nextLot", "(I)I"⟩, prog_1_method_48_code, 1, (some .int)),
  (⟨"WordMonoids", "lotLetter", "(I)I"⟩, prog_1_method_49_code, 1, (some .int)),
  (⟨"WordMonoids", "takesDrawn", "(LWordMonoids$Machine;II)Z"⟩, prog_1_method_50_code, 6, (some .boolean)),
  (⟨"WordMonoids", "commonDivisor", "(II)I"⟩, prog_1_method_51_code, 6, (some .int)),
  (⟨"WordMonoidsModel", "in", "(JJJ)Z"⟩, prog_14_method_2_code, 6, (some .boolean)),
  (⟨"WordMonoidsModel", "bit", "(Z)I"⟩, prog_14_method_3_code, 1, (some .int)),
  (⟨"WordMonoidsModel", "isMachine", "(I)Z"⟩, prog_14_method_4_code, 2, (some .boolean)),
  (⟨"WordMonoidsModel", "pointsOf", "(I)I"⟩, prog_14_method_5_code, 2, (some .int)),
  (⟨"WordMonoidsModel", "isPoint", "(II)Z"⟩, prog_14_method_6_code, 3, (some .boolean)),
  (⟨"WordMonoidsModel", "isLetter", "(I)Z"⟩, prog_14_method_7_code, 1, (some .boolean)),
  (⟨"WordMonoidsModel", "to", "(III)I"⟩, prog_14_method_8_code, 4, (some .int)),
  (⟨"WordMonoidsModel", "startOf", "(I)I"⟩, prog_14_method_9_code, 2, (some .int)),
  (⟨"WordMonoidsModel", "isEnd", "(II)Z"⟩, prog_14_method_10_code, 3, (some .boolean)),
  (⟨"WordMonoidsModel", "isWord", "(I)Z"⟩, prog_14_method_11_code, 5, (some .boolean)),
  (⟨"WordMonoidsModel", "wordNow", "()I"⟩, prog_14_method_12_code, 3, (some .int)),
  (⟨"WordMonoidsModel", "goesToNext", "()Z"⟩, prog_14_method_13_code, 2, (some .boolean)),
  (⟨"WordMonoidsModel", "beginsWords", "(I)V"⟩, prog_14_method_14_code, 3, (none : Option FieldType)),
  (⟨"WordMonoidsModel", "takesNow", "(I)Z"⟩, prog_14_method_15_code, 4, (some .boolean)),
  (⟨"WordMonoidsModel", "machine", "(I)I"⟩, prog_14_method_16_code, 5, (some .int)),
  (⟨"WordMonoidsModel", "drop", "()I"⟩, prog_14_method_17_code, 1, (some .int)),
  (⟨"WordMonoidsModel", "step", "(IIII)I"⟩, prog_14_method_18_code, 6, (some .int)),
  (⟨"WordMonoidsModel", "ends", "(II)I"⟩, prog_14_method_19_code, 4, (some .int)),
  (⟨"WordMonoidsModel", "start", "(II)I"⟩, prog_14_method_20_code, 4, (some .int)),
  (⟨"WordMonoidsModel", "of", "(II)I"⟩, prog_14_method_21_code, 3, (some .int)),
  (⟨"WordMonoidsModel", "takes", "(II)I"⟩, prog_14_method_22_code, 3, (some .int)),
  (⟨"WordMonoidsModel", "quotient", "(III)I"⟩, prog_14_method_23_code, 6, (some .int)),
  (⟨"WordMonoidsModel", "turn", "(I)I"⟩, prog_14_method_24_code, 2, (some .int)),
  (⟨"WordMonoidsModel", "partsPoints", "(I)V"⟩, prog_14_method_25_code, 6, (none : Option FieldType)),
  (⟨"WordMonoidsModel", "areAlike", "(III)Z"⟩, prog_14_method_26_code, 6, (some .boolean)),
  (⟨"WordMonoidsModel", "findsLeast", "(I)V"⟩, prog_14_method_27_code, 5, (none : Option FieldType)),
  (⟨"WordMonoidsModel", "ledBy", "(II)I"⟩, prog_14_method_28_code, 2, (some .int)),
  (⟨"WordMonoidsModel", "behind", "(II)I"⟩, prog_14_method_29_code, 5, (some .int)),
  (⟨"WordMonoidsModel", "comes", "(III)V"⟩, prog_14_method_30_code, 4, (none : Option FieldType)),
  (⟨"WordMonoidsModel", "findsElements", "(I)V"⟩, prog_14_method_31_code, 6, (none : Option FieldType)),
  (⟨"WordMonoidsModel", "timesOf", "(II)I"⟩, prog_14_method_32_code, 3, (some .int)),
  (⟨"WordMonoidsModel", "at", "(II)I"⟩, prog_14_method_33_code, 3, (some .int)),
  (⟨"WordMonoidsModel", "omegaOf", "(I)I"⟩, prog_14_method_34_code, 3, (some .int)),
  (⟨"WordMonoidsModel", "findsTable", "(I)V"⟩, prog_14_method_35_code, 4, (none : Option FieldType)),
  (⟨"WordMonoidsModel", "isElement", "(I)Z"⟩, prog_14_method_36_code, 2, (some .boolean)),
  (⟨"WordMonoidsModel", "size", "(I)I"⟩, prog_14_method_37_code, 2, (some .int)),
  (⟨"WordMonoidsModel", "lengthOf", "(I)I"⟩, prog_14_method_38_code, 4, (some .int)),
  (⟨"WordMonoidsModel", "word", "(III)I"⟩, prog_14_method_39_code, 7, (some .int)),
  (⟨"WordMonoidsModel", "element", "(II)I"⟩, prog_14_method_40_code, 5, (some .int)),
  (⟨"WordMonoidsModel", "times", "(III)I"⟩, prog_14_method_41_code, 4, (some .int)),
  (⟨"WordMonoidsModel", "findsPowers", "(I)V"⟩, prog_14_method_42_code, 4, (none : Option FieldType)),
  (⟨"WordMonoidsModel", "power", "(III)I"⟩, prog_14_method_43_code, 4, (some .int)),
  (⟨"WordMonoidsModel", "heaps", "(I)V"⟩, prog_14_method_44_code, 2, (none : Option FieldType)),
  (⟨"WordMonoidsModel", "findsFrom", "(II)V"⟩, prog_14_method_45_code, 6, (none : Option FieldType)),
  (⟨"WordMonoidsModel", "below", "(IIII)I"⟩, prog_14_method_46_code, 5, (some .int)),
  (⟨"WordMonoidsModel", "classes", "(I)I"⟩, prog_14_method_47_code, 6, (some .int)),
  (⟨"WordMonoidsModel", "isZero", "(I)Z"⟩, prog_14_method_48_code, 5, (some .boolean)),
  (⟨"WordMonoidsModel", "isTaken", "(I)Z"⟩, prog_14_method_49_code, 2, (some .boolean)),
  (⟨"WordMonoidsModel", "green", "(II)I"⟩, prog_14_method_50_code, 6, (some .int)),
  (⟨"WordMonoidsModel", "isByOne", "(I)Z"⟩, prog_14_method_51_code, 1, (some .boolean)),
  (⟨"WordMonoidsModel", "isIdempotent", "(I)Z"⟩, prog_14_method_52_code, 2, (some .boolean)),
  (⟨"WordMonoidsModel", "isTie", "(I)Z"⟩, prog_14_method_53_code, 2, (some .boolean)),
  (⟨"WordMonoidsModel", "goesWith", "(II)Z"⟩, prog_14_method_54_code, 5, (some .boolean)),
  (⟨"WordMonoidsModel", "isSo", "(III)Z"⟩, prog_14_method_55_code, 7, (some .boolean)),
  (⟨"WordMonoidsModel", "findsWrong", "(I)V"⟩, prog_14_method_56_code, 4, (none : Option FieldType)),
  (⟨"WordMonoidsModel", "holds", "(I)I"⟩, prog_14_method_57_code, 4, (some .int)),
  (⟨"WordMonoidsModel", "wrong", "(III)I"⟩, prog_14_method_58_code, 4, (some .int)),
  (⟨"WordMonoidsModel", "known", "(IIII)I"⟩, prog_14_method_59_code, 7, (some .int)),
  (⟨"WordMonoidsModel", "findsKnown", "(III)V"⟩, prog_14_method_60_code, 10, (none : Option FieldType)),
  (⟨"WordMonoidsModel", "level", "(II)I"⟩, prog_14_method_61_code, 6, (some .int)),
  (⟨"WordMonoidsModel", "separates", "(III)I"⟩, prog_14_method_62_code, 7, (some .int)),
  (⟨"WordMonoidsModel", "least", "(III)J"⟩, prog_14_method_63_code, 12, (some .long)),
  (⟨"WordMonoidsModel", "next", "()I"⟩, prog_14_method_64_code, 1, (some .int)),
  (⟨"WordMonoidsModel", "faulty", "(I)V"⟩, prog_14_method_65_code, 3, (none : Option FieldType)),
  (⟨"WordMonoidsModel", "either", "()Z"⟩, prog_14_method_66_code, 3, (some .boolean)),
  (⟨"WordMonoidsModel", "both", "()Z"⟩, prog_14_method_67_code, 3, (some .boolean)),
  (⟨"WordMonoidsModel", "opens", "()Z"⟩, prog_14_method_68_code, 1, (some .boolean)),
  (⟨"WordMonoidsModel", "one", "()Z"⟩, prog_14_method_69_code, 3, (some .boolean)),
  (⟨"WordMonoidsModel", "atom", "(I)Z"⟩, prog_14_method_70_code, 2, (some .boolean)),
  (⟨"WordMonoidsModel", "sample", "(I)Z"⟩, prog_14_method_71_code, 6, (some .boolean)),
  (⟨"WordMonoidsModel", "stands", "(III)Z"⟩, prog_14_method_72_code, 6, (some .boolean)),
  (⟨"WordMonoidsModel", "goesThrough", "(I)Z"⟩, prog_14_method_73_code, 3, (some .boolean)),
  (⟨"WordMonoidsModel", "isFormula", "(I)Z"⟩, prog_14_method_74_code, 2, (some .boolean)),
  (⟨"WordMonoidsModel", "saysNow", "(I)Z"⟩, prog_14_method_75_code, 2, (some .boolean)),
  (⟨"WordMonoidsModel", "formula", "()I"⟩, prog_14_method_76_code, 3, (some .int)),
  (⟨"WordMonoidsModel", "why", "(I)I"⟩, prog_14_method_77_code, 2, (some .int)),
  (⟨"WordMonoidsModel", "says", "(II)I"⟩, prog_14_method_78_code, 3, (some .int)),
  (⟨"WordMonoidsModel", "isAsked", "(II)Z"⟩, prog_14_method_79_code, 3, (some .boolean)),
  (⟨"WordMonoidsModel", "saysOf", "(II)Z"⟩, prog_14_method_80_code, 3, (some .boolean)),
  (⟨"WordMonoidsModel", "many", "(III)I"⟩, prog_14_method_81_code, 5, (some .int)),
  (⟨"WordMonoidsModel", "agree", "(III)I"⟩, prog_14_method_82_code, 6, (some .int)),
  (⟨"WordMonoidsModel", "drawn", "(III)I"⟩, prog_14_method_83_code, 7, (some .int)),
  (⟨"WordMonoidsModel", "isDrawnTaken", "(III)Z"⟩, prog_14_method_84_code, 7, (some .boolean)),
  (⟨"WordMonoidsModel", "chance", "(IIIII)I"⟩, prog_14_method_85_code, 10, (some .int)),
  (⟨"WordMonoidsModel", "tells", "(III)I"⟩, prog_14_method_86_code, 6, (some .int)),
  (⟨"WordMonoidsModel", "film", "(IIII)I"⟩, prog_14_method_87_code, 8, (some .int)),
  (⟨"WordMonoidsModel", "isByte", "(I)Z"⟩, prog_14_method_88_code, 1, (some .boolean)),
  (⟨"WordMonoidsModel", "feed", "(IIIIII)I"⟩, prog_14_method_89_code, 8, (some .int)),
  (⟨"WordMonoidsModel", "image", "()I"⟩, prog_14_method_90_code, 1, (some .int)),
  (⟨"WordMonoidsModel", "back", "()I"⟩, prog_14_method_91_code, 1, (some .int)),
  (⟨"WordMonoidsModel", "isSheet", "(I)Z"⟩, prog_14_method_92_code, 1, (some .boolean)),
  (⟨"WordMonoidsModel", "becomes", "(III)V"⟩, prog_14_method_93_code, 5, (none : Option FieldType)),
  (⟨"WordMonoidsModel", "load", "(IIII)I"⟩, prog_14_method_94_code, 10, (some .int)),
  (⟨"WordMonoidsModel", "count", "(I)I"⟩, prog_14_method_95_code, 4, (some .int)),
  (⟨"WordMonoidsModel", "sheet", "(III)I"⟩, prog_14_method_96_code, 4, (some .int)),
  (⟨"WordMonoidsModel", "put", "(III)I"⟩, prog_14_method_97_code, 4, (some .int)),
  (⟨"WordMonoidsModel", "copy", "(IIIII)I"⟩, prog_14_method_98_code, 6, (some .int)),
  (⟨"WordMonoidsLaw", "law", "([I)Z"⟩, code, 4, some .boolean)]
def mv_N (f : Nat) : MethodName × ByteArray × Nat × Option FieldType := mv_NL.getD f (⟨"", "", ""⟩, ⟨#[]⟩, 0, none)
/-- where the tables have of a method: its code, its class as initialised, that it is static or not, what it selects, what it selects of an abstract one -/
def mv_posL : List (Nat × Nat × Nat × Nat × Nat) := [
  (493, 100, 492, 0, 0),
  (738, 100, 737, 0, 0),
  (544, 89, 542, 543, 0),
  (552, 89, 550, 551, 0),
  (899, 89, 897, 898, 0),
  (908, 89, 906, 907, 0),
  (916, 89, 914, 915, 0),
  (895, 89, 894, 0, 0),
  (418, 96, 416, 417, 0),
  (989, 96, 987, 988, 0),
  (434, 96, 432, 433, 0),
  (453, 96, 451, 452, 0),
  (481, 96, 479, 480, 0),
  (441, 96, 439, 440, 0),
  (445, 96, 443, 444, 0),
  (562, 96, 560, 561, 0),
  (548, 96, 546, 547, 904),
  (469, 96, 467, 468, 0),
  (963, 98, 961, 962, 0),
  (951, 98, 949, 950, 0),
  (1002, 98, 1000, 1001, 0),
  (1026, 98, 1024, 1025, 0),
  (955, 98, 953, 954, 0),
  (970, 98, 968, 969, 0),
  (824, 97, 823, 0, 0),
  (847, 97, 845, 846, 0),
  (872, 97, 870, 871, 903),
  (878, 97, 877, 0, 0),
  (875, 97, 874, 0, 0),
  (881, 97, 880, 0, 0),
  (884, 97, 883, 0, 0),
  (981, 88, 979, 980, 0),
  (860, 88, 858, 859, 0),
  (789, 88, 787, 788, 0),
  (793, 88, 792, 19, 0),
  (797, 88, 796, 20, 0),
  (801, 88, 800, 21, 0),
  (832, 88, 831, 28, 0),
  (836, 88, 835, 29, 0),
  (809, 88, 808, 23, 0),
  (817, 88, 816, 25, 0),
  (828, 88, 827, 27, 0),
  (805, 88, 804, 22, 0),
  (813, 88, 812, 24, 0),
  (821, 88, 820, 26, 0),
  (840, 88, 839, 30, 0),
  (473, 92, 471, 472, 0),
  (509, 92, 507, 508, 0),
  (497, 92, 496, 4, 0),
  (501, 92, 500, 5, 0),
  (490, 92, 489, 3, 0),
  (477, 92, 476, 1, 0),
  (485, 92, 484, 2, 0),
  (525, 91, 524, 0, 0),
  (536, 91, 535, 0, 0),
  (465, 91, 463, 464, 0),
  (582, 91, 580, 581, 0),
  (606, 91, 604, 605, 0),
  (529, 91, 527, 528, 0),
  (615, 91, 613, 614, 0),
  (522, 91, 520, 521, 0),
  (641, 91, 639, 640, 0),
  (586, 91, 584, 585, 0),
  (590, 91, 588, 589, 0),
  (695, 91, 693, 694, 0),
  (675, 91, 673, 674, 0),
  (619, 91, 617, 618, 0),
  (625, 91, 623, 624, 0),
  (653, 91, 651, 652, 0),
  (663, 91, 661, 662, 0),
  (671, 91, 669, 670, 0),
  (679, 91, 677, 678, 0),
  (683, 91, 682, 12, 0),
  (633, 91, 631, 632, 0),
  (700, 91, 698, 699, 0),
  (723, 91, 721, 722, 0),
  (645, 91, 643, 644, 0),
  (657, 91, 655, 656, 0),
  (637, 91, 636, 11, 0),
  (505, 91, 504, 6, 0),
  (513, 91, 512, 7, 0),
  (518, 91, 517, 8, 0),
  (533, 91, 532, 9, 0),
  (691, 90, 689, 690, 0),
  (704, 90, 703, 13, 0),
  (711, 90, 710, 14, 0),
  (715, 90, 714, 15, 0),
  (719, 90, 718, 16, 0),
  (735, 93, 733, 734, 0),
  (765, 93, 763, 764, 0),
  (742, 93, 741, 17, 0),
  (746, 93, 745, 18, 0),
  (749, 93, 748, 0, 0),
  (752, 93, 751, 0, 0),
  (755, 93, 754, 0, 0),
  (774, 94, 772, 773, 0),
  (778, 94, 777, 0, 0),
  (414, 87, 412, 413, 0),
  (422, 87, 420, 421, 0),
  (426, 87, 424, 425, 0),
  (449, 87, 447, 448, 0),
  (457, 87, 455, 456, 0),
  (461, 87, 459, 460, 0),
  (540, 87, 538, 539, 0),
  (558, 87, 556, 557, 0),
  (566, 87, 564, 565, 0),
  (570, 87, 568, 569, 0),
  (578, 87, 576, 577, 0),
  (595, 87, 593, 594, 0),
  (602, 87, 600, 601, 0),
  (611, 87, 609, 610, 0),
  (629, 87, 627, 628, 0),
  (649, 87, 647, 648, 0),
  (687, 87, 685, 686, 0),
  (727, 87, 725, 726, 0),
  (731, 87, 729, 730, 0),
  (761, 87, 759, 760, 0),
  (769, 87, 767, 768, 0),
  (785, 87, 783, 784, 0),
  (856, 87, 854, 855, 0),
  (864, 87, 862, 863, 0),
  (888, 87, 886, 887, 0),
  (912, 87, 910, 911, 0),
  (921, 87, 919, 920, 0),
  (932, 87, 930, 931, 0),
  (943, 87, 941, 942, 0),
  (959, 87, 957, 958, 0),
  (974, 87, 972, 973, 0),
  (985, 87, 983, 984, 0),
  (994, 87, 992, 993, 0),
  (998, 87, 996, 997, 0),
  (1006, 87, 1004, 1005, 0),
  (1014, 87, 1012, 1013, 0),
  (1018, 87, 1016, 1017, 0),
  (1022, 87, 1020, 1021, 0),
  (430, 87, 429, 0, 0),
  (868, 87, 867, 31, 0),
  (947, 87, 946, 33, 0),
  (892, 87, 891, 32, 0),
  (574, 87, 573, 10, 0),
  (437, 87, 436, 0, 0),
  (977, 87, 976, 0, 0),
  (1010, 87, 1009, 34, 0),
  (924, 87, 923, 0, 0),
  (928, 87, 927, 0, 0),
  (935, 87, 934, 0, 0),
  (939, 87, 938, 0, 0),
  (1212, 99, 1211, 0, 0),
  (1271, 99, 1270, 0, 0),
  (1224, 99, 1223, 35, 0),
  (1232, 99, 1231, 37, 0),
  (1228, 99, 1227, 36, 0),
  (1235, 99, 1234, 0, 0),
  (1240, 99, 1239, 38, 0),
  (1252, 99, 1251, 39, 0),
  (1268, 99, 1267, 42, 0),
  (1284, 99, 1283, 44, 0),
  (1537, 99, 1536, 83, 0),
  (1528, 99, 1527, 82, 0),
  (1520, 99, 1519, 80, 0),
  (1289, 99, 1288, 45, 0),
  (1208, 99, 1206, 1207, 0),
  (1216, 99, 1214, 1215, 0),
  (1220, 99, 1218, 1219, 0),
  (1244, 99, 1242, 1243, 0),
  (1248, 99, 1246, 1247, 0),
  (1256, 99, 1254, 1255, 0),
  (1280, 99, 1278, 1279, 0),
  (1293, 99, 1291, 1292, 0),
  (1297, 99, 1295, 1296, 0),
  (1264, 99, 1263, 41, 0),
  (1275, 99, 1274, 43, 0),
  (1260, 99, 1259, 40, 0),
  (1316, 99, 1315, 0, 0),
  (1313, 99, 1312, 48, 0),
  (1309, 99, 1308, 47, 0),
  (1305, 99, 1304, 46, 0),
  (1340, 99, 1339, 51, 0),
  (1404, 99, 1403, 62, 0),
  (1348, 99, 1347, 52, 0),
  (1389, 99, 1388, 59, 0),
  (1324, 99, 1323, 49, 0),
  (1301, 99, 1299, 1300, 0),
  (1328, 99, 1327, 50, 0),
  (1320, 99, 1318, 1319, 0),
  (1332, 99, 1330, 1331, 0),
  (1336, 99, 1334, 1335, 0),
  (1352, 99, 1351, 53, 0),
  (1344, 99, 1342, 1343, 0),
  (1364, 99, 1363, 55, 0),
  (1360, 99, 1359, 54, 0),
  (1356, 99, 1354, 1355, 0),
  (1373, 99, 1372, 56, 0),
  (1381, 99, 1380, 58, 0),
  (1377, 99, 1376, 57, 0),
  (1368, 99, 1366, 1367, 0),
  (1396, 99, 1395, 0, 0),
  (1408, 99, 1407, 63, 0),
  (1412, 99, 1411, 64, 0),
  (1416, 99, 1415, 65, 0),
  (1400, 99, 1399, 61, 0),
  (1393, 99, 1392, 60, 0),
  (1385, 99, 1383, 1384, 0),
  (1420, 99, 1418, 1419, 0),
  (1432, 99, 1431, 0, 0),
  (1429, 99, 1428, 66, 0),
  (1425, 99, 1423, 1424, 0),
  (1436, 99, 1434, 1435, 0),
  (1441, 99, 1439, 1440, 0),
  (1467, 99, 1466, 71, 0),
  (1477, 99, 1476, 73, 0),
  (1455, 99, 1454, 68, 0),
  (1459, 99, 1458, 69, 0),
  (1491, 99, 1490, 76, 0),
  (1463, 99, 1462, 70, 0),
  (1471, 99, 1470, 72, 0),
  (1481, 99, 1480, 74, 0),
  (1487, 99, 1486, 75, 0),
  (1451, 99, 1450, 67, 0),
  (1503, 99, 1502, 77, 0),
  (1507, 99, 1506, 78, 0),
  (1447, 99, 1445, 1446, 0),
  (1495, 99, 1493, 1494, 0),
  (1499, 99, 1497, 1498, 0),
  (1515, 99, 1514, 79, 0),
  (1524, 99, 1523, 81, 0),
  (1511, 99, 1509, 1510, 0),
  (1532, 99, 1530, 1531, 0),
  (1541, 99, 1539, 1540, 0),
  (1551, 99, 1550, 84, 0),
  (1546, 99, 1544, 1545, 0),
  (1555, 99, 1553, 1554, 0),
  (1562, 99, 1560, 1561, 0),
  (1574, 99, 1573, 0, 0),
  (1571, 99, 1569, 1570, 0),
  (1579, 99, 1577, 1578, 0),
  (1583, 99, 1581, 1582, 0),
  (1558, 99, 1557, 0, 0),
  (1567, 99, 1566, 85, 0),
  (1587, 99, 1585, 1586, 0),
  (1591, 99, 1589, 1590, 0),
  (1595, 99, 1593, 1594, 0),
  (1599, 99, 1597, 1598, 0),
  (1603, 99, 1601, 1602, 0),
  (0, 0, 0, 0, 0)]
def mv_pos (f : Nat) : Nat × Nat × Nat × Nat × Nat := mv_posL.getD f (0, 0, 0, 0, 0)
def mv_PL : List mv_M := [m_Arrays_fillI, m_Arrays_fillB, m_Words_read, m_Words_letterAt, m_Words_first, m_Words_advance, m_Words_told, m_Words_howMany, m_Machine_renew, m_Machine_become, m_Machine_hasPoint, m_Machine_everyPoint, m_Machine_isEnd, m_Machine_next, m_Machine_lead, m_Machine_pointsThatLeadToEnds, m_Machine_accepts, m_Machine_key, m_Sheet_renew, m_Sheet_isMissing, m_Sheet_hasItem, m_Sheet_hasRun, m_Sheet_item, m_Sheet_write, m_Formula_atom, m_Formula_keep, m_Formula_accepts, m_Formula_howMany, m_Formula_isSo, m_Formula_standsBeside, m_Formula_standsScattered, m_Reader_append, m_Reader_causeAt, m_Reader_readTape, m_Reader_readEither, m_Reader_readBoth, m_Reader_readOne, m_Reader_readNegated, m_Reader_readEnclosed, m_Reader_readAtom, m_Reader_readMultiple, m_Reader_readLetters, m_Reader_peek, m_Reader_emit, m_Reader_refuse, m_Reader_keepCauses, m_Least_minimise, m_Least_next, m_Least_numberFor, m_Least_firstAlike, m_Least_areApart, m_Least_findApart, m_Least_leadApart, m_Monoid_then, m_Monoid_isIdempotent, m_Monoid_learn, m_Monoid_hasElement, m_Monoid_codeOf, m_Monoid_numberOf, m_Monoid_omegaOf, m_Monoid_behind, m_Monoid_ahead, m_Monoid_lettersOf, m_Monoid_letterOf, m_Monoid_isTie, m_Monoid_isTaken, m_Monoid_indexOf, m_Monoid_periodOf, m_Monoid_idempotents, m_Monoid_greatestPeriod, m_Monoid_takenElements, m_Monoid_zero, m_Monoid_isZero, m_Monoid_gatherFrom, m_Monoid_gatherAround, m_Monoid_gatheredAt, m_Monoid_isGathered, m_Monoid_classesBy, m_Monoid_gather, m_Monoid_codeOfLetter, m_Monoid_findElements, m_Monoid_addElement, m_Monoid_findOmega, m_Laws_findWrong, m_Laws_isLawful, m_Laws_isLawfulByOmegas, m_Laws_isLawfulOfTie, m_Laws_isQuietAround, m_Known_tellsTaken, m_Known_keepsApart, m_Known_explore, m_Known_reach, m_Known_nextSort, m_Known_nextSubwords, m_Known_nextNeighbours, m_Pairs_leastWord, m_Pairs_isWanted, m_WM_machine, m_WM_drop, m_WM_step, m_WM_ends, m_WM_start, m_WM_of, m_WM_takes, m_WM_quotient, m_WM_turn, m_WM_size, m_WM_word, m_WM_element, m_WM_times, m_WM_power, m_WM_below, m_WM_green, m_WM_holds, m_WM_wrong, m_WM_level, m_WM_separates, m_WM_least, m_WM_formula, m_WM_why, m_WM_says, m_WM_many, m_WM_agree, m_WM_drawn, m_WM_chance, m_WM_tells, m_WM_film, m_WM_feed, m_WM_image, m_WM_back, m_WM_load, m_WM_count, m_WM_sheet, m_WM_put, m_WM_copy, m_WM_machineAt, m_WM_formulaAt, m_WM_sheetAt, m_WM_takerAt, m_WM_learnt, m_WM_isLetter, m_WM_isByte, m_WM_pointsOfAll, m_WM_nextLot, m_WM_lotLetter, m_WM_takesDrawn, m_WM_commonDivisor, m_Ref_in, m_Ref_bit, m_Ref_isMachine, m_Ref_pointsOf, m_Ref_isPoint, m_Ref_isLetter, m_Ref_to, m_Ref_startOf, m_Ref_isEnd, m_Ref_isWord, m_Ref_wordNow, m_Ref_goesToNext, m_Ref_beginsWords, m_Ref_takesNow, m_Ref_machine, m_Ref_drop, m_Ref_step, m_Ref_ends, m_Ref_start, m_Ref_of, m_Ref_takes, m_Ref_quotient, m_Ref_turn, m_Ref_partsPoints, m_Ref_areAlike, m_Ref_findsLeast, m_Ref_ledBy, m_Ref_behind, m_Ref_comes, m_Ref_findsElements, m_Ref_timesOf, m_Ref_at, m_Ref_omegaOf, m_Ref_findsTable, m_Ref_isElement, m_Ref_size, m_Ref_lengthOf, m_Ref_word, m_Ref_element, m_Ref_times, m_Ref_findsPowers, m_Ref_power, m_Ref_heaps, m_Ref_findsFrom, m_Ref_below, m_Ref_classes, m_Ref_isZero, m_Ref_isTaken, m_Ref_green, m_Ref_isByOne, m_Ref_isIdempotent, m_Ref_isTie, m_Ref_goesWith, m_Ref_isSo, m_Ref_findsWrong, m_Ref_holds, m_Ref_wrong, m_Ref_known, m_Ref_findsKnown, m_Ref_level, m_Ref_separates, m_Ref_least, m_Ref_next, m_Ref_faulty, m_Ref_either, m_Ref_both, m_Ref_opens, m_Ref_one, m_Ref_atom, m_Ref_sample, m_Ref_stands, m_Ref_goesThrough, m_Ref_isFormula, m_Ref_saysNow, m_Ref_formula, m_Ref_why, m_Ref_says, m_Ref_isAsked, m_Ref_saysOf, m_Ref_many, m_Ref_agree, m_Ref_drawn, m_Ref_isDrawnTaken, m_Ref_chance, m_Ref_tells, m_Ref_film, m_Ref_isByte, m_Ref_feed, m_Ref_image, m_Ref_back, m_Ref_isSheet, m_Ref_becomes, m_Ref_load, m_Ref_count, m_Ref_sheet, m_Ref_put, m_Ref_copy, m_law]
def mv_P (f : Nat) : mv_M := mv_PL.getD f (0, 0, [])
