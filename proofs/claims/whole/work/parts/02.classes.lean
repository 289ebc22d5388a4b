def RX0 : String := "ThumbHedges$Farm"
def TX0 : u_T := fun k => match k with
  | 0 => ("ThumbHedges$Farm", "land", "LThumbHedges$Land;", true)
  | 1 => ("ThumbHedges$Farm", "before", "[LThumbHedges$Land;", true)
  | 2 => ("ThumbHedges$Farm", "firstStep", "I", false)
  | 3 => ("ThumbHedges$Farm", "steps", "I", false)
  | 4 => ("ThumbHedges$Farm", "gates", "I", false)
  | 5 => ("ThumbHedges$Farm", "hands", "I", false)
  | 6 => ("ThumbHedges$Farm", "texts", "I", false)
  | 7 => ("ThumbHedges$Farm", "rule", "I", false)
  | 8 => ("ThumbHedges$Farm", "saids", "I", false)
  | 9 => ("ThumbHedges$Farm", "saidHedges", "[I", true)
  | _ => ("ThumbHedges$Farm", "saidFrosts", "[I", true)
def tyX0 : Nat → FieldType := fun k => match k with
  | 0 => .object "ThumbHedges$Land"
  | 1 => .array (.object "ThumbHedges$Land")
  | 2 => .int
  | 3 => .int
  | 4 => .int
  | 5 => .int
  | 6 => .int
  | 7 => .int
  | 8 => .int
  | 9 => .array .int
  | _ => .array .int
theorem nmX0 : ∀ a, a < 11 → ∀ b, b < 11 → a ≠ b → (TX0 a).2.1 ≠ (TX0 b).2.1 := by decide +kernel
theorem tyX0_ok : ∀ k, k < 11 → parseFieldDescriptor (TX0 k).2.2.1 = some (tyX0 k) := by decide +kernel
def RX1 : String := "ThumbHedges$Hands"
def TX1 : u_T := fun k => match k with
  | _ => ("ThumbHedges$Hands", "patterns", "[J", true)
def tyX1 : Nat → FieldType := fun k => match k with
  | _ => .array .long
theorem nmX1 : ∀ a, a < 1 → ∀ b, b < 1 → a ≠ b → (TX1 a).2.1 ≠ (TX1 b).2.1 := by decide +kernel
theorem tyX1_ok : ∀ k, k < 1 → parseFieldDescriptor (TX1 k).2.2.1 = some (tyX1 k) := by decide +kernel
def RX2 : String := "ThumbHedges$Judge"
def TX2 : u_T := fun k => match k with
  | 0 => ("ThumbHedges$Judge", "names", "[I", true)
  | 1 => ("ThumbHedges$Judge", "stack", "[I", true)
  | _ => ("ThumbHedges$Judge", "height", "I", false)
def tyX2 : Nat → FieldType := fun k => match k with
  | 0 => .array .int
  | 1 => .array .int
  | _ => .int
theorem nmX2 : ∀ a, a < 3 → ∀ b, b < 3 → a ≠ b → (TX2 a).2.1 ≠ (TX2 b).2.1 := by decide +kernel
theorem tyX2_ok : ∀ k, k < 3 → parseFieldDescriptor (TX2 k).2.2.1 = some (tyX2 k) := by decide +kernel
def RX3 : String := "ThumbHedges$Land"
def TX3 : u_T := fun k => match k with
  | 0 => ("ThumbHedges$Land", "hedges", "J", false)
  | 1 => ("ThumbHedges$Land", "told", "I", false)
  | 2 => ("ThumbHedges$Land", "at", "[I", true)
  | 3 => ("ThumbHedges$Land", "way", "[I", true)
  | 4 => ("ThumbHedges$Land", "home", "I", false)
  | 5 => ("ThumbHedges$Land", "hour", "I", false)
  | 6 => ("ThumbHedges$Land", "x", "I", false)
  | 7 => ("ThumbHedges$Land", "lines", "I", false)
  | _ => ("ThumbHedges$Land", "book", "[I", true)
def tyX3 : Nat → FieldType := fun k => match k with
  | 0 => .long
  | 1 => .int
  | 2 => .array .int
  | 3 => .array .int
  | 4 => .int
  | 5 => .int
  | 6 => .int
  | 7 => .int
  | _ => .array .int
theorem nmX3 : ∀ a, a < 9 → ∀ b, b < 9 → a ≠ b → (TX3 a).2.1 ≠ (TX3 b).2.1 := by decide +kernel
theorem tyX3_ok : ∀ k, k < 9 → parseFieldDescriptor (TX3 k).2.2.1 = some (tyX3 k) := by decide +kernel
def RX4 : String := "ThumbHedges$Maze"
def TX4 : u_T := fun k => match k with
  | 0 => ("ThumbHedges$Maze", "toEast", "I", false)
  | 1 => ("ThumbHedges$Maze", "toSouth", "I", false)
  | _ => ("ThumbHedges$Maze", "near", "[I", true)
def tyX4 : Nat → FieldType := fun k => match k with
  | 0 => .int
  | 1 => .int
  | _ => .array .int
theorem nmX4 : ∀ a, a < 3 → ∀ b, b < 3 → a ≠ b → (TX4 a).2.1 ≠ (TX4 b).2.1 := by decide +kernel
theorem tyX4_ok : ∀ k, k < 3 → parseFieldDescriptor (TX4 k).2.2.1 = some (tyX4 k) := by decide +kernel
def RX6 : String := "ThumbHedges$Reader"
def TX6 : u_T := fun k => match k with
  | 0 => ("ThumbHedges$Reader", "bytes", "[I", true)
  | 1 => ("ThumbHedges$Reader", "length", "I", false)
  | 2 => ("ThumbHedges$Reader", "draft", "LThumbHedges$Text;", true)
  | 3 => ("ThumbHedges$Reader", "hasRead", "Z", false)
  | 4 => ("ThumbHedges$Reader", "fault", "I", false)
  | 5 => ("ThumbHedges$Reader", "faultPlace", "I", false)
  | 6 => ("ThumbHedges$Reader", "token", "I", false)
  | 7 => ("ThumbHedges$Reader", "place", "I", false)
  | 8 => ("ThumbHedges$Reader", "value", "I", false)
  | 9 => ("ThumbHedges$Reader", "next", "I", false)
  | 10 => ("ThumbHedges$Reader", "law", "I", false)
  | _ => ("ThumbHedges$Reader", "open", "I", false)
def tyX6 : Nat → FieldType := fun k => match k with
  | 0 => .array .int
  | 1 => .int
  | 2 => .object "ThumbHedges$Text"
  | 3 => .boolean
  | 4 => .int
  | 5 => .int
  | 6 => .int
  | 7 => .int
  | 8 => .int
  | 9 => .int
  | 10 => .int
  | _ => .int
theorem nmX6 : ∀ a, a < 12 → ∀ b, b < 12 → a ≠ b → (TX6 a).2.1 ≠ (TX6 b).2.1 := by decide +kernel
theorem tyX6_ok : ∀ k, k < 12 → parseFieldDescriptor (TX6 k).2.2.1 = some (tyX6 k) := by decide +kernel
def RX7 : String := "ThumbHedges$Text"
def TX7 : u_T := fun k => match k with
  | 0 => ("ThumbHedges$Text", "clauses", "I", false)
  | 1 => ("ThumbHedges$Text", "kinds", "[I", true)
  | 2 => ("ThumbHedges$Text", "firsts", "[I", true)
  | 3 => ("ThumbHedges$Text", "seconds", "[I", true)
  | 4 => ("ThumbHedges$Text", "code", "[I", true)
  | 5 => ("ThumbHedges$Text", "size", "I", false)
  | 6 => ("ThumbHedges$Text", "hasFrosts", "Z", false)
  | 7 => ("ThumbHedges$Text", "frostsFrom", "I", false)
  | 8 => ("ThumbHedges$Text", "frostsTo", "I", false)
  | 9 => ("ThumbHedges$Text", "hasGoes", "Z", false)
  | 10 => ("ThumbHedges$Text", "goesFrom", "I", false)
  | _ => ("ThumbHedges$Text", "goesTo", "I", false)
def tyX7 : Nat → FieldType := fun k => match k with
  | 0 => .int
  | 1 => .array .int
  | 2 => .array .int
  | 3 => .array .int
  | 4 => .array .int
  | 5 => .int
  | 6 => .boolean
  | 7 => .int
  | 8 => .int
  | 9 => .boolean
  | 10 => .int
  | _ => .int
theorem nmX7 : ∀ a, a < 12 → ∀ b, b < 12 → a ≠ b → (TX7 a).2.1 ≠ (TX7 b).2.1 := by decide +kernel
theorem tyX7_ok : ∀ k, k < 12 → parseFieldDescriptor (TX7 k).2.2.1 = some (tyX7 k) := by decide +kernel
def RX8 : String := "ThumbHedges"
def TX8 : u_T := fun k => match k with
  | 0 => ("ThumbHedges", "now", "LThumbHedges$Farm;", true)
  | 1 => ("ThumbHedges", "kept", "LThumbHedges$Farm;", true)
  | 2 => ("ThumbHedges", "hands", "LThumbHedges$Hands;", true)
  | 3 => ("ThumbHedges", "texts", "[LThumbHedges$Text;", true)
  | 4 => ("ThumbHedges", "lawless", "LThumbHedges$Text;", true)
  | 5 => ("ThumbHedges", "reader", "LThumbHedges$Reader;", true)
  | 6 => ("ThumbHedges", "judge", "LThumbHedges$Judge;", true)
  | 7 => ("ThumbHedges", "maze", "LThumbHedges$Maze;", true)
  | _ => ("ThumbHedges", "trial", "LThumbHedges$Land;", true)
def tyX8 : Nat → FieldType := fun k => match k with
  | 0 => .object "ThumbHedges$Farm"
  | 1 => .object "ThumbHedges$Farm"
  | 2 => .object "ThumbHedges$Hands"
  | 3 => .array (.object "ThumbHedges$Text")
  | 4 => .object "ThumbHedges$Text"
  | 5 => .object "ThumbHedges$Reader"
  | 6 => .object "ThumbHedges$Judge"
  | 7 => .object "ThumbHedges$Maze"
  | _ => .object "ThumbHedges$Land"
theorem nmX8 : ∀ a, a < 9 → ∀ b, b < 9 → a ≠ b → (TX8 a).2.1 ≠ (TX8 b).2.1 := by decide +kernel
theorem tyX8_ok : ∀ k, k < 9 → parseFieldDescriptor (TX8 k).2.2.1 = some (tyX8 k) := by decide +kernel
def RX9 : String := "ThumbHedgesModel"
def TX9 : u_T := fun k => match k with
  | 0 => ("ThumbHedgesModel", "a", "[I", true)
  | 1 => ("ThumbHedgesModel", "image", "[I", true)
  | 2 => ("ThumbHedgesModel", "texts", "[I", true)
  | 3 => ("ThumbHedgesModel", "turns", "[I", true)
  | 4 => ("ThumbHedgesModel", "tape", "[I", true)
  | 5 => ("ThumbHedgesModel", "taped", "I", false)
  | 6 => ("ThumbHedgesModel", "fault", "I", false)
  | 7 => ("ThumbHedgesModel", "faultPlace", "I", false)
  | 8 => ("ThumbHedgesModel", "at", "I", false)
  | 9 => ("ThumbHedgesModel", "place", "I", false)
  | 10 => ("ThumbHedgesModel", "token", "I", false)
  | 11 => ("ThumbHedgesModel", "number", "I", false)
  | 12 => ("ThumbHedgesModel", "word", "J", false)
  | 13 => ("ThumbHedgesModel", "text0", "I", false)
  | 14 => ("ThumbHedgesModel", "written", "I", false)
  | 15 => ("ThumbHedgesModel", "sort0", "I", false)
  | 16 => ("ThumbHedgesModel", "pile", "[I", true)
  | 17 => ("ThumbHedgesModel", "piled", "I", false)
  | 18 => ("ThumbHedgesModel", "opens", "I", false)
  | 19 => ("ThumbHedgesModel", "isWhole", "Z", false)
  | 20 => ("ThumbHedgesModel", "once", "I", false)
  | 21 => ("ThumbHedgesModel", "named", "[I", true)
  | 22 => ("ThumbHedgesModel", "values", "[J", true)
  | 23 => ("ThumbHedgesModel", "truth", "[Z", true)
  | 24 => ("ThumbHedgesModel", "isWritten", "Z", false)
  | 25 => ("ThumbHedgesModel", "cameHome", "I", false)
  | 26 => ("ThumbHedgesModel", "aside", "[I", true)
  | 27 => ("ThumbHedgesModel", "far", "[I", true)
  | 28 => ("ThumbHedgesModel", "path", "[I", true)
  | 29 => ("ThumbHedgesModel", "onBy", "[I", true)
  | 30 => ("ThumbHedgesModel", "behind", "[I", true)
  | 31 => ("ThumbHedgesModel", "reach", "[I", true)
  | 32 => ("ThumbHedgesModel", "tried", "[I", true)
  | _ => ("ThumbHedgesModel", "there", "[I", true)
def tyX9 : Nat → FieldType := fun k => match k with
  | 0 => .array .int
  | 1 => .array .int
  | 2 => .array .int
  | 3 => .array .int
  | 4 => .array .int
  | 5 => .int
  | 6 => .int
  | 7 => .int
  | 8 => .int
  | 9 => .int
  | 10 => .int
  | 11 => .int
  | 12 => .long
  | 13 => .int
  | 14 => .int
  | 15 => .int
  | 16 => .array .int
  | 17 => .int
  | 18 => .int
  | 19 => .boolean
  | 20 => .int
  | 21 => .array .int
  | 22 => .array .long
  | 23 => .array .boolean
  | 24 => .boolean
  | 25 => .int
  | 26 => .array .int
  | 27 => .array .int
  | 28 => .array .int
  | 29 => .array .int
  | 30 => .array .int
  | 31 => .array .int
  | 32 => .array .int
  | _ => .array .int
theorem nmX9 : ∀ a, a < 34 → ∀ b, b < 34 → a ≠ b → (TX9 a).2.1 ≠ (TX9 b).2.1 := by decide +kernel
theorem tyX9_ok : ∀ k, k < 34 → parseFieldDescriptor (TX9 k).2.2.1 = some (tyX9 k) := by decide +kernel
abbrev vwCl : List vw_C := [(RX0, TX0, 11), (RX1, TX1, 1), (RX2, TX2, 3), (RX3, TX3, 9), (RX4, TX4, 3), (RX6, TX6, 12), (RX7, TX7, 12), (RX8, TX8, 9), (RX9, TX9, 34)]
def CR (c : Nat) : String := match c with
  | 0 => RX0
  | 1 => RX1
  | 2 => RX2
  | 3 => RX3
  | 4 => RX4
  | 5 => RX6
  | 6 => RX7
  | 7 => RX8
  | _ => RX9
def CT (c : Nat) : u_T := match c with
  | 0 => TX0
  | 1 => TX1
  | 2 => TX2
  | 3 => TX3
  | 4 => TX4
  | 5 => TX6
  | 6 => TX7
  | 7 => TX8
  | _ => TX9
def CTy (c : Nat) : Nat → FieldType := match c with
  | 0 => tyX0
  | 1 => tyX1
  | 2 => tyX2
  | 3 => tyX3
  | 4 => tyX4
  | 5 => tyX6
  | 6 => tyX7
  | 7 => tyX8
  | _ => tyX9
def CN (c : Nat) : Nat := match c with
  | 0 => 11
  | 1 => 1
  | 2 => 3
  | 3 => 9
  | 4 => 3
  | 5 => 12
  | 6 => 12
  | 7 => 9
  | _ => 34
theorem mem_places {big ws : List Cond} (ps : List Nat) (hp : ws = ps.filterMap (fun i => big[i]?)) : ∀ w ∈ ws, w ∈ big := by
  intro w hw
  rw [hp] at hw
  obtain ⟨i, -, hi⟩ := List.mem_filterMap.mp hw
  exact List.mem_of_getElem? hi
theorem inX0 : ∀ w ∈ u_ws RX0 TX0 11, w ∈ lw_tbl := mem_places [213, 215, 217, 219, 221, 223, 225, 227, 229, 231, 233] (by decide +kernel)
theorem inX1 : ∀ w ∈ u_ws RX1 TX1 1, w ∈ lw_tbl := mem_places [243] (by decide +kernel)
theorem inX2 : ∀ w ∈ u_ws RX2 TX2 3, w ∈ lw_tbl := mem_places [364, 366, 368] (by decide +kernel)
theorem inX3 : ∀ w ∈ u_ws RX3 TX3 9, w ∈ lw_tbl := mem_places [172, 174, 176, 178, 180, 182, 184, 186, 188] (by decide +kernel)
theorem inX4 : ∀ w ∈ u_ws RX4 TX4 3, w ∈ lw_tbl := mem_places [380, 382, 384] (by decide +kernel)
theorem inX6 : ∀ w ∈ u_ws RX6 TX6 12, w ∈ lw_tbl := mem_places [330, 332, 334, 336, 338, 340, 342, 344, 346, 348, 350, 352] (by decide +kernel)
theorem inX7 : ∀ w ∈ u_ws RX7 TX7 12, w ∈ lw_tbl := mem_places [280, 282, 284, 286, 288, 290, 292, 294, 296, 298, 300, 302] (by decide +kernel)
theorem inX8 : ∀ w ∈ u_ws RX8 TX8 9, w ∈ lw_tbl := mem_places [398, 400, 402, 404, 406, 408, 410, 412, 414] (by decide +kernel)
theorem inX9 : ∀ w ∈ u_ws RX9 TX9 34, w ∈ lw_tbl := mem_places [1329, 1331, 1333, 1335, 1337, 1339, 1341, 1343, 1345, 1347, 1349, 1351, 1353, 1355, 1357, 1359, 1361, 1363, 1365, 1367, 1369, 1371, 1373, 1375, 1377, 1379, 1381, 1383, 1385, 1387, 1389, 1391, 1393, 1395] (by decide +kernel)
