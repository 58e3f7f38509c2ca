def tx0 : u_T := fun k => match k with
  | 0 => ("FireRows$Asks", "bodies", "[I", true)
  | 1 => ("FireRows$Asks", "begun", "I", false)
  | 2 => ("FireRows$Asks", "hill", "I", false)
  | 3 => ("FireRows$Asks", "kind", "I", false)
  | 4 => ("FireRows$Asks", "dates", "I", false)
  | _ => ("FireRows$Asks", "lower", "I", false)
def tt0 : Nat → FieldType := fun k => match k with
  | 0 => .array .int
  | 1 => .int
  | 2 => .int
  | 3 => .int
  | 4 => .int
  | _ => .int
theorem tn0 : ∀ a, a < 6 → ∀ b, b < 6 → a ≠ b → (tx0 a).2.1 ≠ (tx0 b).2.1 := by decide +kernel
theorem tk0 : ∀ k, k < 6 → parseFieldDescriptor (tx0 k).2.2.1 = some (tt0 k) := by decide +kernel
theorem ti0 : ∀ w ∈ u_ws "FireRows$Asks" tx0 6, w ∈ lw_tbl := by
  have h : u_ws "FireRows$Asks" tx0 6 = [450, 452, 454, 456, 458, 460].filterMap (fun i => lw_tbl[i]?) := by decide +kernel
  intro w hw
  rw [h] at hw
  obtain ⟨i, -, hi⟩ := List.mem_filterMap.mp hw
  exact List.mem_of_getElem? hi
def tx1 : u_T := fun k => match k with
  | 0 => ("FireRows$Floor", "floors", "LFireRows$Lines;", true)
  | 1 => ("FireRows$Floor", "fires", "LFireRows$Lines;", true)
  | 2 => ("FireRows$Floor", "houses", "LFireRows$Lines;", true)
  | 3 => ("FireRows$Floor", "cracks", "LFireRows$Lines;", true)
  | 4 => ("FireRows$Floor", "stories", "LFireRows$Lines;", true)
  | 5 => ("FireRows$Floor", "driftX", "[I", true)
  | 6 => ("FireRows$Floor", "driftY", "[I", true)
  | _ => ("FireRows$Floor", "noDrift", "[I", true)
def tt1 : Nat → FieldType := fun k => match k with
  | 0 => .object "FireRows$Lines"
  | 1 => .object "FireRows$Lines"
  | 2 => .object "FireRows$Lines"
  | 3 => .object "FireRows$Lines"
  | 4 => .object "FireRows$Lines"
  | 5 => .array .int
  | 6 => .array .int
  | _ => .array .int
theorem tn1 : ∀ a, a < 8 → ∀ b, b < 8 → a ≠ b → (tx1 a).2.1 ≠ (tx1 b).2.1 := by decide +kernel
theorem tk1 : ∀ k, k < 8 → parseFieldDescriptor (tx1 k).2.2.1 = some (tt1 k) := by decide +kernel
theorem ti1 : ∀ w ∈ u_ws "FireRows$Floor" tx1 8, w ∈ lw_tbl := by
  have h : u_ws "FireRows$Floor" tx1 8 = [229, 231, 233, 235, 237, 239, 241, 243].filterMap (fun i => lw_tbl[i]?) := by decide +kernel
  intro w hw
  rw [h] at hw
  obtain ⟨i, -, hi⟩ := List.mem_filterMap.mp hw
  exact List.mem_of_getElem? hi
def tx2 : u_T := fun k => match k with
  | 0 => ("FireRows$Hills", "x", "[I", true)
  | 1 => ("FireRows$Hills", "y", "[I", true)
  | 2 => ("FireRows$Hills", "dates", "[I", true)
  | 3 => ("FireRows$Hills", "lower", "[I", true)
  | 4 => ("FireRows$Hills", "upper", "[I", true)
  | 5 => ("FireRows$Hills", "again", "[I", true)
  | 6 => ("FireRows$Hills", "needleY", "[I", true)
  | 7 => ("FireRows$Hills", "needleWide", "[I", true)
  | 8 => ("FireRows$Hills", "number", "I", false)
  | 9 => ("FireRows$Hills", "house", "[I", true)
  | _ => ("FireRows$Hills", "value", "[I", true)
def tt2 : Nat → FieldType := fun k => match k with
  | 0 => .array .int
  | 1 => .array .int
  | 2 => .array .int
  | 3 => .array .int
  | 4 => .array .int
  | 5 => .array .int
  | 6 => .array .int
  | 7 => .array .int
  | 8 => .int
  | 9 => .array .int
  | _ => .array .int
theorem tn2 : ∀ a, a < 11 → ∀ b, b < 11 → a ≠ b → (tx2 a).2.1 ≠ (tx2 b).2.1 := by decide +kernel
theorem tk2 : ∀ k, k < 11 → parseFieldDescriptor (tx2 k).2.2.1 = some (tt2 k) := by decide +kernel
theorem ti2 : ∀ w ∈ u_ws "FireRows$Hills" tx2 11, w ∈ lw_tbl := by
  have h : u_ws "FireRows$Hills" tx2 11 = [323, 325, 327, 329, 331, 333, 335, 337, 339, 341, 343].filterMap (fun i => lw_tbl[i]?) := by decide +kernel
  intro w hw
  rw [h] at hw
  obtain ⟨i, -, hi⟩ := List.mem_filterMap.mp hw
  exact List.mem_of_getElem? hi
def tx3 : u_T := fun k => match k with
  | 0 => ("FireRows$Lines", "word", "Ljava/lang/String;", true)
  | 1 => ("FireRows$Lines", "columns", "I", true)
  | 2 => ("FireRows$Lines", "number", "I", false)
  | 3 => ("FireRows$Lines", "first", "I", true)
  | 4 => ("FireRows$Lines", "least", "[I", true)
  | 5 => ("FireRows$Lines", "most", "[I", true)
  | _ => ("FireRows$Lines", "numbers", "[I", true)
def tt3 : Nat → FieldType := fun k => match k with
  | 0 => .object "java/lang/String"
  | 1 => .int
  | 2 => .int
  | 3 => .int
  | 4 => .array .int
  | 5 => .array .int
  | _ => .array .int
theorem tn3 : ∀ a, a < 7 → ∀ b, b < 7 → a ≠ b → (tx3 a).2.1 ≠ (tx3 b).2.1 := by decide +kernel
theorem tk3 : ∀ k, k < 7 → parseFieldDescriptor (tx3 k).2.2.1 = some (tt3 k) := by decide +kernel
theorem ti3 : ∀ w ∈ u_ws "FireRows$Lines" tx3 7, w ∈ lw_tbl := by
  have h : u_ws "FireRows$Lines" tx3 7 = [170, 172, 174, 176, 178, 180, 182].filterMap (fun i => lw_tbl[i]?) := by decide +kernel
  intro w hw
  rw [h] at hw
  obtain ⟨i, -, hi⟩ := List.mem_filterMap.mp hw
  exact List.mem_of_getElem? hi
def tx4 : u_T := fun k => match k with
  | 0 => ("FireRows$Reader", "floor", "LFireRows$Floor;", true)
  | 1 => ("FireRows$Reader", "fault", "I", false)
  | 2 => ("FireRows$Reader", "start", "I", false)
  | 3 => ("FireRows$Reader", "tape", "LFireRows$Tape;", true)
  | 4 => ("FireRows$Reader", "sort", "I", false)
  | 5 => ("FireRows$Reader", "value", "I", false)
  | _ => ("FireRows$Reader", "behind", "I", false)
def tt4 : Nat → FieldType := fun k => match k with
  | 0 => .object "FireRows$Floor"
  | 1 => .int
  | 2 => .int
  | 3 => .object "FireRows$Tape"
  | 4 => .int
  | 5 => .int
  | _ => .int
theorem tn4 : ∀ a, a < 7 → ∀ b, b < 7 → a ≠ b → (tx4 a).2.1 ≠ (tx4 b).2.1 := by decide +kernel
theorem tk4 : ∀ k, k < 7 → parseFieldDescriptor (tx4 k).2.2.1 = some (tt4 k) := by decide +kernel
theorem ti4 : ∀ w ∈ u_ws "FireRows$Reader" tx4 7, w ∈ lw_tbl := by
  have h : u_ws "FireRows$Reader" tx4 7 = [256, 258, 260, 262, 264, 266, 268].filterMap (fun i => lw_tbl[i]?) := by decide +kernel
  intro w hw
  rw [h] at hw
  obtain ⟨i, -, hi⟩ := List.mem_filterMap.mp hw
  exact List.mem_of_getElem? hi
def tx5 : u_T := fun k => match k with
  | 0 => ("FireRows$Row", "hills", "LFireRows$Hills;", true)
  | 1 => ("FireRows$Row", "member", "[I", true)
  | 2 => ("FireRows$Row", "far", "[I", true)
  | 3 => ("FireRows$Row", "ways", "[I", true)
  | _ => ("FireRows$Row", "length", "I", false)
def tt5 : Nat → FieldType := fun k => match k with
  | 0 => .object "FireRows$Hills"
  | 1 => .array .int
  | 2 => .array .int
  | 3 => .array .int
  | _ => .int
theorem tn5 : ∀ a, a < 5 → ∀ b, b < 5 → a ≠ b → (tx5 a).2.1 ≠ (tx5 b).2.1 := by decide +kernel
theorem tk5 : ∀ k, k < 5 → parseFieldDescriptor (tx5 k).2.2.1 = some (tt5 k) := by decide +kernel
theorem ti5 : ∀ w ∈ u_ws "FireRows$Row" tx5 5, w ∈ lw_tbl := by
  have h : u_ws "FireRows$Row" tx5 5 = [400, 402, 404, 406, 408].filterMap (fun i => lw_tbl[i]?) := by decide +kernel
  intro w hw
  rw [h] at hw
  obtain ⟨i, -, hi⟩ := List.mem_filterMap.mp hw
  exact List.mem_of_getElem? hi
def tx6 : u_T := fun k => match k with
  | 0 => ("FireRows$Sheet", "item", "[I", true)
  | 1 => ("FireRows$Sheet", "lane", "I", false)
  | _ => ("FireRows$Sheet", "items", "I", false)
def tt6 : Nat → FieldType := fun k => match k with
  | 0 => .array .int
  | 1 => .int
  | _ => .int
theorem tn6 : ∀ a, a < 3 → ∀ b, b < 3 → a ≠ b → (tx6 a).2.1 ≠ (tx6 b).2.1 := by decide +kernel
theorem tk6 : ∀ k, k < 3 → parseFieldDescriptor (tx6 k).2.2.1 = some (tt6 k) := by decide +kernel
theorem ti6 : ∀ w ∈ u_ws "FireRows$Sheet" tx6 3, w ∈ lw_tbl := by
  have h : u_ws "FireRows$Sheet" tx6 3 = [473, 475, 477].filterMap (fun i => lw_tbl[i]?) := by decide +kernel
  intro w hw
  rw [h] at hw
  obtain ⟨i, -, hi⟩ := List.mem_filterMap.mp hw
  exact List.mem_of_getElem? hi
def tx7 : u_T := fun k => match k with
  | 0 => ("FireRows$Stories", "floor", "LFireRows$Floor;", true)
  | 1 => ("FireRows$Stories", "hills", "LFireRows$Hills;", true)
  | 2 => ("FireRows$Stories", "fire", "I", false)
  | 3 => ("FireRows$Stories", "age", "I", false)
  | 4 => ("FireRows$Stories", "off", "I", false)
  | _ => ("FireRows$Stories", "fit", "Z", false)
def tt7 : Nat → FieldType := fun k => match k with
  | 0 => .object "FireRows$Floor"
  | 1 => .object "FireRows$Hills"
  | 2 => .int
  | 3 => .int
  | 4 => .int
  | _ => .boolean
theorem tn7 : ∀ a, a < 6 → ∀ b, b < 6 → a ≠ b → (tx7 a).2.1 ≠ (tx7 b).2.1 := by decide +kernel
theorem tk7 : ∀ k, k < 6 → parseFieldDescriptor (tx7 k).2.2.1 = some (tt7 k) := by decide +kernel
theorem ti7 : ∀ w ∈ u_ws "FireRows$Stories" tx7 6, w ∈ lw_tbl := by
  have h : u_ws "FireRows$Stories" tx7 6 = [376, 378, 380, 382, 384, 386].filterMap (fun i => lw_tbl[i]?) := by decide +kernel
  intro w hw
  rw [h] at hw
  obtain ⟨i, -, hi⟩ := List.mem_filterMap.mp hw
  exact List.mem_of_getElem? hi
def tx8 : u_T := fun k => match k with
  | 0 => ("FireRows$Tape", "bytes", "[B", true)
  | _ => ("FireRows$Tape", "size", "I", false)
def tt8 : Nat → FieldType := fun k => match k with
  | 0 => .array .byte
  | _ => .int
theorem tn8 : ∀ a, a < 2 → ∀ b, b < 2 → a ≠ b → (tx8 a).2.1 ≠ (tx8 b).2.1 := by decide +kernel
theorem tk8 : ∀ k, k < 2 → parseFieldDescriptor (tx8 k).2.2.1 = some (tt8 k) := by decide +kernel
theorem ti8 : ∀ w ∈ u_ws "FireRows$Tape" tx8 2, w ∈ lw_tbl := by
  have h : u_ws "FireRows$Tape" tx8 2 = [123, 125].filterMap (fun i => lw_tbl[i]?) := by decide +kernel
  intro w hw
  rw [h] at hw
  obtain ⟨i, -, hi⟩ := List.mem_filterMap.mp hw
  exact List.mem_of_getElem? hi
def tx9 : u_T := fun k => match k with
  | 0 => ("FireRows$Turn", "floor", "LFireRows$Floor;", true)
  | 1 => ("FireRows$Turn", "hills", "LFireRows$Hills;", true)
  | 2 => ("FireRows$Turn", "x", "I", false)
  | 3 => ("FireRows$Turn", "y", "I", false)
  | _ => ("FireRows$Turn", "off", "I", false)
def tt9 : Nat → FieldType := fun k => match k with
  | 0 => .object "FireRows$Floor"
  | 1 => .object "FireRows$Hills"
  | 2 => .int
  | 3 => .int
  | _ => .int
theorem tn9 : ∀ a, a < 5 → ∀ b, b < 5 → a ≠ b → (tx9 a).2.1 ≠ (tx9 b).2.1 := by decide +kernel
theorem tk9 : ∀ k, k < 5 → parseFieldDescriptor (tx9 k).2.2.1 = some (tt9 k) := by decide +kernel
theorem ti9 : ∀ w ∈ u_ws "FireRows$Turn" tx9 5, w ∈ lw_tbl := by
  have h : u_ws "FireRows$Turn" tx9 5 = [425, 427, 429, 431, 433].filterMap (fun i => lw_tbl[i]?) := by decide +kernel
  intro w hw
  rw [h] at hw
  obtain ⟨i, -, hi⟩ := List.mem_filterMap.mp hw
  exact List.mem_of_getElem? hi
def tx10 : u_T := fun k => match k with
  | 0 => ("FireRows$World", "floor", "LFireRows$Floor;", true)
  | _ => ("FireRows$World", "hills", "LFireRows$Hills;", true)
def tt10 : Nat → FieldType := fun k => match k with
  | 0 => .object "FireRows$Floor"
  | _ => .object "FireRows$Hills"
theorem tn10 : ∀ a, a < 2 → ∀ b, b < 2 → a ≠ b → (tx10 a).2.1 ≠ (tx10 b).2.1 := by decide +kernel
theorem tk10 : ∀ k, k < 2 → parseFieldDescriptor (tx10 k).2.2.1 = some (tt10 k) := by decide +kernel
theorem ti10 : ∀ w ∈ u_ws "FireRows$World" tx10 2, w ∈ lw_tbl := by
  have h : u_ws "FireRows$World" tx10 2 = [354, 356].filterMap (fun i => lw_tbl[i]?) := by decide +kernel
  intro w hw
  rw [h] at hw
  obtain ⟨i, -, hi⟩ := List.mem_filterMap.mp hw
  exact List.mem_of_getElem? hi
def tx11 : u_T := fun k => match k with
  | 0 => ("FireRows", "sheets", "[LFireRows$Sheet;", true)
  | 1 => ("FireRows", "tape", "LFireRows$Tape;", true)
  | 2 => ("FireRows", "reader", "LFireRows$Reader;", true)
  | 3 => ("FireRows", "world", "LFireRows$World;", true)
  | 4 => ("FireRows", "images", "[LFireRows$World;", true)
  | 5 => ("FireRows", "stories", "LFireRows$Stories;", true)
  | 6 => ("FireRows", "row", "LFireRows$Row;", true)
  | 7 => ("FireRows", "best", "LFireRows$Turn;", true)
  | 8 => ("FireRows", "asks", "LFireRows$Asks;", true)
  | 9 => ("FireRows", "latestFault", "I", false)
  | _ => ("FireRows", "latestFinding", "I", false)
def tt11 : Nat → FieldType := fun k => match k with
  | 0 => .array (.object "FireRows$Sheet")
  | 1 => .object "FireRows$Tape"
  | 2 => .object "FireRows$Reader"
  | 3 => .object "FireRows$World"
  | 4 => .array (.object "FireRows$World")
  | 5 => .object "FireRows$Stories"
  | 6 => .object "FireRows$Row"
  | 7 => .object "FireRows$Turn"
  | 8 => .object "FireRows$Asks"
  | 9 => .int
  | _ => .int
theorem tn11 : ∀ a, a < 11 → ∀ b, b < 11 → a ≠ b → (tx11 a).2.1 ≠ (tx11 b).2.1 := by decide +kernel
theorem tk11 : ∀ k, k < 11 → parseFieldDescriptor (tx11 k).2.2.1 = some (tt11 k) := by decide +kernel
theorem ti11 : ∀ w ∈ u_ws "FireRows" tx11 11, w ∈ lw_tbl := by
  have h : u_ws "FireRows" tx11 11 = [491, 493, 495, 497, 499, 501, 503, 505, 507, 509, 511].filterMap (fun i => lw_tbl[i]?) := by decide +kernel
  intro w hw
  rw [h] at hw
  obtain ⟨i, -, hi⟩ := List.mem_filterMap.mp hw
  exact List.mem_of_getElem? hi
def tx12 : u_T := fun k => match k with
  | 0 => ("FireRowsModel", "thrown", "I", false)
  | 1 => ("FireRowsModel", "status", "I", false)
  | 2 => ("FireRowsModel", "lane", "[I", true)
  | 3 => ("FireRowsModel", "many", "[I", true)
  | 4 => ("FireRowsModel", "item", "[I", true)
  | 5 => ("FireRowsModel", "land", "[I", true)
  | 6 => ("FireRowsModel", "fresh", "[I", true)
  | 7 => ("FireRowsModel", "isThere", "Z", false)
  | 8 => ("FireRowsModel", "now", "[I", true)
  | 9 => ("FireRowsModel", "tape", "[I", true)
  | 10 => ("FireRowsModel", "taped", "I", false)
  | 11 => ("FireRowsModel", "latest", "I", false)
  | 12 => ("FireRowsModel", "length", "I", false)
  | 13 => ("FireRowsModel", "cursor", "I", false)
  | 14 => ("FireRowsModel", "token", "I", false)
  | 15 => ("FireRowsModel", "from", "I", false)
  | 16 => ("FireRowsModel", "till", "I", false)
  | 17 => ("FireRowsModel", "value", "I", false)
  | 18 => ("FireRowsModel", "fault", "I", false)
  | 19 => ("FireRowsModel", "faultAt", "I", false)
  | 20 => ("FireRowsModel", "driftX", "[I", true)
  | 21 => ("FireRowsModel", "driftY", "[I", true)
  | 22 => ("FireRowsModel", "low", "I", false)
  | 23 => ("FireRowsModel", "high", "I", false)
  | 24 => ("FireRowsModel", "isAgain", "Z", false)
  | 25 => ("FireRowsModel", "nearFire", "I", false)
  | 26 => ("FireRowsModel", "nearAge", "I", false)
  | 27 => ("FireRowsModel", "nearOff", "I", false)
  | 28 => ("FireRowsModel", "isFit", "Z", false)
  | 29 => ("FireRowsModel", "row", "[I", true)
  | 30 => ("FireRowsModel", "far", "[I", true)
  | 31 => ("FireRowsModel", "lows", "[I", true)
  | 32 => ("FireRowsModel", "highs", "[I", true)
  | 33 => ("FireRowsModel", "turnX", "I", false)
  | 34 => ("FireRowsModel", "turnY", "I", false)
  | 35 => ("FireRowsModel", "turnOff", "I", false)
  | 36 => ("FireRowsModel", "ways", "[I", true)
  | 37 => ("FireRowsModel", "isKept", "[Z", true)
  | 38 => ("FireRowsModel", "keptLand", "[I", true)
  | 39 => ("FireRowsModel", "keptNow", "[I", true)
  | 40 => ("FireRowsModel", "trace", "[I", true)
  | _ => ("FireRowsModel", "traced", "I", false)
def tt12 : Nat → FieldType := fun k => match k with
  | 0 => .int
  | 1 => .int
  | 2 => .array .int
  | 3 => .array .int
  | 4 => .array .int
  | 5 => .array .int
  | 6 => .array .int
  | 7 => .boolean
  | 8 => .array .int
  | 9 => .array .int
  | 10 => .int
  | 11 => .int
  | 12 => .int
  | 13 => .int
  | 14 => .int
  | 15 => .int
  | 16 => .int
  | 17 => .int
  | 18 => .int
  | 19 => .int
  | 20 => .array .int
  | 21 => .array .int
  | 22 => .int
  | 23 => .int
  | 24 => .boolean
  | 25 => .int
  | 26 => .int
  | 27 => .int
  | 28 => .boolean
  | 29 => .array .int
  | 30 => .array .int
  | 31 => .array .int
  | 32 => .array .int
  | 33 => .int
  | 34 => .int
  | 35 => .int
  | 36 => .array .int
  | 37 => .array .boolean
  | 38 => .array .int
  | 39 => .array .int
  | 40 => .array .int
  | _ => .int
theorem tn12 : ∀ a, a < 42 → ∀ b, b < 42 → a ≠ b → (tx12 a).2.1 ≠ (tx12 b).2.1 := by decide +kernel
theorem tk12 : ∀ k, k < 42 → parseFieldDescriptor (tx12 k).2.2.1 = some (tt12 k) := by decide +kernel
theorem ti12 : ∀ w ∈ u_ws "FireRowsModel" tx12 42, w ∈ lw_tbl := by
  have h : u_ws "FireRowsModel" tx12 42 = [1245, 1247, 1249, 1251, 1253, 1255, 1257, 1259, 1261, 1263, 1265, 1267, 1269, 1271, 1273, 1275, 1277, 1279, 1281, 1283, 1285, 1287, 1289, 1291, 1293, 1295, 1297, 1299, 1301, 1303, 1305, 1307, 1309, 1311, 1313, 1315, 1317, 1319, 1321, 1323, 1325, 1327].filterMap (fun i => lw_tbl[i]?) := by decide +kernel
  intro w hw
  rw [h] at hw
  obtain ⟨i, -, hi⟩ := List.mem_filterMap.mp hw
  exact List.mem_of_getElem? hi
def cls : List vw_C := [("FireRows$Asks", tx0, 6), ("FireRows$Floor", tx1, 8), ("FireRows$Hills", tx2, 11), ("FireRows$Lines", tx3, 7), ("FireRows$Reader", tx4, 7), ("FireRows$Row", tx5, 5), ("FireRows$Sheet", tx6, 3), ("FireRows$Stories", tx7, 6), ("FireRows$Tape", tx8, 2), ("FireRows$Turn", tx9, 5), ("FireRows$World", tx10, 2), ("FireRows", tx11, 11), ("FireRowsModel", tx12, 42)]
/-- the types of cells: rows of ints 0, of bytes 1, of booleans 2, of cells 3; objects 4; given rows 5, given texts 6, the script 7 -/
def shl : List (Nat × Nat × List (Nat × Nat × Nat)) := [
  (0, 40, []),
  (0, 12, []),
  (0, 100, []),
  (0, 48, []),
  (0, 4096, []),
  (0, 16, []),
  (0, 24, []),
  (0, 8, []),
  (0, 20, []),
  (0, 320, []),
  (0, 62, []),
  (0, 169, []),
  (0, 500, []),
  (0, 124, []),
  (0, 338, []),
  (1, 500, []),
  (2, 12, []),
  (2, 2, []),
  (5, 0, []),
  (5, 1, []),
  (5, 2, []),
  (5, 3, []),
  (5, 4, []),
  (5, 5, []),
  (5, 6, []),
  (5, 7, []),
  (5, 8, []),
  (5, 9, []),
  (5, 10, []),
  (6, 0, []),
  (6, 1, []),
  (6, 2, []),
  (6, 3, []),
  (6, 4, []),
  (6, 5, []),
  (6, 6, []),
  (6, 7, []),
  (4, 3, [(3, 29, 1100), (1, 3, 0), (0, 0, 0), (1, 1, 0), (3, 18, 1000), (3, 19, 1001), (2, 1, 1)]),
  (4, 3, [(3, 30, 1101), (1, 6, 0), (0, 0, 0), (1, 0, 0), (3, 20, 1002), (3, 21, 1003), (2, 6, 1)]),
  (4, 3, [(3, 31, 1102), (1, 2, 0), (0, 0, 0), (1, 0, 0), (3, 22, 1004), (3, 23, 1005), (2, 7, 1)]),
  (4, 3, [(3, 32, 1103), (1, 5, 0), (0, 0, 0), (1, 0, 0), (3, 24, 1006), (3, 25, 1007), (2, 8, 1)]),
  (4, 3, [(3, 33, 1104), (1, 2, 0), (0, 0, 0), (1, 2, 0), (3, 26, 1008), (3, 27, 1009), (2, 7, 1)]),
  (4, 1, [(2, 37, 1), (2, 38, 3), (2, 39, 5), (2, 40, 7), (2, 41, 9), (2, 2, 11), (2, 2, 12), (2, 2, 13)]),
  (4, 2, [(2, 1, 1), (2, 1, 2), (2, 1, 3), (2, 1, 4), (2, 1, 5), (2, 1, 6), (2, 1, 7), (2, 1, 8), (0, 0, 0), (2, 3, 9), (2, 3, 10)]),
  (4, 10, [(2, 42, 1), (2, 43, 15)]),
  (4, 6, [(2, 0, 1), (0, 0, 0), (0, 0, 0)]),
  (3, 8, [(45, 2, 2)]),
  (3, 2, [(44, 62, 26)]),
  (4, 8, [(2, 15, 1), (0, 0, 0)]),
  (4, 4, [(2, 42, 1), (0, 0, 0), (0, 0, 0), (3, 48, 18), (0, 0, 0), (0, 0, 0), (0, 0, 0)]),
  (4, 7, [(3, 42, 36), (3, 43, 50), (0, 0, 0), (0, 0, 0), (0, 0, 0), (4, 0, 0)]),
  (4, 5, [(3, 43, 50), (2, 1, 1), (2, 1, 2), (2, 4, 3), (0, 0, 0)]),
  (4, 9, [(3, 42, 36), (3, 43, 50), (0, 0, 0), (0, 0, 0), (0, 0, 0)]),
  (4, 0, [(2, 5, 1), (0, 0, 0), (0, 0, 0), (0, 0, 0), (0, 0, 0), (0, 0, 0)]),
  (4, 11, [(3, 46, 1), (3, 48, 18), (3, 49, 20), (3, 44, 35), (3, 47, 61), (3, 50, 114), (3, 51, 115), (3, 52, 119), (3, 53, 120), (0, 0, 0), (0, 0, 0)]),
  (4, 12, [(0, 0, 0), (0, 0, 0), (3, 7, 123), (3, 7, 124), (3, 9, 125), (3, 10, 126), (3, 10, 127), (4, 0, 0), (3, 11, 128), (3, 12, 129), (0, 0, 0), (0, 0, 0), (0, 0, 0), (0, 0, 0), (0, 0, 0), (0, 0, 0), (0, 0, 0), (0, 0, 0), (0, 0, 0), (0, 0, 0), (3, 2, 130), (3, 2, 131), (0, 0, 0), (0, 0, 0), (4, 0, 0), (0, 0, 0), (0, 0, 0), (0, 0, 0), (4, 0, 0), (3, 1, 132), (3, 1, 133), (3, 1, 134), (3, 1, 135), (0, 0, 0), (0, 0, 0), (0, 0, 0), (3, 4, 136), (3, 17, 137), (3, 13, 138), (3, 14, 139), (3, 5, 140), (0, 0, 0)]),
  (7, 0, [])]
def tabl : List Nat := [54, 46, 45, 0, 45, 0, 45, 0, 45, 0, 45, 0, 45, 0, 45, 0, 45, 0, 48, 15, 49, 42, 37, 1, 38, 6, 39, 7, 40, 8, 41, 7, 2, 2, 2, 44, 42, 37, 1, 38, 6, 39, 7, 40, 8, 41, 7, 2, 2, 2, 43, 1, 1, 1, 1, 1, 1, 1, 1, 3, 3, 47, 44, 42, 37, 1, 38, 6, 39, 7, 40, 8, 41, 7, 2, 2, 2, 43, 1, 1, 1, 1, 1, 1, 1, 1, 3, 3, 44, 42, 37, 1, 38, 6, 39, 7, 40, 8, 41, 7, 2, 2, 2, 43, 1, 1, 1, 1, 1, 1, 1, 1, 3, 3, 50, 51, 1, 1, 4, 52, 53, 5, 55, 7, 7, 9, 10, 10, 11, 12, 2, 2, 1, 1, 1, 1, 4, 17, 13, 14, 5]
def stl : List (List Int32) := [[1, (-99), (-99)], [99, 99, 99], [(-9999), (-9999), (-9), (-9), 1, 0], [9999, 9999, 9, 9, 20, 99], [(-9), 0], [9, 20], [(-9999), (-9999), (-99), (-99), 0], [9999, 9999, 99, 99, 99], [0, 1], [3, 9], [0, 0, 1, 1, 0, 4]]
def stx : List (List Int32) := [[102, 108, 111, 111, 114], [102, 105, 114, 101], [104, 111, 117, 115, 101], [99, 114, 97, 99, 107], [115, 116, 111, 114, 121], [115, 116, 97, 121, 115], [119, 97, 110, 100, 101, 114, 115], [108, 97, 116, 101]]
