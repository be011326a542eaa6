/-! ===== names, fields, cells (written by program) ===== -/
def sm_wl : List Cond := lw_tbl.filter goodWord
theorem sn_m {w : Cond} (h : w ∈ lw_tbl) (g : goodWord w = true) : w ∈ sm_wl := List.mem_filter.mpr ⟨h, g⟩
def R_Answers : String := "BackBridge$Answers"
def T_Answers : u_T := fun k => match k with
  | 0 => ("BackBridge$Answers", "land", "LBackBridge$Land;", true)
  | 1 => ("BackBridge$Answers", "world", "LBackBridge$World;", true)
  | 2 => ("BackBridge$Answers", "laws", "LBackBridge$Laws;", true)
  | _ => ("BackBridge$Answers", "sets", "J", false)
def t_Answers : Nat → FieldType := fun k => match k with
  | 0 => .object "BackBridge$Land"
  | 1 => .object "BackBridge$World"
  | 2 => .object "BackBridge$Laws"
  | _ => .long
theorem n_Answers : ∀ a, a < 4 → ∀ b, b < 4 → a ≠ b → (T_Answers a).2.1 ≠ (T_Answers b).2.1 := by decide +kernel
theorem ty_Answers : ∀ k, k < 4 → parseFieldDescriptor (T_Answers k).2.2.1 = some (t_Answers k) := by decide +kernel
theorem in_Answers : ∀ w ∈ u_ws R_Answers T_Answers 4, w ∈ sm_wl := fun w hw => sn_m ((by decide +kernel : ∀ w ∈ u_ws R_Answers T_Answers 4, w ∈ lw_tbl) w hw) ((by decide +kernel : ∀ w ∈ u_ws R_Answers T_Answers 4, goodWord w = true) w hw)
def R_Choices : String := "BackBridge$Choices"
def T_Choices : u_T := fun k => match k with
  | 0 => ("BackBridge$Choices", "land", "LBackBridge$Land;", true)
  | 1 => ("BackBridge$Choices", "world", "LBackBridge$World;", true)
  | 2 => ("BackBridge$Choices", "search", "LBackBridge$Search;", true)
  | 3 => ("BackBridge$Choices", "firstDays", "[I", true)
  | 4 => ("BackBridge$Choices", "used", "[I", true)
  | 5 => ("BackBridge$Choices", "dryAbove", "J", false)
  | _ => ("BackBridge$Choices", "dryBelow", "J", false)
def t_Choices : Nat → FieldType := fun k => match k with
  | 0 => .object "BackBridge$Land"
  | 1 => .object "BackBridge$World"
  | 2 => .object "BackBridge$Search"
  | 3 => .array .int
  | 4 => .array .int
  | 5 => .long
  | _ => .long
theorem n_Choices : ∀ a, a < 7 → ∀ b, b < 7 → a ≠ b → (T_Choices a).2.1 ≠ (T_Choices b).2.1 := by decide +kernel
theorem ty_Choices : ∀ k, k < 7 → parseFieldDescriptor (T_Choices k).2.2.1 = some (t_Choices k) := by decide +kernel
theorem in_Choices : ∀ w ∈ u_ws R_Choices T_Choices 7, w ∈ sm_wl := fun w hw => sn_m ((by decide +kernel : ∀ w ∈ u_ws R_Choices T_Choices 7, w ∈ lw_tbl) w hw) ((by decide +kernel : ∀ w ∈ u_ws R_Choices T_Choices 7, goodWord w = true) w hw)
def R_Deeds : String := "BackBridge$Deeds"
def T_Deeds : u_T := fun k => match k with
  | 0 => ("BackBridge$Deeds", "land", "LBackBridge$Land;", true)
  | 1 => ("BackBridge$Deeds", "laws", "LBackBridge$Laws;", true)
  | 2 => ("BackBridge$Deeds", "stoppedBy", "I", false)
  | _ => ("BackBridge$Deeds", "drawn", "I", false)
def t_Deeds : Nat → FieldType := fun k => match k with
  | 0 => .object "BackBridge$Land"
  | 1 => .object "BackBridge$Laws"
  | 2 => .int
  | _ => .int
theorem n_Deeds : ∀ a, a < 4 → ∀ b, b < 4 → a ≠ b → (T_Deeds a).2.1 ≠ (T_Deeds b).2.1 := by decide +kernel
theorem ty_Deeds : ∀ k, k < 4 → parseFieldDescriptor (T_Deeds k).2.2.1 = some (t_Deeds k) := by decide +kernel
theorem in_Deeds : ∀ w ∈ u_ws R_Deeds T_Deeds 4, w ∈ sm_wl := fun w hw => sn_m ((by decide +kernel : ∀ w ∈ u_ws R_Deeds T_Deeds 4, w ∈ lw_tbl) w hw) ((by decide +kernel : ∀ w ∈ u_ws R_Deeds T_Deeds 4, goodWord w = true) w hw)
def R_Land : String := "BackBridge$Land"
def T_Land : u_T := fun k => match k with
  | 0 => ("BackBridge$Land", "places", "I", false)
  | 1 => ("BackBridge$Land", "lines", "I", false)
  | 2 => ("BackBridge$Land", "roads", "I", false)
  | 3 => ("BackBridge$Land", "people", "I", false)
  | 4 => ("BackBridge$Land", "bridges", "I", false)
  | 5 => ("BackBridge$Land", "from", "[I", true)
  | 6 => ("BackBridge$Land", "to", "[I", true)
  | 7 => ("BackBridge$Land", "length", "[I", true)
  | 8 => ("BackBridge$Land", "flood", "[I", true)
  | 9 => ("BackBridge$Land", "at", "[I", true)
  | 10 => ("BackBridge$Land", "born", "[I", true)
  | 11 => ("BackBridge$Land", "papers", "[I", true)
  | 12 => ("BackBridge$Land", "errand", "[I", true)
  | 13 => ("BackBridge$Land", "by", "[I", true)
  | 14 => ("BackBridge$Land", "letsOver", "LBackBridge$Law;", true)
  | _ => ("BackBridge$Land", "toll", "LBackBridge$Law;", true)
def t_Land : Nat → FieldType := fun k => match k with
  | 0 => .int
  | 1 => .int
  | 2 => .int
  | 3 => .int
  | 4 => .int
  | 5 => .array .int
  | 6 => .array .int
  | 7 => .array .int
  | 8 => .array .int
  | 9 => .array .int
  | 10 => .array .int
  | 11 => .array .int
  | 12 => .array .int
  | 13 => .array .int
  | 14 => .object "BackBridge$Law"
  | _ => .object "BackBridge$Law"
theorem n_Land : ∀ a, a < 16 → ∀ b, b < 16 → a ≠ b → (T_Land a).2.1 ≠ (T_Land b).2.1 := by decide +kernel
theorem ty_Land : ∀ k, k < 16 → parseFieldDescriptor (T_Land k).2.2.1 = some (t_Land k) := by decide +kernel
theorem in_Land : ∀ w ∈ u_ws R_Land T_Land 16, w ∈ sm_wl := fun w hw => sn_m ((by decide +kernel : ∀ w ∈ u_ws R_Land T_Land 16, w ∈ lw_tbl) w hw) ((by decide +kernel : ∀ w ∈ u_ws R_Land T_Land 16, goodWord w = true) w hw)
def R_Law : String := "BackBridge$Law"
def T_Law : u_T := fun k => match k with
  | 0 => ("BackBridge$Law", "code", "[I", true)
  | 1 => ("BackBridge$Law", "stack", "[I", true)
  | _ => ("BackBridge$Law", "size", "I", false)
def t_Law : Nat → FieldType := fun k => match k with
  | 0 => .array .int
  | 1 => .array .int
  | _ => .int
theorem n_Law : ∀ a, a < 3 → ∀ b, b < 3 → a ≠ b → (T_Law a).2.1 ≠ (T_Law b).2.1 := by decide +kernel
theorem ty_Law : ∀ k, k < 3 → parseFieldDescriptor (T_Law k).2.2.1 = some (t_Law k) := by decide +kernel
theorem in_Law : ∀ w ∈ u_ws R_Law T_Law 3, w ∈ sm_wl := fun w hw => sn_m ((by decide +kernel : ∀ w ∈ u_ws R_Law T_Law 3, w ∈ lw_tbl) w hw) ((by decide +kernel : ∀ w ∈ u_ws R_Law T_Law 3, goodWord w = true) w hw)
def R_Laws : String := "BackBridge$Laws"
def T_Laws : u_T := fun k => match k with
  | 0 => ("BackBridge$Laws", "land", "LBackBridge$Land;", true)
  | 1 => ("BackBridge$Laws", "names", "[I", true)
  | _ => ("BackBridge$Laws", "kept", "[I", true)
def t_Laws : Nat → FieldType := fun k => match k with
  | 0 => .object "BackBridge$Land"
  | 1 => .array .int
  | _ => .array .int
theorem n_Laws : ∀ a, a < 3 → ∀ b, b < 3 → a ≠ b → (T_Laws a).2.1 ≠ (T_Laws b).2.1 := by decide +kernel
theorem ty_Laws : ∀ k, k < 3 → parseFieldDescriptor (T_Laws k).2.2.1 = some (t_Laws k) := by decide +kernel
theorem in_Laws : ∀ w ∈ u_ws R_Laws T_Laws 3, w ∈ sm_wl := fun w hw => sn_m ((by decide +kernel : ∀ w ∈ u_ws R_Laws T_Laws 3, w ∈ lw_tbl) w hw) ((by decide +kernel : ∀ w ∈ u_ws R_Laws T_Laws 3, goodWord w = true) w hw)
def R_Past : String := "BackBridge$Past"
def T_Past : u_T := fun k => match k with
  | 0 => ("BackBridge$Past", "kept", "[LBackBridge$World;", true)
  | 1 => ("BackBridge$Past", "count", "I", false)
  | _ => ("BackBridge$Past", "next", "I", false)
def t_Past : Nat → FieldType := fun k => match k with
  | 0 => .array (.object "BackBridge$World")
  | 1 => .int
  | _ => .int
theorem n_Past : ∀ a, a < 3 → ∀ b, b < 3 → a ≠ b → (T_Past a).2.1 ≠ (T_Past b).2.1 := by decide +kernel
theorem ty_Past : ∀ k, k < 3 → parseFieldDescriptor (T_Past k).2.2.1 = some (t_Past k) := by decide +kernel
theorem in_Past : ∀ w ∈ u_ws R_Past T_Past 3, w ∈ sm_wl := fun w hw => sn_m ((by decide +kernel : ∀ w ∈ u_ws R_Past T_Past 3, w ∈ lw_tbl) w hw) ((by decide +kernel : ∀ w ∈ u_ws R_Past T_Past 3, goodWord w = true) w hw)
def R_Reader : String := "BackBridge$Reader"
def T_Reader : u_T := fun k => match k with
  | 0 => ("BackBridge$Reader", "draft", "LBackBridge$Land;", true)
  | 1 => ("BackBridge$Reader", "kind", "[I", true)
  | 2 => ("BackBridge$Reader", "value", "[I", true)
  | 3 => ("BackBridge$Reader", "start", "[I", true)
  | 4 => ("BackBridge$Reader", "next", "I", false)
  | 5 => ("BackBridge$Reader", "got", "I", false)
  | 6 => ("BackBridge$Reader", "law", "LBackBridge$Law;", false)
  | 7 => ("BackBridge$Reader", "fault", "I", false)
  | _ => ("BackBridge$Reader", "faultAt", "I", false)
def t_Reader : Nat → FieldType := fun k => match k with
  | 0 => .object "BackBridge$Land"
  | 1 => .array .int
  | 2 => .array .int
  | 3 => .array .int
  | 4 => .int
  | 5 => .int
  | 6 => .object "BackBridge$Law"
  | 7 => .int
  | _ => .int
theorem n_Reader : ∀ a, a < 9 → ∀ b, b < 9 → a ≠ b → (T_Reader a).2.1 ≠ (T_Reader b).2.1 := by decide +kernel
theorem ty_Reader : ∀ k, k < 9 → parseFieldDescriptor (T_Reader k).2.2.1 = some (t_Reader k) := by decide +kernel
theorem in_Reader : ∀ w ∈ u_ws R_Reader T_Reader 9, w ∈ sm_wl := fun w hw => sn_m ((by decide +kernel : ∀ w ∈ u_ws R_Reader T_Reader 9, w ∈ lw_tbl) w hw) ((by decide +kernel : ∀ w ∈ u_ws R_Reader T_Reader 9, goodWord w = true) w hw)
def R_Search : String := "BackBridge$Search"
def T_Search : u_T := fun k => match k with
  | 0 => ("BackBridge$Search", "land", "LBackBridge$Land;", true)
  | 1 => ("BackBridge$Search", "laws", "LBackBridge$Laws;", true)
  | 2 => ("BackBridge$Search", "who", "I", false)
  | 3 => ("BackBridge$Search", "at", "I", false)
  | 4 => ("BackBridge$Search", "been", "I", false)
  | 5 => ("BackBridge$Search", "papers", "I", false)
  | 6 => ("BackBridge$Search", "closed", "I", false)
  | 7 => ("BackBridge$Search", "waived", "I", false)
  | 8 => ("BackBridge$Search", "masks", "I", false)
  | 9 => ("BackBridge$Search", "far", "[I", true)
  | 10 => ("BackBridge$Search", "came", "[I", true)
  | 11 => ("BackBridge$Search", "seenIn", "[I", true)
  | 12 => ("BackBridge$Search", "turn", "I", false)
  | 13 => ("BackBridge$Search", "end", "[I", true)
  | 14 => ("BackBridge$Search", "crossed", "I", false)
  | 15 => ("BackBridge$Search", "loopDays", "I", false)
  | 16 => ("BackBridge$Search", "loopEnd", "I", false)
  | 17 => ("BackBridge$Search", "spelled", "[I", true)
  | 18 => ("BackBridge$Search", "spelledCount", "I", false)
  | _ => ("BackBridge$Search", "tally", "[[J", true)
def t_Search : Nat → FieldType := fun k => match k with
  | 0 => .object "BackBridge$Land"
  | 1 => .object "BackBridge$Laws"
  | 2 => .int
  | 3 => .int
  | 4 => .int
  | 5 => .int
  | 6 => .int
  | 7 => .int
  | 8 => .int
  | 9 => .array .int
  | 10 => .array .int
  | 11 => .array .int
  | 12 => .int
  | 13 => .array .int
  | 14 => .int
  | 15 => .int
  | 16 => .int
  | 17 => .array .int
  | 18 => .int
  | _ => .array (.array .long)
theorem n_Search : ∀ a, a < 20 → ∀ b, b < 20 → a ≠ b → (T_Search a).2.1 ≠ (T_Search b).2.1 := by decide +kernel
theorem ty_Search : ∀ k, k < 20 → parseFieldDescriptor (T_Search k).2.2.1 = some (t_Search k) := by decide +kernel
theorem in_Search : ∀ w ∈ u_ws R_Search T_Search 20, w ∈ sm_wl := fun w hw => sn_m ((by decide +kernel : ∀ w ∈ u_ws R_Search T_Search 20, w ∈ lw_tbl) w hw) ((by decide +kernel : ∀ w ∈ u_ws R_Search T_Search 20, goodWord w = true) w hw)
def R_Trays : String := "BackBridge$Trays"
def T_Trays : u_T := fun k => match k with
  | 0 => ("BackBridge$Trays", "number", "[[J", true)
  | 1 => ("BackBridge$Trays", "size", "[I", true)
  | _ => ("BackBridge$Trays", "sort", "[I", true)
def t_Trays : Nat → FieldType := fun k => match k with
  | 0 => .array (.array .long)
  | 1 => .array .int
  | _ => .array .int
theorem n_Trays : ∀ a, a < 3 → ∀ b, b < 3 → a ≠ b → (T_Trays a).2.1 ≠ (T_Trays b).2.1 := by decide +kernel
theorem ty_Trays : ∀ k, k < 3 → parseFieldDescriptor (T_Trays k).2.2.1 = some (t_Trays k) := by decide +kernel
theorem in_Trays : ∀ w ∈ u_ws R_Trays T_Trays 3, w ∈ sm_wl := fun w hw => sn_m ((by decide +kernel : ∀ w ∈ u_ws R_Trays T_Trays 3, w ∈ lw_tbl) w hw) ((by decide +kernel : ∀ w ∈ u_ws R_Trays T_Trays 3, goodWord w = true) w hw)
def R_World : String := "BackBridge$World"
def T_World : u_T := fun k => match k with
  | 0 => ("BackBridge$World", "place", "[I", true)
  | 1 => ("BackBridge$World", "day", "[I", true)
  | 2 => ("BackBridge$World", "papers", "[I", true)
  | 3 => ("BackBridge$World", "been", "[I", true)
  | 4 => ("BackBridge$World", "done", "I", false)
  | _ => ("BackBridge$World", "shut", "I", false)
def t_World : Nat → FieldType := fun k => match k with
  | 0 => .array .int
  | 1 => .array .int
  | 2 => .array .int
  | 3 => .array .int
  | 4 => .int
  | _ => .int
theorem n_World : ∀ a, a < 6 → ∀ b, b < 6 → a ≠ b → (T_World a).2.1 ≠ (T_World b).2.1 := by decide +kernel
theorem ty_World : ∀ k, k < 6 → parseFieldDescriptor (T_World k).2.2.1 = some (t_World k) := by decide +kernel
theorem in_World : ∀ w ∈ u_ws R_World T_World 6, w ∈ sm_wl := fun w hw => sn_m ((by decide +kernel : ∀ w ∈ u_ws R_World T_World 6, w ∈ lw_tbl) w hw) ((by decide +kernel : ∀ w ∈ u_ws R_World T_World 6, goodWord w = true) w hw)
def R_BB : String := "BackBridge"
def T_BB : u_T := fun k => match k with
  | 0 => ("BackBridge", "tape", "[B", true)
  | 1 => ("BackBridge", "taped", "I", false)
  | 2 => ("BackBridge", "land", "LBackBridge$Land;", true)
  | 3 => ("BackBridge", "world", "LBackBridge$World;", true)
  | 4 => ("BackBridge", "before", "LBackBridge$World;", true)
  | 5 => ("BackBridge", "reader", "LBackBridge$Reader;", true)
  | 6 => ("BackBridge", "laws", "LBackBridge$Laws;", true)
  | 7 => ("BackBridge", "deeds", "LBackBridge$Deeds;", true)
  | 8 => ("BackBridge", "past", "LBackBridge$Past;", true)
  | 9 => ("BackBridge", "search", "LBackBridge$Search;", true)
  | 10 => ("BackBridge", "choices", "LBackBridge$Choices;", true)
  | 11 => ("BackBridge", "trays", "LBackBridge$Trays;", true)
  | 12 => ("BackBridge", "answers", "LBackBridge$Answers;", true)
  | 13 => ("BackBridge", "imageLands", "[LBackBridge$Land;", true)
  | 14 => ("BackBridge", "imageWorlds", "[LBackBridge$World;", true)
  | _ => ("BackBridge", "imagesMade", "I", false)
def t_BB : Nat → FieldType := fun k => match k with
  | 0 => .array .byte
  | 1 => .int
  | 2 => .object "BackBridge$Land"
  | 3 => .object "BackBridge$World"
  | 4 => .object "BackBridge$World"
  | 5 => .object "BackBridge$Reader"
  | 6 => .object "BackBridge$Laws"
  | 7 => .object "BackBridge$Deeds"
  | 8 => .object "BackBridge$Past"
  | 9 => .object "BackBridge$Search"
  | 10 => .object "BackBridge$Choices"
  | 11 => .object "BackBridge$Trays"
  | 12 => .object "BackBridge$Answers"
  | 13 => .array (.object "BackBridge$Land")
  | 14 => .array (.object "BackBridge$World")
  | _ => .int
theorem n_BB : ∀ a, a < 16 → ∀ b, b < 16 → a ≠ b → (T_BB a).2.1 ≠ (T_BB b).2.1 := by decide +kernel
theorem ty_BB : ∀ k, k < 16 → parseFieldDescriptor (T_BB k).2.2.1 = some (t_BB k) := by decide +kernel
theorem in_BB : ∀ w ∈ u_ws R_BB T_BB 16, w ∈ sm_wl := fun w hw => sn_m ((by decide +kernel : ∀ w ∈ u_ws R_BB T_BB 16, w ∈ lw_tbl) w hw) ((by decide +kernel : ∀ w ∈ u_ws R_BB T_BB 16, goodWord w = true) w hw)
def R_Model : String := "BackBridgeModel"
def T_Model : u_T := fun k => match k with
  | 0 => ("BackBridgeModel", "thrown", "I", false)
  | 1 => ("BackBridgeModel", "all", "[I", true)
  | 2 => ("BackBridgeModel", "hasImage", "[Z", true)
  | 3 => ("BackBridgeModel", "tape", "[I", true)
  | 4 => ("BackBridgeModel", "fresh", "[I", true)
  | 5 => ("BackBridgeModel", "taped", "I", false)
  | 6 => ("BackBridgeModel", "at", "I", false)
  | 7 => ("BackBridgeModel", "behind", "I", false)
  | 8 => ("BackBridgeModel", "size", "I", false)
  | 9 => ("BackBridgeModel", "kind", "I", false)
  | 10 => ("BackBridgeModel", "number", "I", false)
  | 11 => ("BackBridgeModel", "wrong", "I", false)
  | 12 => ("BackBridgeModel", "wrongAt", "I", false)
  | 13 => ("BackBridgeModel", "faultKind", "I", false)
  | 14 => ("BackBridgeModel", "faultPlace", "I", false)
  | 15 => ("BackBridgeModel", "plainRoad", "I", false)
  | 16 => ("BackBridgeModel", "reckoned", "[I", true)
  | 17 => ("BackBridgeModel", "words", "[I", true)
  | 18 => ("BackBridgeModel", "was", "[I", true)
  | 19 => ("BackBridgeModel", "toldWhy", "I", false)
  | 20 => ("BackBridgeModel", "x", "I", false)
  | 21 => ("BackBridgeModel", "stands", "[I", true)
  | 22 => ("BackBridgeModel", "rowOf", "[I", true)
  | 23 => ("BackBridgeModel", "still", "[I", true)
  | 24 => ("BackBridgeModel", "comes", "[I", true)
  | 25 => ("BackBridgeModel", "standMany", "I", false)
  | 26 => ("BackBridgeModel", "wayRoads", "[I", true)
  | 27 => ("BackBridgeModel", "wayPapers", "I", false)
  | 28 => ("BackBridgeModel", "ways", "[J", true)
  | 29 => ("BackBridgeModel", "waysThen", "[J", true)
  | 30 => ("BackBridgeModel", "meetBest", "I", false)
  | 31 => ("BackBridgeModel", "rowSort", "[I", true)
  | 32 => ("BackBridgeModel", "rowMany", "[I", true)
  | _ => ("BackBridgeModel", "numbers", "[J", true)
def t_Model : Nat → FieldType := fun k => match k with
  | 0 => .int
  | 1 => .array .int
  | 2 => .array .boolean
  | 3 => .array .int
  | 4 => .array .int
  | 5 => .int
  | 6 => .int
  | 7 => .int
  | 8 => .int
  | 9 => .int
  | 10 => .int
  | 11 => .int
  | 12 => .int
  | 13 => .int
  | 14 => .int
  | 15 => .int
  | 16 => .array .int
  | 17 => .array .int
  | 18 => .array .int
  | 19 => .int
  | 20 => .int
  | 21 => .array .int
  | 22 => .array .int
  | 23 => .array .int
  | 24 => .array .int
  | 25 => .int
  | 26 => .array .int
  | 27 => .int
  | 28 => .array .long
  | 29 => .array .long
  | 30 => .int
  | 31 => .array .int
  | 32 => .array .int
  | _ => .array .long
theorem n_Model : ∀ a, a < 34 → ∀ b, b < 34 → a ≠ b → (T_Model a).2.1 ≠ (T_Model b).2.1 := by decide +kernel
theorem ty_Model : ∀ k, k < 34 → parseFieldDescriptor (T_Model k).2.2.1 = some (t_Model k) := by decide +kernel
theorem in_Model : ∀ w ∈ u_ws R_Model T_Model 34, w ∈ sm_wl := fun w hw => sn_m ((by decide +kernel : ∀ w ∈ u_ws R_Model T_Model 34, w ∈ lw_tbl) w hw) ((by decide +kernel : ∀ w ∈ u_ws R_Model T_Model 34, goodWord w = true) w hw)
def sm_cls : List vw_C := [(R_Answers, T_Answers, 4), (R_Choices, T_Choices, 7), (R_Deeds, T_Deeds, 4), (R_Land, T_Land, 16), (R_Law, T_Law, 3), (R_Laws, T_Laws, 3), (R_Past, T_Past, 3), (R_Reader, T_Reader, 9), (R_Search, T_Search, 20), (R_Trays, T_Trays, 3), (R_World, T_World, 6), (R_BB, T_BB, 16), (R_Model, T_Model, 34)]
def sm_fnL : List Nat := [4, 7, 4, 16, 3, 3, 3, 9, 20, 3, 6, 16, 34]
def sm_fn (ci : Nat) : Nat := sm_fnL.getD ci 0
def sm_fkL : List (List Nat) := [[2, 2, 2, 1], [2, 2, 2, 2, 2, 1, 1], [2, 2, 0, 0], [0, 0, 0, 0, 0, 2, 2, 2, 2, 2, 2, 2, 2, 2, 2, 2], [2, 2, 0], [2, 2, 2], [2, 0, 0], [2, 2, 2, 2, 0, 0, 3, 0, 0], [2, 2, 0, 0, 0, 0, 0, 0, 0, 2, 2, 2, 0, 2, 0, 0, 0, 2, 0, 2], [2, 2, 2], [2, 2, 2, 2, 0, 0], [2, 0, 2, 2, 2, 2, 2, 2, 2, 2, 2, 2, 2, 2, 2, 0], [0, 2, 2, 2, 2, 0, 0, 0, 0, 0, 0, 0, 0, 0, 0, 0, 2, 2, 2, 0, 0, 2, 2, 2, 2, 0, 2, 0, 2, 2, 0, 2, 2, 2]]
def sm_fk (ci k : Nat) : Nat := (sm_fkL.getD ci []).getD k 0
theorem sm_fk_lt (ci k : Nat) : sm_fk ci k < 4 := by
  unfold sm_fk
  have h : ∀ l ∈ sm_fkL, ∀ a ∈ l, a < 4 := by decide +kernel
  rw [List.getD_eq_getElem?_getD, List.getD_eq_getElem?_getD]
  cases h1 : sm_fkL[ci]? with
  | none => simp
  | some l =>
    simp only [Option.getD_some]
    cases h2 : l[k]? with
    | none => simp
    | some a => exact h l (List.mem_of_getElem? h1) a (List.mem_of_getElem? h2)
def sm_NC : Nat := 187
def sm_kdL : List Nat := [21, 1, 13, 0, 0, 0, 0, 0, 0, 0, 0, 0, 14, 0, 0, 14, 0, 0, 20, 0, 0, 0, 0, 20, 0, 0, 0, 0, 17, 13, 0, 0, 0, 0, 0, 0, 0, 0, 0, 14, 0, 0, 14, 0, 0, 0, 0, 0, 15, 0, 0, 12, 16, 4, 20, 0, 0, 0, 0, 20, 0, 0, 0, 0, 20, 0, 0, 0, 0, 20, 0, 0, 0, 0, 20, 0, 0, 0, 0, 20, 0, 0, 0, 0, 20, 0, 0, 0, 0, 20, 0, 0, 0, 0, 20, 0, 0, 0, 0, 20, 0, 0, 0, 0, 18, 0, 0, 0, 0, 0, 6, 3, 3, 11, 0, 0, 19, 6, 3, 3, 3, 3, 0, 0, 10, 5, 13, 0, 0, 0, 0, 0, 0, 0, 0, 0, 14, 0, 0, 14, 0, 0, 13, 0, 0, 0, 0, 0, 0, 0, 0, 0, 14, 0, 0, 14, 0, 0, 4, 20, 0, 0, 0, 0, 20, 0, 0, 0, 0, 22, 0, 2, 0, 0, 0, 0, 0, 0, 0, 0, 0, 0, 3, 3, 0, 0, 3]
def sm_kd (i : Nat) : Nat := sm_kdL.getD i 99
def sm_lnL : List Nat := [0, 900, 0, 12, 12, 12, 12, 6, 6, 6, 6, 6, 0, 900, 64, 0, 900, 64, 0, 6, 6, 6, 6, 0, 6, 6, 6, 6, 0, 0, 12, 12, 12, 12, 6, 6, 6, 6, 6, 0, 900, 64, 0, 900, 64, 901, 901, 901, 0, 7, 6720, 0, 0, 10, 0, 6, 6, 6, 6, 0, 6, 6, 6, 6, 0, 6, 6, 6, 6, 0, 6, 6, 6, 6, 0, 6, 6, 6, 6, 0, 6, 6, 6, 6, 0, 6, 6, 6, 6, 0, 6, 6, 6, 6, 0, 6, 6, 6, 6, 0, 6, 6, 6, 6, 0, 61440, 3840, 10240, 6, 96, 2, 3840, 3840, 0, 6, 6, 0, 4, 40, 40, 40, 40, 4, 4, 0, 2, 0, 12, 12, 12, 12, 6, 6, 6, 6, 6, 0, 900, 64, 0, 900, 64, 0, 12, 12, 12, 12, 6, 6, 6, 6, 6, 0, 900, 64, 0, 900, 64, 2, 0, 6, 6, 6, 6, 0, 6, 6, 6, 6, 0, 3828, 2, 900, 1276, 900, 7, 26, 61440, 61440, 61440, 737280, 4000, 3840, 3840, 4, 4, 160]
def sm_ln (i : Nat) : Nat := sm_lnL.getD i 0
def sm_rfL : List (List Nat) := [[1, 0, 2, 18, 23, 28, 48, 51, 52, 104, 113, 116, 124, 125, 158, 0], [], [0, 0, 0, 0, 0, 3, 4, 5, 6, 7, 8, 9, 10, 11, 12, 15], [], [], [], [], [], [], [], [], [], [13, 14, 0], [], [], [16, 17, 0], [], [], [19, 20, 21, 22, 0, 0], [], [], [], [], [24, 25, 26, 27, 0, 0], [], [], [], [], [29, 45, 46, 47, 0, 0, 0, 0, 0], [0, 0, 0, 0, 0, 30, 31, 32, 33, 34, 35, 36, 37, 38, 39, 42], [], [], [], [], [], [], [], [], [], [40, 41, 0], [], [], [43, 44, 0], [], [], [], [], [], [2, 49, 50], [], [], [2, 48, 0, 0], [53, 0, 0], [54, 59, 64, 69, 74, 79, 84, 89, 94, 99], [55, 56, 57, 58, 0, 0], [], [], [], [], [60, 61, 62, 63, 0, 0], [], [], [], [], [65, 66, 67, 68, 0, 0], [], [], [], [], [70, 71, 72, 73, 0, 0], [], [], [], [], [75, 76, 77, 78, 0, 0], [], [], [], [], [80, 81, 82, 83, 0, 0], [], [], [], [], [85, 86, 87, 88, 0, 0], [], [], [], [], [90, 91, 92, 93, 0, 0], [], [], [], [], [95, 96, 97, 98, 0, 0], [], [], [], [], [100, 101, 102, 103, 0, 0], [], [], [], [], [2, 48, 0, 0, 0, 0, 0, 0, 0, 105, 106, 107, 0, 108, 0, 0, 0, 109, 0, 110], [], [], [], [], [], [111, 112], [], [], [2, 18, 104, 114, 115, 0, 0], [], [], [117, 122, 123], [118, 119, 120, 121], [], [], [], [], [], [], [2, 18, 48, 0], [126, 142], [0, 0, 0, 0, 0, 127, 128, 129, 130, 131, 132, 133, 134, 135, 136, 139], [], [], [], [], [], [], [], [], [], [137, 138, 0], [], [], [140, 141, 0], [], [], [0, 0, 0, 0, 0, 143, 144, 145, 146, 147, 148, 149, 150, 151, 152, 155], [], [], [], [], [], [], [], [], [], [153, 154, 0], [], [], [156, 157, 0], [], [], [159, 164], [160, 161, 162, 163, 0, 0], [], [], [], [], [165, 166, 167, 168, 0, 0], [], [], [], [], [0, 170, 171, 172, 173, 0, 0, 0, 0, 0, 0, 0, 0, 0, 0, 0, 174, 175, 176, 0, 0, 177, 178, 179, 180, 0, 181, 0, 182, 183, 0, 184, 185, 186], [], [], [], [], [], [], [], [], [], [], [], [], [], [], [], [], []]
def sm_rf (i j : Nat) : Nat := (sm_rfL.getD i []).getD j 0
def sm_lawC : Nat := 4
def sm_str : List (List Nat) := [[112, 108, 97, 99, 101, 115], [114, 111, 97, 100], [112, 101, 114, 115, 111, 110], [108, 101, 116, 115], [116, 97, 107, 101, 115], [100, 97, 121, 115], [98, 114, 105, 100, 103, 101], [102, 108, 111, 111, 100], [97, 116], [98, 121], [111, 114], [97, 110, 100], [110, 111, 116], [119, 104, 111], [98, 111, 114, 110], [98, 101, 101, 110], [115, 101, 101, 110], [112, 97, 112, 101, 114, 115], [102, 114, 111, 109], [116, 111], [59, 58, 43, 45, 42, 40, 41, 91, 93, 61, 60, 62], [32, 112, 108, 97, 99, 101, 115, 32, 114, 111, 97, 100, 32, 116, 111, 32, 100, 97, 121, 115, 32, 98, 114, 105, 100, 103, 101, 32, 102, 108, 111, 111, 100, 32, 112, 101, 114, 115, 111, 110, 32, 97, 116, 32, 98, 111, 114, 110, 32, 112, 97, 112, 101, 114, 115, 32, 98, 121, 32, 108, 101, 116, 115, 32, 116, 97, 107, 101, 115, 32, 119, 104, 111, 32, 98, 101, 101, 110, 32, 115, 101, 101, 110, 32, 102, 114, 111, 109, 32, 97, 110, 100, 32, 111, 114, 32, 110, 111, 116, 32]]
/-- the String constants of the two classes: class, entry, text, which text it is -/
def sm_strs : List (String × Nat × String × Nat) := [("BackBridge$Reader", 88, "places", 0), ("BackBridge$Reader", 90, "road", 1), ("BackBridge$Reader", 92, "person", 2), ("BackBridge$Reader", 94, "lets", 3), ("BackBridge$Reader", 96, "takes", 4), ("BackBridge$Reader", 98, "days", 5), ("BackBridge$Reader", 100, "bridge", 6), ("BackBridge$Reader", 102, "flood", 7), ("BackBridge$Reader", 104, "at", 8), ("BackBridge$Reader", 106, "by", 9), ("BackBridge$Reader", 108, "or", 10), ("BackBridge$Reader", 110, "and", 11), ("BackBridge$Reader", 112, "not", 12), ("BackBridge$Reader", 114, "who", 13), ("BackBridge$Reader", 116, "born", 14), ("BackBridge$Reader", 118, "been", 15), ("BackBridge$Reader", 120, "seen", 16), ("BackBridge$Reader", 122, "papers", 17), ("BackBridge$Reader", 124, "from", 18), ("BackBridge$Reader", 126, "to", 19), ("BackBridge$Reader", 69, ";:+-*()[]=<>", 20), ("BackBridgeModel", 85, " places road to days bridge flood person at born papers by lets takes who been seen from and or not ", 21), ("BackBridgeModel", 123, ";:+-*()[]=<>", 20)]
def sm_tys (cA : Nat → ClassId) : List (ClassId × FieldType) := [(cA 0, .int), (cA 1, .byte), (cA 2, .boolean), (cA 3, .long), (cA 4, .object "BackBridge$World"), (cA 5, .object "BackBridge$Land"), (cA 6, .array .long)]
theorem sm_kd_lt {i : Nat} (h : sm_kd i < 90) : i < sm_NC := by
  rcases Nat.lt_or_ge i sm_NC with q | q
  · exact q
  · exfalso
    unfold sm_kd at h
    rw [List.getD_eq_getElem?_getD, List.getElem?_eq_none (by exact q)] at h
    exact absurd h (by decide)
