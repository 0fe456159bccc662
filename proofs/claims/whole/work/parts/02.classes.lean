def RX0 : String := "PaperHouse$Bundler"
def TX0 : u_T := fun k => match k with
  | 0 => ("PaperHouse$Bundler", "bundleOf", "[I", true)
  | 1 => ("PaperHouse$Bundler", "rest", "[I", true)
  | 2 => ("PaperHouse$Bundler", "kinds", "[I", true)
  | 3 => ("PaperHouse$Bundler", "sizes", "[I", true)
  | 4 => ("PaperHouse$Bundler", "firsts", "[I", true)
  | 5 => ("PaperHouse$Bundler", "least", "I", false)
  | 6 => ("PaperHouse$Bundler", "most", "I", false)
  | 7 => ("PaperHouse$Bundler", "bundles", "I", false)
  | _ => ("PaperHouse$Bundler", "stale", "Z", false)
def tyX0 : Nat → FieldType := fun k => match k with
  | 0 => .array .int
  | 1 => .array .int
  | 2 => .array .int
  | 3 => .array .int
  | 4 => .array .int
  | 5 => .int
  | 6 => .int
  | 7 => .int
  | _ => .boolean
theorem nmX0 : ∀ a, a < 9 → ∀ b, b < 9 → a ≠ b → (TX0 a).2.1 ≠ (TX0 b).2.1 := by decide +kernel
theorem tyX0_ok : ∀ k, k < 9 → parseFieldDescriptor (TX0 k).2.2.1 = some (tyX0 k) := by decide +kernel
def RX1 : String := "PaperHouse$Folding"
def TX1 : u_T := fun k => match k with
  | 0 => ("PaperHouse$Folding", "folds", "[I", true)
  | 1 => ("PaperHouse$Folding", "stacks", "[I", true)
  | 2 => ("PaperHouse$Folding", "stacksBefore", "[I", true)
  | 3 => ("PaperHouse$Folding", "leafOf", "[I", true)
  | 4 => ("PaperHouse$Folding", "turned", "[I", true)
  | 5 => ("PaperHouse$Folding", "tumbled", "[I", true)
  | 6 => ("PaperHouse$Folding", "rows", "I", false)
  | 7 => ("PaperHouse$Folding", "columns", "I", false)
  | 8 => ("PaperHouse$Folding", "gridRows", "I", false)
  | 9 => ("PaperHouse$Folding", "gridColumns", "I", false)
  | 10 => ("PaperHouse$Folding", "height", "I", false)
  | 11 => ("PaperHouse$Folding", "sheets", "I", false)
  | 12 => ("PaperHouse$Folding", "way", "I", false)
  | _ => ("PaperHouse$Folding", "caliper", "I", false)
def tyX1 : Nat → FieldType := fun k => match k with
  | 0 => .array .int
  | 1 => .array .int
  | 2 => .array .int
  | 3 => .array .int
  | 4 => .array .int
  | 5 => .array .int
  | 6 => .int
  | 7 => .int
  | 8 => .int
  | 9 => .int
  | 10 => .int
  | 11 => .int
  | 12 => .int
  | _ => .int
theorem nmX1 : ∀ a, a < 14 → ∀ b, b < 14 → a ≠ b → (TX1 a).2.1 ≠ (TX1 b).2.1 := by decide +kernel
theorem tyX1_ok : ∀ k, k < 14 → parseFieldDescriptor (TX1 k).2.2.1 = some (tyX1 k) := by decide +kernel
def RX2 : String := "PaperHouse$MailList"
def TX2 : u_T := fun k => match k with
  | 0 => ("PaperHouse$MailList", "codes", "[I", true)
  | 1 => ("PaperHouse$MailList", "names", "[J", true)
  | 2 => ("PaperHouse$MailList", "came", "[I", true)
  | 3 => ("PaperHouse$MailList", "draftCodes", "[I", true)
  | 4 => ("PaperHouse$MailList", "draftNames", "[J", true)
  | 5 => ("PaperHouse$MailList", "drafts", "I", false)
  | 6 => ("PaperHouse$MailList", "size", "I", false)
  | _ => ("PaperHouse$MailList", "comers", "I", false)
def tyX2 : Nat → FieldType := fun k => match k with
  | 0 => .array .int
  | 1 => .array .long
  | 2 => .array .int
  | 3 => .array .int
  | 4 => .array .long
  | 5 => .int
  | 6 => .int
  | _ => .int
theorem nmX2 : ∀ a, a < 8 → ∀ b, b < 8 → a ≠ b → (TX2 a).2.1 ≠ (TX2 b).2.1 := by decide +kernel
theorem tyX2_ok : ∀ k, k < 8 → parseFieldDescriptor (TX2 k).2.2.1 = some (tyX2 k) := by decide +kernel
def RX3 : String := "PaperHouse$Pile"
def TX3 : u_T := fun k => match k with
  | 0 => ("PaperHouse$Pile", "lefts", "[I", true)
  | 1 => ("PaperHouse$Pile", "tops", "[I", true)
  | 2 => ("PaperHouse$Pile", "widths", "[I", true)
  | 3 => ("PaperHouse$Pile", "heights", "[I", true)
  | _ => ("PaperHouse$Pile", "pieces", "I", false)
def tyX3 : Nat → FieldType := fun k => match k with
  | 0 => .array .int
  | 1 => .array .int
  | 2 => .array .int
  | 3 => .array .int
  | _ => .int
theorem nmX3 : ∀ a, a < 5 → ∀ b, b < 5 → a ≠ b → (TX3 a).2.1 ≠ (TX3 b).2.1 := by decide +kernel
theorem tyX3_ok : ∀ k, k < 5 → parseFieldDescriptor (TX3 k).2.2.1 = some (tyX3 k) := by decide +kernel
def RX4 : String := "PaperHouse$Plates"
def TX4 : u_T := fun k => match k with
  | 0 => ("PaperHouse$Plates", "tones", "[I", true)
  | _ => ("PaperHouse$Plates", "draft", "[I", true)
def tyX4 : Nat → FieldType := fun k => match k with
  | 0 => .array .int
  | _ => .array .int
theorem nmX4 : ∀ a, a < 2 → ∀ b, b < 2 → a ≠ b → (TX4 a).2.1 ≠ (TX4 b).2.1 := by decide +kernel
theorem tyX4_ok : ∀ k, k < 2 → parseFieldDescriptor (TX4 k).2.2.1 = some (tyX4 k) := by decide +kernel
def RX5 : String := "PaperHouse$Press"
def TX5 : u_T := fun k => match k with
  | 0 => ("PaperHouse$Press", "keys", "[I", true)
  | 1 => ("PaperHouse$Press", "coverage", "[I", true)
  | 2 => ("PaperHouse$Press", "share", "[I", true)
  | 3 => ("PaperHouse$Press", "filmA", "[I", true)
  | 4 => ("PaperHouse$Press", "filmB", "[I", true)
  | 5 => ("PaperHouse$Press", "density", "[I", true)
  | 6 => ("PaperHouse$Press", "paper", "[I", true)
  | 7 => ("PaperHouse$Press", "goodBits", "[I", true)
  | 8 => ("PaperHouse$Press", "zones", "I", false)
  | 9 => ("PaperHouse$Press", "aim", "I", false)
  | 10 => ("PaperHouse$Press", "tolerance", "I", false)
  | 11 => ("PaperHouse$Press", "spoiled", "I", false)
  | 12 => ("PaperHouse$Press", "printed", "I", false)
  | _ => ("PaperHouse$Press", "good", "I", false)
def tyX5 : Nat → FieldType := fun k => match k with
  | 0 => .array .int
  | 1 => .array .int
  | 2 => .array .int
  | 3 => .array .int
  | 4 => .array .int
  | 5 => .array .int
  | 6 => .array .int
  | 7 => .array .int
  | 8 => .int
  | 9 => .int
  | 10 => .int
  | 11 => .int
  | 12 => .int
  | _ => .int
theorem nmX5 : ∀ a, a < 14 → ∀ b, b < 14 → a ≠ b → (TX5 a).2.1 ≠ (TX5 b).2.1 := by decide +kernel
theorem tyX5_ok : ∀ k, k < 14 → parseFieldDescriptor (TX5 k).2.2.1 = some (tyX5 k) := by decide +kernel
def RX6 : String := "PaperHouse$Rolls"
def TX6 : u_T := fun k => match k with
  | 0 => ("PaperHouse$Rolls", "widths", "[I", true)
  | 1 => ("PaperHouse$Rolls", "wanted", "[I", true)
  | 2 => ("PaperHouse$Rolls", "draftWidths", "[I", true)
  | 3 => ("PaperHouse$Rolls", "draftWanted", "[I", true)
  | 4 => ("PaperHouse$Rolls", "strides", "[I", true)
  | 5 => ("PaperHouse$Rolls", "open", "[I", true)
  | 6 => ("PaperHouse$Rolls", "trial", "[I", true)
  | 7 => ("PaperHouse$Rolls", "fewest", "[I", true)
  | 8 => ("PaperHouse$Rolls", "plan", "[I", true)
  | 9 => ("PaperHouse$Rolls", "roll", "I", false)
  | 10 => ("PaperHouse$Rolls", "knives", "I", false)
  | 11 => ("PaperHouse$Rolls", "kinds", "I", false)
  | _ => ("PaperHouse$Rolls", "patterns", "I", false)
def tyX6 : Nat → FieldType := fun k => match k with
  | 0 => .array .int
  | 1 => .array .int
  | 2 => .array .int
  | 3 => .array .int
  | 4 => .array .int
  | 5 => .array .int
  | 6 => .array .int
  | 7 => .array .int
  | 8 => .array .int
  | 9 => .int
  | 10 => .int
  | 11 => .int
  | _ => .int
theorem nmX6 : ∀ a, a < 13 → ∀ b, b < 13 → a ≠ b → (TX6 a).2.1 ≠ (TX6 b).2.1 := by decide +kernel
theorem tyX6_ok : ∀ k, k < 13 → parseFieldDescriptor (TX6 k).2.2.1 = some (tyX6 k) := by decide +kernel
def RX7 : String := "PaperHouse$Tape"
def TX7 : u_T := fun k => match k with
  | 0 => ("PaperHouse$Tape", "bytes", "[I", true)
  | 1 => ("PaperHouse$Tape", "size", "I", false)
  | 2 => ("PaperHouse$Tape", "at", "I", false)
  | 3 => ("PaperHouse$Tape", "from", "I", false)
  | _ => ("PaperHouse$Tape", "fault", "I", false)
def tyX7 : Nat → FieldType := fun k => match k with
  | 0 => .array .int
  | 1 => .int
  | 2 => .int
  | 3 => .int
  | _ => .int
theorem nmX7 : ∀ a, a < 5 → ∀ b, b < 5 → a ≠ b → (TX7 a).2.1 ≠ (TX7 b).2.1 := by decide +kernel
theorem tyX7_ok : ∀ k, k < 5 → parseFieldDescriptor (TX7 k).2.2.1 = some (tyX7 k) := by decide +kernel
def RX8 : String := "PaperHouse$TypeLine"
def TX8 : u_T := fun k => match k with
  | 0 => ("PaperHouse$TypeLine", "marks", "[I", true)
  | 1 => ("PaperHouse$TypeLine", "size", "I", false)
  | 2 => ("PaperHouse$TypeLine", "width", "I", false)
  | 3 => ("PaperHouse$TypeLine", "words", "I", false)
  | 4 => ("PaperHouse$TypeLine", "letters", "I", false)
  | 5 => ("PaperHouse$TypeLine", "firstSpace", "I", false)
  | _ => ("PaperHouse$TypeLine", "lastSpace", "I", false)
def tyX8 : Nat → FieldType := fun k => match k with
  | 0 => .array .int
  | 1 => .int
  | 2 => .int
  | 3 => .int
  | 4 => .int
  | 5 => .int
  | _ => .int
theorem nmX8 : ∀ a, a < 7 → ∀ b, b < 7 → a ≠ b → (TX8 a).2.1 ≠ (TX8 b).2.1 := by decide +kernel
theorem tyX8_ok : ∀ k, k < 7 → parseFieldDescriptor (TX8 k).2.2.1 = some (tyX8 k) := by decide +kernel
def RX9 : String := "PaperHouse$TypeRoom"
def TX9 : u_T := fun k => match k with
  | 0 => ("PaperHouse$TypeRoom", "stock", "[I", true)
  | 1 => ("PaperHouse$TypeRoom", "widths", "[I", true)
  | 2 => ("PaperHouse$TypeRoom", "needed", "[I", true)
  | 3 => ("PaperHouse$TypeRoom", "wordFrom", "[I", true)
  | 4 => ("PaperHouse$TypeRoom", "wordLength", "[I", true)
  | 5 => ("PaperHouse$TypeRoom", "wordWidth", "[I", true)
  | 6 => ("PaperHouse$TypeRoom", "lineStart", "[I", true)
  | 7 => ("PaperHouse$TypeRoom", "galley", "[LPaperHouse$TypeLine;", true)
  | 8 => ("PaperHouse$TypeRoom", "words", "I", false)
  | _ => ("PaperHouse$TypeRoom", "lines", "I", false)
def tyX9 : Nat → FieldType := fun k => match k with
  | 0 => .array .int
  | 1 => .array .int
  | 2 => .array .int
  | 3 => .array .int
  | 4 => .array .int
  | 5 => .array .int
  | 6 => .array .int
  | 7 => .array (.object "PaperHouse$TypeLine")
  | 8 => .int
  | _ => .int
theorem nmX9 : ∀ a, a < 10 → ∀ b, b < 10 → a ≠ b → (TX9 a).2.1 ≠ (TX9 b).2.1 := by decide +kernel
theorem tyX9_ok : ∀ k, k < 10 → parseFieldDescriptor (TX9 k).2.2.1 = some (tyX9 k) := by decide +kernel
def RX10 : String := "PaperHouse$Workshop"
def TX10 : u_T := fun k => match k with
  | 0 => ("PaperHouse$Workshop", "colours", "[I", true)
  | 1 => ("PaperHouse$Workshop", "prints", "[I", true)
  | 2 => ("PaperHouse$Workshop", "binds", "[I", true)
  | 3 => ("PaperHouse$Workshop", "dues", "[I", true)
  | 4 => ("PaperHouse$Workshop", "best", "[I", true)
  | 5 => ("PaperHouse$Workshop", "trial", "[I", true)
  | 6 => ("PaperHouse$Workshop", "used", "[Z", true)
  | 7 => ("PaperHouse$Workshop", "schedule", "[I", true)
  | 8 => ("PaperHouse$Workshop", "size", "I", false)
  | 9 => ("PaperHouse$Workshop", "change", "I", false)
  | 10 => ("PaperHouse$Workshop", "dry", "I", false)
  | 11 => ("PaperHouse$Workshop", "bestLate", "I", false)
  | 12 => ("PaperHouse$Workshop", "bestEnd", "I", false)
  | 13 => ("PaperHouse$Workshop", "changes", "I", false)
  | _ => ("PaperHouse$Workshop", "stale", "Z", false)
def tyX10 : Nat → FieldType := fun k => match k with
  | 0 => .array .int
  | 1 => .array .int
  | 2 => .array .int
  | 3 => .array .int
  | 4 => .array .int
  | 5 => .array .int
  | 6 => .array .boolean
  | 7 => .array .int
  | 8 => .int
  | 9 => .int
  | 10 => .int
  | 11 => .int
  | 12 => .int
  | 13 => .int
  | _ => .boolean
theorem nmX10 : ∀ a, a < 15 → ∀ b, b < 15 → a ≠ b → (TX10 a).2.1 ≠ (TX10 b).2.1 := by decide +kernel
theorem tyX10_ok : ∀ k, k < 15 → parseFieldDescriptor (TX10 k).2.2.1 = some (tyX10 k) := by decide +kernel
def RX11 : String := "PaperHouse"
def TX11 : u_T := fun k => match k with
  | 0 => ("PaperHouse", "tape", "LPaperHouse$Tape;", true)
  | 1 => ("PaperHouse", "rolls", "LPaperHouse$Rolls;", true)
  | 2 => ("PaperHouse", "folding", "LPaperHouse$Folding;", true)
  | 3 => ("PaperHouse", "plates", "LPaperHouse$Plates;", true)
  | 4 => ("PaperHouse", "press", "LPaperHouse$Press;", true)
  | 5 => ("PaperHouse", "typeRoom", "LPaperHouse$TypeRoom;", true)
  | 6 => ("PaperHouse", "mail", "LPaperHouse$MailList;", true)
  | 7 => ("PaperHouse", "bundler", "LPaperHouse$Bundler;", true)
  | 8 => ("PaperHouse", "workshop", "LPaperHouse$Workshop;", true)
  | 9 => ("PaperHouse", "pile", "LPaperHouse$Pile;", false)
  | _ => ("PaperHouse", "sparePile", "LPaperHouse$Pile;", false)
def tyX11 : Nat → FieldType := fun k => match k with
  | 0 => .object "PaperHouse$Tape"
  | 1 => .object "PaperHouse$Rolls"
  | 2 => .object "PaperHouse$Folding"
  | 3 => .object "PaperHouse$Plates"
  | 4 => .object "PaperHouse$Press"
  | 5 => .object "PaperHouse$TypeRoom"
  | 6 => .object "PaperHouse$MailList"
  | 7 => .object "PaperHouse$Bundler"
  | 8 => .object "PaperHouse$Workshop"
  | 9 => .object "PaperHouse$Pile"
  | _ => .object "PaperHouse$Pile"
theorem nmX11 : ∀ a, a < 11 → ∀ b, b < 11 → a ≠ b → (TX11 a).2.1 ≠ (TX11 b).2.1 := by decide +kernel
theorem tyX11_ok : ∀ k, k < 11 → parseFieldDescriptor (TX11 k).2.2.1 = some (tyX11 k) := by decide +kernel
def RX12 : String := "PaperHouseModel"
def TX12 : u_T := fun k => match k with
  | 0 => ("PaperHouseModel", "tape", "[I", true)
  | 1 => ("PaperHouseModel", "text", "[I", true)
  | 2 => ("PaperHouseModel", "taped", "I", false)
  | 3 => ("PaperHouseModel", "size", "I", false)
  | 4 => ("PaperHouseModel", "next", "I", false)
  | 5 => ("PaperHouseModel", "wrong", "I", false)
  | 6 => ("PaperHouseModel", "widths", "[I", true)
  | 7 => ("PaperHouseModel", "wanted", "[I", true)
  | 8 => ("PaperHouseModel", "newWidths", "[I", true)
  | 9 => ("PaperHouseModel", "newWanted", "[I", true)
  | 10 => ("PaperHouseModel", "plan", "[I", true)
  | 11 => ("PaperHouseModel", "rest", "[I", true)
  | 12 => ("PaperHouseModel", "roll", "I", false)
  | 13 => ("PaperHouseModel", "knives", "I", false)
  | 14 => ("PaperHouseModel", "kinds", "I", false)
  | 15 => ("PaperHouseModel", "rolls", "I", false)
  | 16 => ("PaperHouseModel", "fewest", "[I", true)
  | 17 => ("PaperHouseModel", "some", "[I", true)
  | 18 => ("PaperHouseModel", "rows", "I", false)
  | 19 => ("PaperHouseModel", "columns", "I", false)
  | 20 => ("PaperHouseModel", "sheets", "I", false)
  | 21 => ("PaperHouseModel", "way", "I", false)
  | 22 => ("PaperHouseModel", "caliper", "I", false)
  | 23 => ("PaperHouseModel", "folds", "[I", true)
  | 24 => ("PaperHouseModel", "leafOf", "[I", true)
  | 25 => ("PaperHouseModel", "turnedOver", "[Z", true)
  | 26 => ("PaperHouseModel", "upside", "[Z", true)
  | 27 => ("PaperHouseModel", "foldMany", "I", false)
  | 28 => ("PaperHouseModel", "newFolds", "[I", true)
  | 29 => ("PaperHouseModel", "tones", "[I", true)
  | 30 => ("PaperHouseModel", "dots", "[I", true)
  | 31 => ("PaperHouseModel", "thresholds", "[I", true)
  | 32 => ("PaperHouseModel", "zones", "I", false)
  | 33 => ("PaperHouseModel", "zoneRows", "I", false)
  | 34 => ("PaperHouseModel", "aim", "I", false)
  | 35 => ("PaperHouseModel", "tolerance", "I", false)
  | 36 => ("PaperHouseModel", "spoiled", "I", false)
  | 37 => ("PaperHouseModel", "printed", "I", false)
  | 38 => ("PaperHouseModel", "good", "I", false)
  | 39 => ("PaperHouseModel", "keys", "[I", true)
  | 40 => ("PaperHouseModel", "coverage", "[I", true)
  | 41 => ("PaperHouseModel", "density", "[I", true)
  | 42 => ("PaperHouseModel", "numbers", "[I", true)
  | 43 => ("PaperHouseModel", "filmA", "[J", true)
  | 44 => ("PaperHouseModel", "filmB", "[J", true)
  | 45 => ("PaperHouseModel", "paper", "[J", true)
  | 46 => ("PaperHouseModel", "a", "J", false)
  | 47 => ("PaperHouseModel", "b", "J", false)
  | 48 => ("PaperHouseModel", "sortMany", "[I", true)
  | 49 => ("PaperHouseModel", "sortWidth", "[I", true)
  | 50 => ("PaperHouseModel", "needs", "[I", true)
  | 51 => ("PaperHouseModel", "things", "[I", true)
  | 52 => ("PaperHouseModel", "thingMany", "[I", true)
  | 53 => ("PaperHouseModel", "words", "[I", true)
  | 54 => ("PaperHouseModel", "lineWidth", "[I", true)
  | 55 => ("PaperHouseModel", "spaces", "[I", true)
  | 56 => ("PaperHouseModel", "galley", "I", false)
  | 57 => ("PaperHouseModel", "px", "[I", true)
  | 58 => ("PaperHouseModel", "py", "[I", true)
  | 59 => ("PaperHouseModel", "pw", "[I", true)
  | 60 => ("PaperHouseModel", "ph", "[I", true)
  | 61 => ("PaperHouseModel", "nx", "[I", true)
  | 62 => ("PaperHouseModel", "ny", "[I", true)
  | 63 => ("PaperHouseModel", "nw", "[I", true)
  | 64 => ("PaperHouseModel", "nh", "[I", true)
  | 65 => ("PaperHouseModel", "pieces", "I", false)
  | 66 => ("PaperHouseModel", "codes", "[I", true)
  | 67 => ("PaperHouseModel", "bundleOf", "[I", true)
  | 68 => ("PaperHouseModel", "order", "[I", true)
  | 69 => ("PaperHouseModel", "bundleSort", "[I", true)
  | 70 => ("PaperHouseModel", "bundleSize", "[I", true)
  | 71 => ("PaperHouseModel", "bundleFirst", "[I", true)
  | 72 => ("PaperHouseModel", "names", "[J", true)
  | 73 => ("PaperHouseModel", "letters", "I", false)
  | 74 => ("PaperHouseModel", "newLetters", "I", false)
  | 75 => ("PaperHouseModel", "least", "I", false)
  | 76 => ("PaperHouseModel", "most", "I", false)
  | 77 => ("PaperHouseModel", "bundleMany", "I", false)
  | 78 => ("PaperHouseModel", "colour", "[I", true)
  | 79 => ("PaperHouseModel", "printTime", "[I", true)
  | 80 => ("PaperHouseModel", "bindTime", "[I", true)
  | 81 => ("PaperHouseModel", "due", "[I", true)
  | 82 => ("PaperHouseModel", "best", "[I", true)
  | 83 => ("PaperHouseModel", "trial", "[I", true)
  | 84 => ("PaperHouseModel", "times", "[I", true)
  | 85 => ("PaperHouseModel", "jobs", "I", false)
  | 86 => ("PaperHouseModel", "change", "I", false)
  | 87 => ("PaperHouseModel", "dry", "I", false)
  | 88 => ("PaperHouseModel", "late", "I", false)
  | 89 => ("PaperHouseModel", "lastEnd", "I", false)
  | 90 => ("PaperHouseModel", "changes", "I", false)
  | _ => ("PaperHouseModel", "isOrdered", "Z", false)
def tyX12 : Nat → FieldType := fun k => match k with
  | 0 => .array .int
  | 1 => .array .int
  | 2 => .int
  | 3 => .int
  | 4 => .int
  | 5 => .int
  | 6 => .array .int
  | 7 => .array .int
  | 8 => .array .int
  | 9 => .array .int
  | 10 => .array .int
  | 11 => .array .int
  | 12 => .int
  | 13 => .int
  | 14 => .int
  | 15 => .int
  | 16 => .array .int
  | 17 => .array .int
  | 18 => .int
  | 19 => .int
  | 20 => .int
  | 21 => .int
  | 22 => .int
  | 23 => .array .int
  | 24 => .array .int
  | 25 => .array .boolean
  | 26 => .array .boolean
  | 27 => .int
  | 28 => .array .int
  | 29 => .array .int
  | 30 => .array .int
  | 31 => .array .int
  | 32 => .int
  | 33 => .int
  | 34 => .int
  | 35 => .int
  | 36 => .int
  | 37 => .int
  | 38 => .int
  | 39 => .array .int
  | 40 => .array .int
  | 41 => .array .int
  | 42 => .array .int
  | 43 => .array .long
  | 44 => .array .long
  | 45 => .array .long
  | 46 => .long
  | 47 => .long
  | 48 => .array .int
  | 49 => .array .int
  | 50 => .array .int
  | 51 => .array .int
  | 52 => .array .int
  | 53 => .array .int
  | 54 => .array .int
  | 55 => .array .int
  | 56 => .int
  | 57 => .array .int
  | 58 => .array .int
  | 59 => .array .int
  | 60 => .array .int
  | 61 => .array .int
  | 62 => .array .int
  | 63 => .array .int
  | 64 => .array .int
  | 65 => .int
  | 66 => .array .int
  | 67 => .array .int
  | 68 => .array .int
  | 69 => .array .int
  | 70 => .array .int
  | 71 => .array .int
  | 72 => .array .long
  | 73 => .int
  | 74 => .int
  | 75 => .int
  | 76 => .int
  | 77 => .int
  | 78 => .array .int
  | 79 => .array .int
  | 80 => .array .int
  | 81 => .array .int
  | 82 => .array .int
  | 83 => .array .int
  | 84 => .array .int
  | 85 => .int
  | 86 => .int
  | 87 => .int
  | 88 => .int
  | 89 => .int
  | 90 => .int
  | _ => .boolean
theorem nmX12 : ∀ a, a < 92 → ∀ b, b < 92 → a ≠ b → (TX12 a).2.1 ≠ (TX12 b).2.1 := by decide +kernel
theorem tyX12_ok : ∀ k, k < 92 → parseFieldDescriptor (TX12 k).2.2.1 = some (tyX12 k) := by decide +kernel
abbrev pm_cl : List vw_C := [(RX0, TX0, 9), (RX1, TX1, 14), (RX2, TX2, 8), (RX3, TX3, 5), (RX4, TX4, 2), (RX5, TX5, 14), (RX6, TX6, 13), (RX7, TX7, 5), (RX8, TX8, 7), (RX9, TX9, 10), (RX10, TX10, 15), (RX11, TX11, 11), (RX12, TX12, 92)]
def pm_cnL : List String := ["PaperHouse$Bundler", "PaperHouse$Folding", "PaperHouse$MailList", "PaperHouse$Pile", "PaperHouse$Plates", "PaperHouse$Press", "PaperHouse$Rolls", "PaperHouse$Tape", "PaperHouse$TypeLine", "PaperHouse$TypeRoom", "PaperHouse$Workshop", "PaperHouse", "PaperHouseModel", "PaperHouseLaw", "java/lang/Math", "java/lang/Integer"]
def pm_cn (i : Nat) : String := pm_cnL.getD i ""
theorem tb_get {p : Nat} {w : Cond} (h : tables_1[p]? = some w) : w ∈ lw_tbl := List.mem_append_right _ (List.mem_of_getElem? h)
def pm_inws (C : String) (T : u_T) (ps : List Nat) : Bool := (List.range ps.length).all fun k => decide (tables_1[ps.getD k 0]? = some (u_lay C T k))
theorem pm_inws_ok {C : String} {T : u_T} {N : Nat} {ps : List Nat} (hl : ps.length = N) (h : pm_inws C T ps = true) : ∀ w ∈ u_ws C T N, w ∈ lw_tbl := by
  intro w hw
  obtain ⟨k, hk, rfl⟩ := List.mem_map.mp hw
  have hk := List.mem_range.mp hk
  have h2 := List.all_eq_true.mp h k (List.mem_range.mpr (by omega))
  exact tb_get (of_decide_eq_true h2)
theorem inX0 : ∀ w ∈ u_ws RX0 TX0 9, w ∈ lw_tbl := pm_inws_ok (ps := [346, 348, 350, 352, 354, 356, 358, 360, 362]) rfl (by decide +kernel)
theorem inX1 : ∀ w ∈ u_ws RX1 TX1 14, w ∈ lw_tbl := pm_inws_ok (ps := [140, 142, 144, 146, 148, 150, 152, 154, 156, 158, 160, 162, 164, 166]) rfl (by decide +kernel)
theorem inX2 : ∀ w ∈ u_ws RX2 TX2 8, w ∈ lw_tbl := pm_inws_ok (ps := [313, 315, 317, 319, 321, 323, 325, 327]) rfl (by decide +kernel)
theorem inX3 : ∀ w ∈ u_ws RX3 TX3 5, w ∈ lw_tbl := pm_inws_ok (ps := [429, 431, 433, 435, 437]) rfl (by decide +kernel)
theorem inX4 : ∀ w ∈ u_ws RX4 TX4 2, w ∈ lw_tbl := pm_inws_ok (ps := [177, 179]) rfl (by decide +kernel)
theorem inX5 : ∀ w ∈ u_ws RX5 TX5 14, w ∈ lw_tbl := pm_inws_ok (ps := [202, 204, 206, 208, 210, 212, 214, 216, 218, 220, 222, 224, 226, 228]) rfl (by decide +kernel)
theorem inX6 : ∀ w ∈ u_ws RX6 TX6 13, w ∈ lw_tbl := pm_inws_ok (ps := [71, 73, 75, 77, 79, 81, 83, 85, 87, 89, 91, 93, 95]) rfl (by decide +kernel)
theorem inX7 : ∀ w ∈ u_ws RX7 TX7 5, w ∈ lw_tbl := pm_inws_ok (ps := [40, 42, 44, 46, 48]) rfl (by decide +kernel)
theorem inX8 : ∀ w ∈ u_ws RX8 TX8 7, w ∈ lw_tbl := pm_inws_ok (ps := [253, 255, 257, 259, 261, 263, 265]) rfl (by decide +kernel)
theorem inX9 : ∀ w ∈ u_ws RX9 TX9 10, w ∈ lw_tbl := pm_inws_ok (ps := [278, 280, 282, 284, 286, 288, 290, 292, 294, 296]) rfl (by decide +kernel)
theorem inX10 : ∀ w ∈ u_ws RX10 TX10 15, w ∈ lw_tbl := pm_inws_ok (ps := [386, 388, 390, 392, 394, 396, 398, 400, 402, 404, 406, 408, 410, 412, 414]) rfl (by decide +kernel)
theorem inX11 : ∀ w ∈ u_ws RX11 TX11 11, w ∈ lw_tbl := pm_inws_ok (ps := [451, 453, 455, 457, 459, 461, 463, 465, 467, 469, 471]) rfl (by decide +kernel)
theorem inX12 : ∀ w ∈ u_ws RX12 TX12 92, w ∈ lw_tbl := pm_inws_ok (ps := [1484, 1486, 1488, 1490, 1492, 1494, 1496, 1498, 1500, 1502, 1504, 1506, 1508, 1510, 1512, 1514, 1516, 1518, 1520, 1522, 1524, 1526, 1528, 1530, 1532, 1534, 1536, 1538, 1540, 1542, 1544, 1546, 1548, 1550, 1552, 1554, 1556, 1558, 1560, 1562, 1564, 1566, 1568, 1570, 1572, 1574, 1576, 1578, 1580, 1582, 1584, 1586, 1588, 1590, 1592, 1594, 1596, 1598, 1600, 1602, 1604, 1606, 1608, 1610, 1612, 1614, 1616, 1618, 1620, 1622, 1624, 1626, 1628, 1630, 1632, 1634, 1636, 1638, 1640, 1642, 1644, 1646, 1648, 1650, 1652, 1654, 1656, 1658, 1660, 1662, 1664, 1666]) rfl (by decide +kernel)
def pm_sh (i : Nat) : Nat × Nat := cond (Nat.ble i 87) (cond (Nat.ble i 43) (cond (Nat.ble i 21) (cond (Nat.ble i 10) (cond (Nat.ble i 4) (cond (Nat.ble i 1) (cond (Nat.ble i 0) (cond (Nat.beq i 0) ((104, 0)) (999, 0)) (cond (Nat.beq i 1) ((105, 16)) (999, 0))) (cond (Nat.ble i 2) (cond (Nat.beq i 2) ((105, 26)) (999, 0)) (cond (Nat.ble i 3) (cond (Nat.beq i 3) ((106, 0)) (999, 0)) (cond (Nat.beq i 4) ((106, 0)) (999, 0))))) (cond (Nat.ble i 7) (cond (Nat.ble i 5) (cond (Nat.beq i 5) ((106, 0)) (999, 0)) (cond (Nat.ble i 6) (cond (Nat.beq i 6) ((106, 0)) (999, 0)) (cond (Nat.beq i 7) ((106, 0)) (999, 0)))) (cond (Nat.ble i 8) (cond (Nat.beq i 8) ((106, 0)) (999, 0)) (cond (Nat.ble i 9) (cond (Nat.beq i 9) ((106, 0)) (999, 0)) (cond (Nat.beq i 10) ((106, 0)) (999, 0)))))) (cond (Nat.ble i 15) (cond (Nat.ble i 12) (cond (Nat.ble i 11) (cond (Nat.beq i 11) ((999, 0)) (999, 0)) (cond (Nat.beq i 12) ((999, 0)) (999, 0))) (cond (Nat.ble i 13) (cond (Nat.beq i 13) ((999, 0)) (999, 0)) (cond (Nat.ble i 14) (cond (Nat.beq i 14) ((999, 0)) (999, 0)) (cond (Nat.beq i 15) ((999, 0)) (999, 0))))) (cond (Nat.ble i 18) (cond (Nat.ble i 16) (cond (Nat.beq i 16) ((11, 11)) (999, 0)) (cond (Nat.ble i 17) (cond (Nat.beq i 17) ((7, 5)) (999, 0)) (cond (Nat.beq i 18) ((100, 1600)) (999, 0)))) (cond (Nat.ble i 19) (cond (Nat.beq i 19) ((6, 13)) (999, 0)) (cond (Nat.ble i 20) (cond (Nat.beq i 20) ((100, 4)) (999, 0)) (cond (Nat.beq i 21) ((100, 4)) (999, 0))))))) (cond (Nat.ble i 32) (cond (Nat.ble i 26) (cond (Nat.ble i 23) (cond (Nat.ble i 22) (cond (Nat.beq i 22) ((100, 4)) (999, 0)) (cond (Nat.beq i 23) ((100, 4)) (999, 0))) (cond (Nat.ble i 24) (cond (Nat.beq i 24) ((100, 4)) (999, 0)) (cond (Nat.ble i 25) (cond (Nat.beq i 25) ((100, 4)) (999, 0)) (cond (Nat.beq i 26) ((100, 4)) (999, 0))))) (cond (Nat.ble i 29) (cond (Nat.ble i 27) (cond (Nat.beq i 27) ((100, 625)) (999, 0)) (cond (Nat.ble i 28) (cond (Nat.beq i 28) ((100, 64)) (999, 0)) (cond (Nat.beq i 29) ((1, 14)) (999, 0)))) (cond (Nat.ble i 30) (cond (Nat.beq i 30) ((100, 6)) (999, 0)) (cond (Nat.ble i 31) (cond (Nat.beq i 31) ((100, 64)) (999, 0)) (cond (Nat.beq i 32) ((100, 64)) (999, 0)))))) (cond (Nat.ble i 37) (cond (Nat.ble i 34) (cond (Nat.ble i 33) (cond (Nat.beq i 33) ((100, 64)) (999, 0)) (cond (Nat.beq i 34) ((100, 64)) (999, 0))) (cond (Nat.ble i 35) (cond (Nat.beq i 35) ((100, 64)) (999, 0)) (cond (Nat.ble i 36) (cond (Nat.beq i 36) ((4, 2)) (999, 0)) (cond (Nat.beq i 37) ((100, 2048)) (999, 0))))) (cond (Nat.ble i 40) (cond (Nat.ble i 38) (cond (Nat.beq i 38) ((100, 64)) (999, 0)) (cond (Nat.ble i 39) (cond (Nat.beq i 39) ((5, 14)) (999, 0)) (cond (Nat.beq i 40) ((100, 9)) (999, 0)))) (cond (Nat.ble i 41) (cond (Nat.beq i 41) ((100, 9)) (999, 0)) (cond (Nat.ble i 42) (cond (Nat.beq i 42) ((100, 9)) (999, 0)) (cond (Nat.beq i 43) ((100, 9)) (999, 0)))))))) (cond (Nat.ble i 65) (cond (Nat.ble i 54) (cond (Nat.ble i 48) (cond (Nat.ble i 45) (cond (Nat.ble i 44) (cond (Nat.beq i 44) ((100, 9)) (999, 0)) (cond (Nat.beq i 45) ((100, 9)) (999, 0))) (cond (Nat.ble i 46) (cond (Nat.beq i 46) ((100, 9)) (999, 0)) (cond (Nat.ble i 47) (cond (Nat.beq i 47) ((100, 126)) (999, 0)) (cond (Nat.beq i 48) ((9, 10)) (999, 0))))) (cond (Nat.ble i 51) (cond (Nat.ble i 49) (cond (Nat.beq i 49) ((100, 26)) (999, 0)) (cond (Nat.ble i 50) (cond (Nat.beq i 50) ((100, 26)) (999, 0)) (cond (Nat.beq i 51) ((100, 26)) (999, 0)))) (cond (Nat.ble i 52) (cond (Nat.beq i 52) ((100, 12)) (999, 0)) (cond (Nat.ble i 53) (cond (Nat.beq i 53) ((100, 12)) (999, 0)) (cond (Nat.beq i 54) ((100, 12)) (999, 0)))))) (cond (Nat.ble i 59) (cond (Nat.ble i 56) (cond (Nat.ble i 55) (cond (Nat.beq i 55) ((100, 13)) (999, 0)) (cond (Nat.beq i 56) ((103, 16)) (999, 0))) (cond (Nat.ble i 57) (cond (Nat.beq i 57) ((8, 7)) (999, 0)) (cond (Nat.ble i 58) (cond (Nat.beq i 58) ((100, 155)) (999, 0)) (cond (Nat.beq i 59) ((8, 7)) (999, 0))))) (cond (Nat.ble i 62) (cond (Nat.ble i 60) (cond (Nat.beq i 60) ((100, 155)) (999, 0)) (cond (Nat.ble i 61) (cond (Nat.beq i 61) ((8, 7)) (999, 0)) (cond (Nat.beq i 62) ((100, 155)) (999, 0)))) (cond (Nat.ble i 63) (cond (Nat.beq i 63) ((8, 7)) (999, 0)) (cond (Nat.ble i 64) (cond (Nat.beq i 64) ((100, 155)) (999, 0)) (cond (Nat.beq i 65) ((8, 7)) (999, 0))))))) (cond (Nat.ble i 76) (cond (Nat.ble i 70) (cond (Nat.ble i 67) (cond (Nat.ble i 66) (cond (Nat.beq i 66) ((100, 155)) (999, 0)) (cond (Nat.beq i 67) ((8, 7)) (999, 0))) (cond (Nat.ble i 68) (cond (Nat.beq i 68) ((100, 155)) (999, 0)) (cond (Nat.ble i 69) (cond (Nat.beq i 69) ((8, 7)) (999, 0)) (cond (Nat.beq i 70) ((100, 155)) (999, 0))))) (cond (Nat.ble i 73) (cond (Nat.ble i 71) (cond (Nat.beq i 71) ((8, 7)) (999, 0)) (cond (Nat.ble i 72) (cond (Nat.beq i 72) ((100, 155)) (999, 0)) (cond (Nat.beq i 73) ((8, 7)) (999, 0)))) (cond (Nat.ble i 74) (cond (Nat.beq i 74) ((100, 155)) (999, 0)) (cond (Nat.ble i 75) (cond (Nat.beq i 75) ((8, 7)) (999, 0)) (cond (Nat.beq i 76) ((100, 155)) (999, 0)))))) (cond (Nat.ble i 81) (cond (Nat.ble i 78) (cond (Nat.ble i 77) (cond (Nat.beq i 77) ((8, 7)) (999, 0)) (cond (Nat.beq i 78) ((100, 155)) (999, 0))) (cond (Nat.ble i 79) (cond (Nat.beq i 79) ((8, 7)) (999, 0)) (cond (Nat.ble i 80) (cond (Nat.beq i 80) ((100, 155)) (999, 0)) (cond (Nat.beq i 81) ((8, 7)) (999, 0))))) (cond (Nat.ble i 84) (cond (Nat.ble i 82) (cond (Nat.beq i 82) ((100, 155)) (999, 0)) (cond (Nat.ble i 83) (cond (Nat.beq i 83) ((8, 7)) (999, 0)) (cond (Nat.beq i 84) ((100, 155)) (999, 0)))) (cond (Nat.ble i 85) (cond (Nat.beq i 85) ((8, 7)) (999, 0)) (cond (Nat.ble i 86) (cond (Nat.beq i 86) ((100, 155)) (999, 0)) (cond (Nat.beq i 87) ((8, 7)) (999, 0))))))))) (cond (Nat.ble i 131) (cond (Nat.ble i 109) (cond (Nat.ble i 98) (cond (Nat.ble i 92) (cond (Nat.ble i 89) (cond (Nat.ble i 88) (cond (Nat.beq i 88) ((100, 155)) (999, 0)) (cond (Nat.beq i 89) ((2, 8)) (999, 0))) (cond (Nat.ble i 90) (cond (Nat.beq i 90) ((100, 120)) (999, 0)) (cond (Nat.ble i 91) (cond (Nat.beq i 91) ((102, 120)) (999, 0)) (cond (Nat.beq i 92) ((100, 120)) (999, 0))))) (cond (Nat.ble i 95) (cond (Nat.ble i 93) (cond (Nat.beq i 93) ((100, 40)) (999, 0)) (cond (Nat.ble i 94) (cond (Nat.beq i 94) ((102, 40)) (999, 0)) (cond (Nat.beq i 95) ((0, 9)) (999, 0)))) (cond (Nat.ble i 96) (cond (Nat.beq i 96) ((100, 120)) (999, 0)) (cond (Nat.ble i 97) (cond (Nat.beq i 97) ((100, 120)) (999, 0)) (cond (Nat.beq i 98) ((100, 120)) (999, 0)))))) (cond (Nat.ble i 103) (cond (Nat.ble i 100) (cond (Nat.ble i 99) (cond (Nat.beq i 99) ((100, 120)) (999, 0)) (cond (Nat.beq i 100) ((100, 120)) (999, 0))) (cond (Nat.ble i 101) (cond (Nat.beq i 101) ((10, 15)) (999, 0)) (cond (Nat.ble i 102) (cond (Nat.beq i 102) ((100, 6)) (999, 0)) (cond (Nat.beq i 103) ((100, 6)) (999, 0))))) (cond (Nat.ble i 106) (cond (Nat.ble i 104) (cond (Nat.beq i 104) ((100, 6)) (999, 0)) (cond (Nat.ble i 105) (cond (Nat.beq i 105) ((100, 6)) (999, 0)) (cond (Nat.beq i 106) ((100, 6)) (999, 0)))) (cond (Nat.ble i 107) (cond (Nat.beq i 107) ((100, 6)) (999, 0)) (cond (Nat.ble i 108) (cond (Nat.beq i 108) ((101, 6)) (999, 0)) (cond (Nat.beq i 109) ((100, 30)) (999, 0))))))) (cond (Nat.ble i 120) (cond (Nat.ble i 114) (cond (Nat.ble i 111) (cond (Nat.ble i 110) (cond (Nat.beq i 110) ((3, 5)) (999, 0)) (cond (Nat.beq i 111) ((100, 31)) (999, 0))) (cond (Nat.ble i 112) (cond (Nat.beq i 112) ((100, 31)) (999, 0)) (cond (Nat.ble i 113) (cond (Nat.beq i 113) ((100, 31)) (999, 0)) (cond (Nat.beq i 114) ((100, 31)) (999, 0))))) (cond (Nat.ble i 117) (cond (Nat.ble i 115) (cond (Nat.beq i 115) ((3, 5)) (999, 0)) (cond (Nat.ble i 116) (cond (Nat.beq i 116) ((100, 31)) (999, 0)) (cond (Nat.beq i 117) ((100, 31)) (999, 0)))) (cond (Nat.ble i 118) (cond (Nat.beq i 118) ((100, 31)) (999, 0)) (cond (Nat.ble i 119) (cond (Nat.beq i 119) ((100, 31)) (999, 0)) (cond (Nat.beq i 120) ((12, 92)) (999, 0)))))) (cond (Nat.ble i 125) (cond (Nat.ble i 122) (cond (Nat.ble i 121) (cond (Nat.beq i 121) ((100, 1600)) (999, 0)) (cond (Nat.beq i 122) ((100, 1600)) (999, 0))) (cond (Nat.ble i 123) (cond (Nat.beq i 123) ((100, 4)) (999, 0)) (cond (Nat.ble i 124) (cond (Nat.beq i 124) ((100, 4)) (999, 0)) (cond (Nat.beq i 125) ((100, 4)) (999, 0))))) (cond (Nat.ble i 128) (cond (Nat.ble i 126) (cond (Nat.beq i 126) ((100, 4)) (999, 0)) (cond (Nat.ble i 127) (cond (Nat.beq i 127) ((100, 64)) (999, 0)) (cond (Nat.beq i 128) ((100, 4)) (999, 0)))) (cond (Nat.ble i 129) (cond (Nat.beq i 129) ((100, 10000)) (999, 0)) (cond (Nat.ble i 130) (cond (Nat.beq i 130) ((100, 10000)) (999, 0)) (cond (Nat.beq i 131) ((100, 6)) (999, 0)))))))) (cond (Nat.ble i 153) (cond (Nat.ble i 142) (cond (Nat.ble i 136) (cond (Nat.ble i 133) (cond (Nat.ble i 132) (cond (Nat.beq i 132) ((100, 64)) (999, 0)) (cond (Nat.beq i 133) ((101, 64)) (999, 0))) (cond (Nat.ble i 134) (cond (Nat.beq i 134) ((101, 64)) (999, 0)) (cond (Nat.ble i 135) (cond (Nat.beq i 135) ((100, 6)) (999, 0)) (cond (Nat.beq i 136) ((100, 2048)) (999, 0))))) (cond (Nat.ble i 139) (cond (Nat.ble i 137) (cond (Nat.beq i 137) ((100, 64)) (999, 0)) (cond (Nat.ble i 138) (cond (Nat.beq i 138) ((100, 16)) (999, 0)) (cond (Nat.beq i 139) ((100, 8)) (999, 0)))) (cond (Nat.ble i 140) (cond (Nat.beq i 140) ((100, 8)) (999, 0)) (cond (Nat.ble i 141) (cond (Nat.beq i 141) ((100, 8)) (999, 0)) (cond (Nat.beq i 142) ((100, 4001)) (999, 0)))))) (cond (Nat.ble i 147) (cond (Nat.ble i 144) (cond (Nat.ble i 143) (cond (Nat.beq i 143) ((102, 8)) (999, 0)) (cond (Nat.beq i 144) ((102, 8)) (999, 0))) (cond (Nat.ble i 145) (cond (Nat.beq i 145) ((102, 8)) (999, 0)) (cond (Nat.ble i 146) (cond (Nat.beq i 146) ((100, 27)) (999, 0)) (cond (Nat.beq i 147) ((100, 27)) (999, 0))))) (cond (Nat.ble i 150) (cond (Nat.ble i 148) (cond (Nat.beq i 148) ((100, 27)) (999, 0)) (cond (Nat.ble i 149) (cond (Nat.beq i 149) ((100, 2624)) (999, 0)) (cond (Nat.beq i 150) ((100, 17)) (999, 0)))) (cond (Nat.ble i 151) (cond (Nat.beq i 151) ((100, 17)) (999, 0)) (cond (Nat.ble i 152) (cond (Nat.beq i 152) ((100, 17)) (999, 0)) (cond (Nat.beq i 153) ((100, 204)) (999, 0))))))) (cond (Nat.ble i 164) (cond (Nat.ble i 158) (cond (Nat.ble i 155) (cond (Nat.ble i 154) (cond (Nat.beq i 154) ((100, 32)) (999, 0)) (cond (Nat.beq i 155) ((100, 32)) (999, 0))) (cond (Nat.ble i 156) (cond (Nat.beq i 156) ((100, 32)) (999, 0)) (cond (Nat.ble i 157) (cond (Nat.beq i 157) ((100, 32)) (999, 0)) (cond (Nat.beq i 158) ((100, 32)) (999, 0))))) (cond (Nat.ble i 161) (cond (Nat.ble i 159) (cond (Nat.beq i 159) ((100, 32)) (999, 0)) (cond (Nat.ble i 160) (cond (Nat.beq i 160) ((100, 32)) (999, 0)) (cond (Nat.beq i 161) ((100, 32)) (999, 0)))) (cond (Nat.ble i 162) (cond (Nat.beq i 162) ((100, 161)) (999, 0)) (cond (Nat.ble i 163) (cond (Nat.beq i 163) ((100, 121)) (999, 0)) (cond (Nat.beq i 164) ((100, 121)) (999, 0)))))) (cond (Nat.ble i 169) (cond (Nat.ble i 166) (cond (Nat.ble i 165) (cond (Nat.beq i 165) ((100, 121)) (999, 0)) (cond (Nat.beq i 166) ((100, 121)) (999, 0))) (cond (Nat.ble i 167) (cond (Nat.beq i 167) ((100, 121)) (999, 0)) (cond (Nat.ble i 168) (cond (Nat.beq i 168) ((102, 161)) (999, 0)) (cond (Nat.beq i 169) ((100, 6)) (999, 0))))) (cond (Nat.ble i 172) (cond (Nat.ble i 170) (cond (Nat.beq i 170) ((100, 6)) (999, 0)) (cond (Nat.ble i 171) (cond (Nat.beq i 171) ((100, 6)) (999, 0)) (cond (Nat.beq i 172) ((100, 6)) (999, 0)))) (cond (Nat.ble i 173) (cond (Nat.beq i 173) ((100, 6)) (999, 0)) (cond (Nat.ble i 174) (cond (Nat.beq i 174) ((100, 6)) (999, 0)) (cond (Nat.beq i 175) ((100, 30)) (999, 0)))))))))
abbrev pm_I : Type := Instr × Nat × Nat × Nat × Nat
/-- name, bytes, locals, answer; class, length, kind (0 virtual, 1 static, 2 constructor), parameters, places of words; code -/
abbrev pm_M : Type := MethodName × ByteArray × Nat × Option FieldType × (Nat × Nat × Nat × Nat × Nat × Nat × Nat × Nat) × (Nat → Option pm_I)
