/-! the classes and their fields (printed with the claim), the calls of the abstract machine -/
def RX0 : String := "NameReaders$Fillings"
def TX0 : u_T := fun k => match k with
  | 0 => ("NameReaders$Fillings", "sets", "[LNameReaders$Spots;", true)
  | 1 => ("NameReaders$Fillings", "walks", "LNameReaders$Walks;", true)
  | 2 => ("NameReaders$Fillings", "good", "LNameReaders$Spots;", true)
  | 3 => ("NameReaders$Fillings", "order", "[I", true)
  | 4 => ("NameReaders$Fillings", "numbers", "[I", true)
  | 5 => ("NameReaders$Fillings", "letters", "[I", true)
  | 6 => ("NameReaders$Fillings", "names", "[I", true)
  | 7 => ("NameReaders$Fillings", "row", "LNameReaders$Row;", true)
  | 8 => ("NameReaders$Fillings", "reader", "LNameReaders$Reader;", false)
  | 9 => ("NameReaders$Fillings", "candidates", "I", false)
  | 10 => ("NameReaders$Fillings", "last", "I", false)
  | 11 => ("NameReaders$Fillings", "found", "I", false)
  | _ => ("NameReaders$Fillings", "firstAlone", "Z", false)
def tyX0 : Nat → FieldType := fun k => match k with
  | 0 => .array (.object "NameReaders$Spots")
  | 1 => .object "NameReaders$Walks"
  | 2 => .object "NameReaders$Spots"
  | 3 => .array .int
  | 4 => .array .int
  | 5 => .array .int
  | 6 => .array .int
  | 7 => .object "NameReaders$Row"
  | 8 => .object "NameReaders$Reader"
  | 9 => .int
  | 10 => .int
  | 11 => .int
  | _ => .boolean
abbrev wsX00 : List Cond := u_ws RX0 TX0 13
theorem nmX0 : ∀ a, a < 13 → ∀ b, b < 13 → a ≠ b → (TX0 a).2.1 ≠ (TX0 b).2.1 := by decide +kernel
theorem tyX0_ok : ∀ k, k < 13 → parseFieldDescriptor (TX0 k).2.2.1 = some (tyX0 k) := by decide +kernel
def RX1 : String := "NameReaders$Meeting"
def TX1 : u_T := fun k => match k with
  | 0 => ("NameReaders$Meeting", "met", "LNameReaders$Spots;", true)
  | 1 => ("NameReaders$Meeting", "now", "LNameReaders$Spots;", false)
  | 2 => ("NameReaders$Meeting", "next", "LNameReaders$Spots;", false)
  | 3 => ("NameReaders$Meeting", "rows", "[I", true)
  | 4 => ("NameReaders$Meeting", "reader", "LNameReaders$Reader;", true)
  | 5 => ("NameReaders$Meeting", "other", "LNameReaders$Reader;", true)
  | 6 => ("NameReaders$Meeting", "spot", "I", false)
  | 7 => ("NameReaders$Meeting", "otherSpot", "I", false)
  | _ => ("NameReaders$Meeting", "newName", "I", false)
def tyX1 : Nat → FieldType := fun k => match k with
  | 0 => .object "NameReaders$Spots"
  | 1 => .object "NameReaders$Spots"
  | 2 => .object "NameReaders$Spots"
  | 3 => .array .int
  | 4 => .object "NameReaders$Reader"
  | 5 => .object "NameReaders$Reader"
  | 6 => .int
  | 7 => .int
  | _ => .int
abbrev wsX10 : List Cond := u_ws RX1 TX1 9
theorem nmX1 : ∀ a, a < 9 → ∀ b, b < 9 → a ≠ b → (TX1 a).2.1 ≠ (TX1 b).2.1 := by decide +kernel
theorem tyX1_ok : ∀ k, k < 9 → parseFieldDescriptor (TX1 k).2.2.1 = some (tyX1 k) := by decide +kernel
def RX2 : String := "NameReaders$Mender"
def TX2 : u_T := fun k => match k with
  | 0 => ("NameReaders$Mender", "alive", "[I", true)
  | 1 => ("NameReaders$Mender", "wanted", "[I", true)
  | 2 => ("NameReaders$Mender", "now", "LNameReaders$Spots;", false)
  | 3 => ("NameReaders$Mender", "next", "LNameReaders$Spots;", false)
  | 4 => ("NameReaders$Mender", "costs", "[J", false)
  | _ => ("NameReaders$Mender", "costsNext", "[J", false)
def tyX2 : Nat → FieldType := fun k => match k with
  | 0 => .array .int
  | 1 => .array .int
  | 2 => .object "NameReaders$Spots"
  | 3 => .object "NameReaders$Spots"
  | 4 => .array .long
  | _ => .array .long
abbrev wsX20 : List Cond := u_ws RX2 TX2 6
theorem nmX2 : ∀ a, a < 6 → ∀ b, b < 6 → a ≠ b → (TX2 a).2.1 ≠ (TX2 b).2.1 := by decide +kernel
theorem tyX2_ok : ∀ k, k < 6 → parseFieldDescriptor (TX2 k).2.2.1 = some (tyX2 k) := by decide +kernel
def RX3 : String := "NameReaders$Outlook"
def TX3 : u_T := fun k => match k with
  | 0 => ("NameReaders$Outlook", "away", "[I", true)
  | 1 => ("NameReaders$Outlook", "seen", "[I", true)
  | 2 => ("NameReaders$Outlook", "pairs", "[I", true)
  | 3 => ("NameReaders$Outlook", "howManySeen", "I", false)
  | 4 => ("NameReaders$Outlook", "now", "LNameReaders$Spots;", false)
  | _ => ("NameReaders$Outlook", "next", "LNameReaders$Spots;", false)
def tyX3 : Nat → FieldType := fun k => match k with
  | 0 => .array .int
  | 1 => .array .int
  | 2 => .array .int
  | 3 => .int
  | 4 => .object "NameReaders$Spots"
  | _ => .object "NameReaders$Spots"
abbrev wsX30 : List Cond := u_ws RX3 TX3 6
theorem nmX3 : ∀ a, a < 6 → ∀ b, b < 6 → a ≠ b → (TX3 a).2.1 ≠ (TX3 b).2.1 := by decide +kernel
theorem tyX3_ok : ∀ k, k < 6 → parseFieldDescriptor (TX3 k).2.2.1 = some (tyX3 k) := by decide +kernel
def RX4 : String := "NameReaders$Reader"
def TX4 : u_T := fun k => match k with
  | 0 => ("NameReaders$Reader", "parts", "[I", true)
  | 1 => ("NameReaders$Reader", "order", "[I", true)
  | 2 => ("NameReaders$Reader", "begins", "[I", true)
  | 3 => ("NameReaders$Reader", "states", "I", false)
  | 4 => ("NameReaders$Reader", "registers", "I", false)
  | 5 => ("NameReaders$Reader", "takes", "I", false)
  | _ => ("NameReaders$Reader", "size", "I", false)
def tyX4 : Nat → FieldType := fun k => match k with
  | 0 => .array .int
  | 1 => .array .int
  | 2 => .array .int
  | 3 => .int
  | 4 => .int
  | 5 => .int
  | _ => .int
abbrev wsX40 : List Cond := u_ws RX4 TX4 7
theorem nmX4 : ∀ a, a < 7 → ∀ b, b < 7 → a ≠ b → (TX4 a).2.1 ≠ (TX4 b).2.1 := by decide +kernel
theorem tyX4_ok : ∀ k, k < 7 → parseFieldDescriptor (TX4 k).2.2.1 = some (tyX4 k) := by decide +kernel
def RX5 : String := "NameReaders$Row"
def TX5 : u_T := fun k => match k with
  | 0 => ("NameReaders$Row", "letters", "[I", true)
  | 1 => ("NameReaders$Row", "names", "[I", true)
  | 2 => ("NameReaders$Row", "ids", "[I", true)
  | 3 => ("NameReaders$Row", "alive", "[I", true)
  | 4 => ("NameReaders$Row", "size", "I", false)
  | 5 => ("NameReaders$Row", "told", "I", false)
  | 6 => ("NameReaders$Row", "gaps", "I", false)
  | _ => ("NameReaders$Row", "gapPairs", "I", false)
def tyX5 : Nat → FieldType := fun k => match k with
  | 0 => .array .int
  | 1 => .array .int
  | 2 => .array .int
  | 3 => .array .int
  | 4 => .int
  | 5 => .int
  | 6 => .int
  | _ => .int
abbrev wsX50 : List Cond := u_ws RX5 TX5 8
theorem nmX5 : ∀ a, a < 8 → ∀ b, b < 8 → a ≠ b → (TX5 a).2.1 ≠ (TX5 b).2.1 := by decide +kernel
theorem tyX5_ok : ∀ k, k < 8 → parseFieldDescriptor (TX5 k).2.2.1 = some (tyX5 k) := by decide +kernel
def RX6 : String := "NameReaders$ShapeSearch"
def TX6 : u_T := fun k => match k with
  | 0 => ("NameReaders$ShapeSearch", "sets", "[LNameReaders$Spots;", true)
  | 1 => ("NameReaders$ShapeSearch", "pairs", "[I", true)
  | 2 => ("NameReaders$ShapeSearch", "reader", "LNameReaders$Reader;", false)
  | 3 => ("NameReaders$ShapeSearch", "other", "LNameReaders$Reader;", false)
  | 4 => ("NameReaders$ShapeSearch", "length", "I", false)
  | 5 => ("NameReaders$ShapeSearch", "letters", "I", false)
  | 6 => ("NameReaders$ShapeSearch", "goal", "I", false)
  | _ => ("NameReaders$ShapeSearch", "seen", "I", false)
def tyX6 : Nat → FieldType := fun k => match k with
  | 0 => .array (.object "NameReaders$Spots")
  | 1 => .array .int
  | 2 => .object "NameReaders$Reader"
  | 3 => .object "NameReaders$Reader"
  | 4 => .int
  | 5 => .int
  | 6 => .int
  | _ => .int
abbrev wsX60 : List Cond := u_ws RX6 TX6 8
theorem nmX6 : ∀ a, a < 8 → ∀ b, b < 8 → a ≠ b → (TX6 a).2.1 ≠ (TX6 b).2.1 := by decide +kernel
theorem tyX6_ok : ∀ k, k < 8 → parseFieldDescriptor (TX6 k).2.2.1 = some (tyX6 k) := by decide +kernel
def RX7 : String := "NameReaders$Spots"
def TX7 : u_T := fun k => match k with
  | 0 => ("NameReaders$Spots", "limit", "I", true)
  | 1 => ("NameReaders$Spots", "words", "[J", true)
  | 2 => ("NameReaders$Spots", "groups", "[J", true)
  | _ => ("NameReaders$Spots", "size", "I", false)
def tyX7 : Nat → FieldType := fun k => match k with
  | 0 => .int
  | 1 => .array .long
  | 2 => .array .long
  | _ => .int
abbrev wsX70 : List Cond := u_ws RX7 TX7 4
theorem nmX7 : ∀ a, a < 4 → ∀ b, b < 4 → a ≠ b → (TX7 a).2.1 ≠ (TX7 b).2.1 := by decide +kernel
theorem tyX7_ok : ∀ k, k < 4 → parseFieldDescriptor (TX7 k).2.2.1 = some (tyX7 k) := by decide +kernel
def RX8 : String := "NameReaders$Text"
def TX8 : u_T := fun k => match k with
  | 0 => ("NameReaders$Text", "bytes", "[I", true)
  | 1 => ("NameReaders$Text", "told", "[I", true)
  | 2 => ("NameReaders$Text", "size", "I", false)
  | 3 => ("NameReaders$Text", "found", "I", false)
  | 4 => ("NameReaders$Text", "start", "I", false)
  | _ => ("NameReaders$Text", "end", "I", false)
def tyX8 : Nat → FieldType := fun k => match k with
  | 0 => .array .int
  | 1 => .array .int
  | 2 => .int
  | 3 => .int
  | 4 => .int
  | _ => .int
abbrev wsX80 : List Cond := u_ws RX8 TX8 6
theorem nmX8 : ∀ a, a < 6 → ∀ b, b < 6 → a ≠ b → (TX8 a).2.1 ≠ (TX8 b).2.1 := by decide +kernel
theorem tyX8_ok : ∀ k, k < 6 → parseFieldDescriptor (TX8 k).2.2.1 = some (tyX8 k) := by decide +kernel
def RX9 : String := "NameReaders$Walks"
def TX9 : u_T := fun k => match k with
  | 0 => ("NameReaders$Walks", "sets", "[LNameReaders$Spots;", true)
  | 1 => ("NameReaders$Walks", "path", "[I", true)
  | 2 => ("NameReaders$Walks", "slots", "[I", true)
  | 3 => ("NameReaders$Walks", "ways", "[J", false)
  | _ => ("NameReaders$Walks", "waysNext", "[J", false)
def tyX9 : Nat → FieldType := fun k => match k with
  | 0 => .array (.object "NameReaders$Spots")
  | 1 => .array .int
  | 2 => .array .int
  | 3 => .array .long
  | _ => .array .long
abbrev wsX90 : List Cond := u_ws RX9 TX9 5
theorem nmX9 : ∀ a, a < 5 → ∀ b, b < 5 → a ≠ b → (TX9 a).2.1 ≠ (TX9 b).2.1 := by decide +kernel
theorem tyX9_ok : ∀ k, k < 5 → parseFieldDescriptor (TX9 k).2.2.1 = some (tyX9 k) := by decide +kernel
def RX10 : String := "NameReaders"
def TX10 : u_T := fun k => match k with
  | 0 => ("NameReaders", "zero", "LNameReaders$Reader;", true)
  | 1 => ("NameReaders", "one", "LNameReaders$Reader;", true)
  | 2 => ("NameReaders", "blank", "LNameReaders$Reader;", true)
  | 3 => ("NameReaders", "text", "LNameReaders$Text;", true)
  | 4 => ("NameReaders", "row", "LNameReaders$Row;", true)
  | 5 => ("NameReaders", "walks", "LNameReaders$Walks;", true)
  | 6 => ("NameReaders", "gaps", "LNameReaders$Fillings;", true)
  | 7 => ("NameReaders", "mender", "LNameReaders$Mender;", true)
  | 8 => ("NameReaders", "search", "LNameReaders$ShapeSearch;", true)
  | 9 => ("NameReaders", "outlook", "LNameReaders$Outlook;", true)
  | _ => ("NameReaders", "meeting", "LNameReaders$Meeting;", true)
def tyX10 : Nat → FieldType := fun k => match k with
  | 0 => .object "NameReaders$Reader"
  | 1 => .object "NameReaders$Reader"
  | 2 => .object "NameReaders$Reader"
  | 3 => .object "NameReaders$Text"
  | 4 => .object "NameReaders$Row"
  | 5 => .object "NameReaders$Walks"
  | 6 => .object "NameReaders$Fillings"
  | 7 => .object "NameReaders$Mender"
  | 8 => .object "NameReaders$ShapeSearch"
  | 9 => .object "NameReaders$Outlook"
  | _ => .object "NameReaders$Meeting"
abbrev wsX100 : List Cond := u_ws RX10 TX10 11
theorem nmX10 : ∀ a, a < 11 → ∀ b, b < 11 → a ≠ b → (TX10 a).2.1 ≠ (TX10 b).2.1 := by decide +kernel
theorem tyX10_ok : ∀ k, k < 11 → parseFieldDescriptor (TX10 k).2.2.1 = some (tyX10 k) := by decide +kernel
def RX11 : String := "NameReadersModel"
def TX11 : u_T := fun k => match k with
  | 0 => ("NameReadersModel", "states", "[I", true)
  | 1 => ("NameReadersModel", "registers", "[I", true)
  | 2 => ("NameReadersModel", "takes", "[I", true)
  | 3 => ("NameReadersModel", "moveMany", "[I", true)
  | 4 => ("NameReadersModel", "mFrom", "[I", true)
  | 5 => ("NameReadersModel", "mLetter", "[I", true)
  | 6 => ("NameReadersModel", "mTest", "[I", true)
  | 7 => ("NameReadersModel", "mKeep", "[I", true)
  | 8 => ("NameReadersModel", "mTo", "[I", true)
  | 9 => ("NameReadersModel", "readMany", "I", false)
  | 10 => ("NameReadersModel", "rFrom", "[I", true)
  | 11 => ("NameReadersModel", "rLetter", "[I", true)
  | 12 => ("NameReadersModel", "rTest", "[I", true)
  | 13 => ("NameReadersModel", "rKeep", "[I", true)
  | 14 => ("NameReadersModel", "rTo", "[I", true)
  | 15 => ("NameReadersModel", "text", "[I", true)
  | 16 => ("NameReadersModel", "length", "I", false)
  | 17 => ("NameReadersModel", "letters", "[I", true)
  | 18 => ("NameReadersModel", "names", "[I", true)
  | 19 => ("NameReadersModel", "pairs", "I", false)
  | 20 => ("NameReadersModel", "at", "I", false)
  | 21 => ("NameReadersModel", "place", "I", false)
  | 22 => ("NameReadersModel", "end", "I", false)
  | 23 => ("NameReadersModel", "told", "[I", true)
  | 24 => ("NameReadersModel", "toldMany", "I", false)
  | 25 => ("NameReadersModel", "ids", "[I", true)
  | 26 => ("NameReadersModel", "lists", "[I", true)
  | 27 => ("NameReadersModel", "listMany", "[I", true)
  | 28 => ("NameReadersModel", "seen", "[I", true)
  | 29 => ("NameReadersModel", "mark", "I", false)
  | 30 => ("NameReadersModel", "ways", "[J", true)
  | 31 => ("NameReadersModel", "waysThen", "[J", true)
  | 32 => ("NameReadersModel", "good", "[Z", true)
  | 33 => ("NameReadersModel", "sLetter", "[I", true)
  | 34 => ("NameReadersModel", "sName", "[I", true)
  | 35 => ("NameReadersModel", "sNames", "[I", true)
  | 36 => ("NameReadersModel", "far", "[I", true)
  | 37 => ("NameReadersModel", "come", "[Z", true)
  | 38 => ("NameReadersModel", "now", "[I", true)
  | 39 => ("NameReadersModel", "then", "[I", true)
  | 40 => ("NameReadersModel", "nowMany", "I", false)
  | 41 => ("NameReadersModel", "thenMany", "I", false)
  | 42 => ("NameReadersModel", "slots", "[I", true)
  | 43 => ("NameReadersModel", "queue", "[I", true)
  | 44 => ("NameReadersModel", "queueFar", "[I", true)
  | 45 => ("NameReadersModel", "queued", "I", false)
  | 46 => ("NameReadersModel", "held", "[I", true)
  | 47 => ("NameReadersModel", "heldThen", "[I", true)
  | 48 => ("NameReadersModel", "others", "[I", true)
  | 49 => ("NameReadersModel", "otherMany", "[I", true)
  | 50 => ("NameReadersModel", "gLetter", "[I", true)
  | 51 => ("NameReadersModel", "gName", "[I", true)
  | 52 => ("NameReadersModel", "gOthers", "[I", true)
  | 53 => ("NameReadersModel", "free", "[I", true)
  | 54 => ("NameReadersModel", "cost", "[I", true)
  | _ => ("NameReadersModel", "costThen", "[I", true)
def tyX11 : Nat → FieldType := fun k => match k with
  | 0 => .array .int
  | 1 => .array .int
  | 2 => .array .int
  | 3 => .array .int
  | 4 => .array .int
  | 5 => .array .int
  | 6 => .array .int
  | 7 => .array .int
  | 8 => .array .int
  | 9 => .int
  | 10 => .array .int
  | 11 => .array .int
  | 12 => .array .int
  | 13 => .array .int
  | 14 => .array .int
  | 15 => .array .int
  | 16 => .int
  | 17 => .array .int
  | 18 => .array .int
  | 19 => .int
  | 20 => .int
  | 21 => .int
  | 22 => .int
  | 23 => .array .int
  | 24 => .int
  | 25 => .array .int
  | 26 => .array .int
  | 27 => .array .int
  | 28 => .array .int
  | 29 => .int
  | 30 => .array .long
  | 31 => .array .long
  | 32 => .array .boolean
  | 33 => .array .int
  | 34 => .array .int
  | 35 => .array .int
  | 36 => .array .int
  | 37 => .array .boolean
  | 38 => .array .int
  | 39 => .array .int
  | 40 => .int
  | 41 => .int
  | 42 => .array .int
  | 43 => .array .int
  | 44 => .array .int
  | 45 => .int
  | 46 => .array .int
  | 47 => .array .int
  | 48 => .array .int
  | 49 => .array .int
  | 50 => .array .int
  | 51 => .array .int
  | 52 => .array .int
  | 53 => .array .int
  | 54 => .array .int
  | _ => .array .int
abbrev wsX110 : List Cond := u_ws RX11 TX11 56
theorem nmX11 : ∀ a, a < 56 → ∀ b, b < 56 → a ≠ b → (TX11 a).2.1 ≠ (TX11 b).2.1 := by decide +kernel
theorem tyX11_ok : ∀ k, k < 56 → parseFieldDescriptor (TX11 k).2.2.1 = some (tyX11 k) := by decide +kernel
abbrev cls : List vw_C := [(RX0, TX0, 13), (RX1, TX1, 9), (RX2, TX2, 6), (RX3, TX3, 6), (RX4, TX4, 7), (RX5, TX5, 8), (RX6, TX6, 8), (RX7, TX7, 4), (RX8, TX8, 6), (RX9, TX9, 5), (RX10, TX10, 11), (RX11, TX11, 56)]
def fkk : FieldType → Nat
  | .int => 0
  | .long => 1
  | .boolean => 3
  | .object _ => 2
  | .array _ => 2
  | _ => 9
def tyF (ci : Nat) : Nat → FieldType := match ci with
  | 0 => tyX0
  | 1 => tyX1
  | 2 => tyX2
  | 3 => tyX3
  | 4 => tyX4
  | 5 => tyX5
  | 6 => tyX6
  | 7 => tyX7
  | 8 => tyX8
  | 9 => tyX9
  | 10 => tyX10
  | _ => tyX11
def KT : List KE := [K_J_bitI, K_J_bitI, K_J_len, K_J_chr, K_J_bitI, K_J_bitI, K_J_bitI, K_J_bitL, K_Fl_init, K_Fl_pairAt, K_Fl_search, K_Fl_tellNames, K_Fl_fillFrom, K_Fl_mayHave, K_Fl_fillOne, K_Fl_restIsTaken, K_Mt_init, K_Mt_shortest, K_Mt_spread, K_Mt_spreadOther, K_Mt_placeOf, K_Mt_comeTo, K_Mt_rowsBehind, K_Mn_init, K_Mn_fewest, K_Mn_survey, K_Mn_turn, K_Mn_spread, K_Mn_spreadChanged, K_Mn_come, K_Mn_costOf, K_Mn_setCost, K_Ol_init, K_Ol_shortest, K_Ol_firstPair, K_Ol_choosePair, K_Ol_followTo, K_Ol_neverMade, K_Ol_twoAtOnce, K_Ol_firstTwo, K_Ol_study, K_Ol_see, K_Ol_seeBehind, K_Ol_tellAhead, K_Ol_leadsTo, K_Ol_newName, K_Ol_placeOf, K_Ol_spotOf, K_Rd_init, K_Rd_states, K_Rd_registers, K_Rd_size, K_Rd_become, K_Rd_appendAll, K_Rd_remove, K_Rd_sort, K_Rd_part, K_Rd_begin, K_Rd_end, K_Rd_moveAt, K_Rd_hasTest, K_Rd_takesSome, K_Rd_takesAt, K_Rd_takesBehind, K_Rd_after, K_Rd_heldIn, K_Rd_settle, K_Rw_init, K_Rw_size, K_Rw_told, K_Rw_gaps, K_Rw_gapPairs, K_Rw_letter, K_Rw_name, K_Rw_id, K_Rw_aliveBehind, K_Rw_hasGap, K_Rw_append, K_Rw_put, K_Rw_wipe, K_Rw_idOf, K_Rw_survey, K_Rw_idAt, K_Ss_init, K_Ss_passed, K_Ss_find, K_Ss_pairAt, K_Ss_setOf, K_Ss_otherSetOf, K_Ss_goOn, K_Ss_end, K_Ss_endings, K_Ss_namesFor, K_Ss_bitOf, K_Sp_init, K_Sp_size, K_Sp_has, K_Sp_add, K_Sp_clear, K_Sp_startAt, K_Sp_next, K_Sp_follow, K_Sp_statesByBits, K_Sp_lowest, K_Tx_init, K_Tx_size, K_Tx_found, K_Tx_told, K_Tx_put, K_Tx_wipe, K_Tx_parse, K_Tx_parseMove, K_Tx_number, K_Tx_letter, K_Tx_test, K_Tx_advance, K_Tx_isWord, K_Tx_kindOf, K_Wk_init, K_Wk_statesBehind, K_Wk_findRun, K_Wk_moveOfRun, K_Wk_forget, K_Wk_isTakenFrom, K_Wk_runFrom, K_Wk_runsThatTake, K_Wk_spread, K_Wk_placeOf, K_Wk_giveSlots, K_X_init, K_X_reader, K_X_write, K_X_erase, K_X_fault, K_X_moves, K_X_move, K_X_drop, K_X_pair, K_X_change, K_X_hush, K_X_taken, K_X_may, K_X_runs, K_X_run, K_X_shapes, K_X_shape, K_X_least, K_X_first, K_X_useless, K_X_twofold, K_X_both, K_X_parted, K_X_fillings, K_X_filled, K_X_mend, K_X_count, K_X_readerOf, K_X_within, K_X_isPair, K_M_init, K_M_in, K_M_isReader, K_M_reader, K_M_write, K_M_erase, K_M_sort, K_M_token, K_M_isWord, K_M_skips, K_M_figure, K_M_readsMove, K_M_fault, K_M_moves, K_M_isMove, K_M_move, K_M_drop, K_M_isPair, K_M_pair, K_M_change, K_M_hush, K_M_isGap, K_M_gapPairs, K_M_idOf, K_M_layNames, K_M_heldIn, K_M_can, K_M_behind, K_M_isTaken, K_M_goOn, K_M_beginList, K_M_takesList, K_M_goAll, K_M_taken, K_M_may, K_M_runs, K_M_layGood, K_M_run, K_M_nextPair, K_M_beginPair, K_M_goShapes, K_M_shapes, K_M_shape, K_M_kindIn, K_M_kindOf, K_M_canBy, K_M_kindBehind, K_M_isNameOf, K_M_nameAt, K_M_layKinds, K_M_least, K_M_wideIn, K_M_goWide, K_M_addWide, K_M_first, K_M_useless, K_M_twofold, K_M_power, K_M_together, K_M_meet, K_M_canHere, K_M_both, K_M_goBoth, K_M_goOther, K_M_takesOther, K_M_parts, K_M_parted, K_M_freeBehind, K_M_idOfAny, K_M_nextName, K_M_nextFill, K_M_goFill, K_M_fillings, K_M_filled, K_M_unused, K_M_mend, K_M_mendFrom, K_M_count]
def spr : List AV → List AV
  | [] => []
  | .inr (.inl x) :: as => aL x :: aU :: spr as
  | v :: as => v :: spr as
def ent (n : Nat) (as : List AV) : List AV := spr as ++ List.replicate (n - (spr as).length) aU
/-- System.arraycopy of ints, String.length and charAt of a text constant -/
def prm (c : Nat) (as : List AV) (h : AH) : Option AR := match c, as with
  | 1, [.inr (.inr (.inl (some a))), .inl sp, .inr (.inr (.inl (some b))), .inl dp, .inl n] => match h.1[a]?, h.1[b]? with
    | some (0, n0), some (0, n1) => if ¬ sp < 0 ∧ ¬ dp < 0 ∧ ¬ n < 0 ∧ sp.toNatClampNeg + n.toNatClampNeg ≤ n0 ∧ dp.toNatClampNeg + n.toNatClampNeg ≤ n1 then some (none, cpI h a b sp.toNatClampNeg dp.toNatClampNeg n.toNatClampNeg) else none
    | _, _ => none
  | 2, [.inr (.inr (.inr (q + 1)))] => match TX[q]? with
    | some t => some (some (aI (nI t.length)), h)
    | none => none
  | 3, [.inr (.inr (.inr (q + 1))), .inl i] => match TX[q]? with
    | some t => if ¬ (i < 0 ∨ t.length ≤ i.toNatClampNeg) then some (some (aI (nI (t.getD i.toNatClampNeg 0))), h) else none
    | none => none
  | 4, [.inl x, .inl y] => some (some (aI (if x < y then y else x)), h)
  | 5, [.inr (.inl x), .inr (.inl y)] => some (some (aL (if y < x then y else x)), h)
  | 0, [.inl x, .inl y] => some (some (aI (if y < x then y else x)), h)
  | _, _ => none
noncomputable def Cc : Nat → AC
  | 0 => fun _ _ _ => none
  | d + 1 => fun c as h => if c < 6 then (if (c = 2 ∨ c = 3) ∧ d < 4 then none else prm c as h) else match KT[c]? with
    | some K => match Nat.ble (spr as).length K.2.2.1 with
      | true => Rk K.2.2.2.2.1 K.2.2.2.2.2.1 (Cc d) 0 (ent K.2.2.1 as) [] h
      | false => none
    | none => none
theorem C_J_bitI (d : Nat) (x0 : Int32) (h : AH) : Cc (d + 1) k_J_bitI [aI x0] h = Rk B_J_bitI L_J_bitI (Cc d) 0 [aI x0] [] h := rfl
theorem C_J_bitL (d : Nat) (x0 : Int64) (h : AH) : Cc (d + 1) k_J_bitL [aL x0] h = Rk B_J_bitL L_J_bitL (Cc d) 0 [aL x0, aU] [] h := rfl
theorem C_Fl_init (d : Nat) (x0 : Option Nat) (x1 : Option Nat) (x2 : Option Nat) (x3 : Option Nat) (x4 : Option Nat) (h : AH) : Cc (d + 1) k_Fl_init [aR x0, aR x1, aR x2, aR x3, aR x4] h = Rk B_Fl_init L_Fl_init (Cc d) 0 [aR x0, aR x1, aR x2, aR x3, aR x4] [] h := rfl
theorem C_Fl_pairAt (d : Nat) (x0 : Option Nat) (x1 : Int32) (h : AH) : Cc (d + 1) k_Fl_pairAt [aR x0, aI x1] h = Rk B_Fl_pairAt L_Fl_pairAt (Cc d) 0 [aR x0, aI x1] [] h := rfl
theorem C_Fl_search (d : Nat) (x0 : Option Nat) (x1 : Option Nat) (x2 : Int32) (h : AH) : Cc (d + 1) k_Fl_search [aR x0, aR x1, aI x2] h = Rk B_Fl_search L_Fl_search (Cc d) 0 [aR x0, aR x1, aI x2, aU] [] h := rfl
theorem C_Fl_tellNames (d : Nat) (x0 : Option Nat) (h : AH) : Cc (d + 1) k_Fl_tellNames [aR x0] h = Rk B_Fl_tellNames L_Fl_tellNames (Cc d) 0 [aR x0, aU, aU, aU, aU] [] h := rfl
theorem C_Fl_fillFrom (d : Nat) (x0 : Option Nat) (x1 : Int32) (x2 : Int32) (h : AH) : Cc (d + 1) k_Fl_fillFrom [aR x0, aI x1, aI x2] h = Rk B_Fl_fillFrom L_Fl_fillFrom (Cc d) 0 [aR x0, aI x1, aI x2, aU, aU, aU, aU] [] h := rfl
theorem C_Fl_mayHave (d : Nat) (x0 : Option Nat) (x1 : Int32) (x2 : Int32) (x3 : Int32) (h : AH) : Cc (d + 1) k_Fl_mayHave [aR x0, aI x1, aI x2, aI x3] h = Rk B_Fl_mayHave L_Fl_mayHave (Cc d) 0 [aR x0, aI x1, aI x2, aI x3] [] h := rfl
theorem C_Fl_fillOne (d : Nat) (x0 : Option Nat) (x1 : Int32) (x2 : Int32) (x3 : Int32) (h : AH) : Cc (d + 1) k_Fl_fillOne [aR x0, aI x1, aI x2, aI x3] h = Rk B_Fl_fillOne L_Fl_fillOne (Cc d) 0 [aR x0, aI x1, aI x2, aI x3] [] h := rfl
theorem C_Fl_restIsTaken (d : Nat) (x0 : Option Nat) (x1 : Int32) (h : AH) : Cc (d + 1) k_Fl_restIsTaken [aR x0, aI x1] h = Rk B_Fl_restIsTaken L_Fl_restIsTaken (Cc d) 0 [aR x0, aI x1, aU, aU, aU, aU, aU, aU] [] h := rfl
theorem C_Mt_init (d : Nat) (x0 : Option Nat) (x1 : Option Nat) (x2 : Option Nat) (h : AH) : Cc (d + 1) k_Mt_init [aR x0, aR x1, aR x2] h = Rk B_Mt_init L_Mt_init (Cc d) 0 [aR x0, aR x1, aR x2, aU, aU, aU] [] h := rfl
theorem C_Mt_shortest (d : Nat) (x0 : Option Nat) (h : AH) : Cc (d + 1) k_Mt_shortest [aR x0] h = Rk B_Mt_shortest L_Mt_shortest (Cc d) 0 [aR x0, aU, aU, aU] [] h := rfl
theorem C_Mt_spread (d : Nat) (x0 : Option Nat) (h : AH) : Cc (d + 1) k_Mt_spread [aR x0] h = Rk B_Mt_spread L_Mt_spread (Cc d) 0 [aR x0, aU, aU, aU, aU, aU] [] h := rfl
theorem C_Mt_spreadOther (d : Nat) (x0 : Option Nat) (x1 : Int32) (x2 : Int32) (x3 : Int32) (h : AH) : Cc (d + 1) k_Mt_spreadOther [aR x0, aI x1, aI x2, aI x3] h = Rk B_Mt_spreadOther L_Mt_spreadOther (Cc d) 0 [aR x0, aI x1, aI x2, aI x3, aU, aU, aU, aU] [] h := rfl
theorem C_Mt_placeOf (d : Nat) (x0 : Option Nat) (x1 : Int32) (x2 : Int32) (h : AH) : Cc (d + 1) k_Mt_placeOf [aR x0, aI x1, aI x2] h = Rk B_Mt_placeOf L_Mt_placeOf (Cc d) 0 [aR x0, aI x1, aI x2, aU, aU, aU, aU, aU, aU, aU] [] h := rfl
theorem C_Mt_comeTo (d : Nat) (x0 : Option Nat) (x1 : Int32) (h : AH) : Cc (d + 1) k_Mt_comeTo [aR x0, aI x1] h = Rk B_Mt_comeTo L_Mt_comeTo (Cc d) 0 [aR x0, aI x1, aU, aU, aU, aU, aU, aU] [] h := rfl
theorem C_Mt_rowsBehind (d : Nat) (x0 : Option Nat) (x1 : Int32) (x2 : Int32) (h : AH) : Cc (d + 1) k_Mt_rowsBehind [aR x0, aI x1, aI x2] h = Rk B_Mt_rowsBehind L_Mt_rowsBehind (Cc d) 0 [aR x0, aI x1, aI x2] [] h := rfl
theorem C_Mn_init (d : Nat) (x0 : Option Nat) (x1 : Option Nat) (x2 : Option Nat) (x3 : Option Nat) (x4 : Option Nat) (h : AH) : Cc (d + 1) k_Mn_init [aR x0, aR x1, aR x2, aR x3, aR x4] h = Rk B_Mn_init L_Mn_init (Cc d) 0 [aR x0, aR x1, aR x2, aR x3, aR x4] [] h := rfl
theorem C_Mn_fewest (d : Nat) (x0 : Option Nat) (x1 : Option Nat) (x2 : Option Nat) (h : AH) : Cc (d + 1) k_Mn_fewest [aR x0, aR x1, aR x2] h = Rk B_Mn_fewest L_Mn_fewest (Cc d) 0 [aR x0, aR x1, aR x2, aU, aU, aU, aU] [] h := rfl
theorem C_Mn_survey (d : Nat) (x0 : Option Nat) (x1 : Option Nat) (x2 : Option Nat) (h : AH) : Cc (d + 1) k_Mn_survey [aR x0, aR x1, aR x2] h = Rk B_Mn_survey L_Mn_survey (Cc d) 0 [aR x0, aR x1, aR x2, aU, aU, aU] [] h := rfl
theorem C_Mn_turn (d : Nat) (x0 : Option Nat) (h : AH) : Cc (d + 1) k_Mn_turn [aR x0] h = Rk B_Mn_turn L_Mn_turn (Cc d) 0 [aR x0, aU, aU] [] h := rfl
theorem C_Mn_spread (d : Nat) (x0 : Option Nat) (x1 : Option Nat) (x2 : Option Nat) (x3 : Int32) (x4 : Int32) (h : AH) : Cc (d + 1) k_Mn_spread [aR x0, aR x1, aR x2, aI x3, aI x4] h = Rk B_Mn_spread L_Mn_spread (Cc d) 0 [aR x0, aR x1, aR x2, aI x3, aI x4, aU, aU, aU, aU, aU] [] h := rfl
theorem C_Mn_spreadChanged (d : Nat) (x0 : Option Nat) (x1 : Option Nat) (x2 : Int32) (x3 : Int32) (x4 : Int32) (x5 : Int32) (h : AH) : Cc (d + 1) k_Mn_spreadChanged [aR x0, aR x1, aI x2, aI x3, aI x4, aI x5] h = Rk B_Mn_spreadChanged L_Mn_spreadChanged (Cc d) 0 [aR x0, aR x1, aI x2, aI x3, aI x4, aI x5, aU, aU] [] h := rfl
theorem C_Mn_come (d : Nat) (x0 : Option Nat) (x1 : Int32) (x2 : Int32) (x3 : Int32) (h : AH) : Cc (d + 1) k_Mn_come [aR x0, aI x1, aI x2, aI x3] h = Rk B_Mn_come L_Mn_come (Cc d) 0 [aR x0, aI x1, aI x2, aI x3, aU] [] h := rfl
theorem C_Mn_costOf (d : Nat) (x0 : Option Nat) (x1 : Int32) (h : AH) : Cc (d + 1) k_Mn_costOf [aR x0, aI x1] h = Rk B_Mn_costOf L_Mn_costOf (Cc d) 0 [aR x0, aI x1] [] h := rfl
theorem C_Mn_setCost (d : Nat) (x0 : Option Nat) (x1 : Int32) (x2 : Int32) (h : AH) : Cc (d + 1) k_Mn_setCost [aR x0, aI x1, aI x2] h = Rk B_Mn_setCost L_Mn_setCost (Cc d) 0 [aR x0, aI x1, aI x2, aU] [] h := rfl
theorem C_Ol_init (d : Nat) (x0 : Option Nat) (x1 : Option Nat) (x2 : Option Nat) (h : AH) : Cc (d + 1) k_Ol_init [aR x0, aR x1, aR x2] h = Rk B_Ol_init L_Ol_init (Cc d) 0 [aR x0, aR x1, aR x2] [] h := rfl
theorem C_Ol_shortest (d : Nat) (x0 : Option Nat) (x1 : Option Nat) (h : AH) : Cc (d + 1) k_Ol_shortest [aR x0, aR x1] h = Rk B_Ol_shortest L_Ol_shortest (Cc d) 0 [aR x0, aR x1] [] h := rfl
theorem C_Ol_firstPair (d : Nat) (x0 : Option Nat) (x1 : Option Nat) (x2 : Int32) (x3 : Int32) (h : AH) : Cc (d + 1) k_Ol_firstPair [aR x0, aR x1, aI x2, aI x3] h = Rk B_Ol_firstPair L_Ol_firstPair (Cc d) 0 [aR x0, aR x1, aI x2, aI x3, aU, aU] [] h := rfl
theorem C_Ol_choosePair (d : Nat) (x0 : Option Nat) (x1 : Option Nat) (x2 : Int32) (x3 : Int32) (x4 : Int32) (h : AH) : Cc (d + 1) k_Ol_choosePair [aR x0, aR x1, aI x2, aI x3, aI x4] h = Rk B_Ol_choosePair L_Ol_choosePair (Cc d) 0 [aR x0, aR x1, aI x2, aI x3, aI x4, aU, aU, aU] [] h := rfl
theorem C_Ol_followTo (d : Nat) (x0 : Option Nat) (x1 : Option Nat) (x2 : Int32) (x3 : Int32) (x4 : Int32) (h : AH) : Cc (d + 1) k_Ol_followTo [aR x0, aR x1, aI x2, aI x3, aI x4] h = Rk B_Ol_followTo L_Ol_followTo (Cc d) 0 [aR x0, aR x1, aI x2, aI x3, aI x4, aU, aU, aU, aU, aU] [] h := rfl
theorem C_Ol_neverMade (d : Nat) (x0 : Option Nat) (x1 : Option Nat) (h : AH) : Cc (d + 1) k_Ol_neverMade [aR x0, aR x1] h = Rk B_Ol_neverMade L_Ol_neverMade (Cc d) 0 [aR x0, aR x1, aU, aU, aU, aU, aU, aU, aU, aU] [] h := rfl
theorem C_Ol_twoAtOnce (d : Nat) (x0 : Option Nat) (x1 : Option Nat) (h : AH) : Cc (d + 1) k_Ol_twoAtOnce [aR x0, aR x1] h = Rk B_Ol_twoAtOnce L_Ol_twoAtOnce (Cc d) 0 [aR x0, aR x1, aU, aU, aU, aU, aU, aU] [] h := rfl
theorem C_Ol_firstTwo (d : Nat) (x0 : Option Nat) (x1 : Int32) (x2 : Int32) (x3 : Int32) (h : AH) : Cc (d + 1) k_Ol_firstTwo [aR x0, aI x1, aI x2, aI x3] h = Rk B_Ol_firstTwo L_Ol_firstTwo (Cc d) 0 [aR x0, aI x1, aI x2, aI x3, aU, aU, aU, aU] [] h := rfl
theorem C_Ol_study (d : Nat) (x0 : Option Nat) (x1 : Option Nat) (h : AH) : Cc (d + 1) k_Ol_study [aR x0, aR x1] h = Rk B_Ol_study L_Ol_study (Cc d) 0 [aR x0, aR x1, aU, aU] [] h := rfl
theorem C_Ol_see (d : Nat) (x0 : Option Nat) (x1 : Option Nat) (x2 : Int32) (h : AH) : Cc (d + 1) k_Ol_see [aR x0, aR x1, aI x2] h = Rk B_Ol_see L_Ol_see (Cc d) 0 [aR x0, aR x1, aI x2] [] h := rfl
theorem C_Ol_seeBehind (d : Nat) (x0 : Option Nat) (x1 : Option Nat) (x2 : Int32) (h : AH) : Cc (d + 1) k_Ol_seeBehind [aR x0, aR x1, aI x2] h = Rk B_Ol_seeBehind L_Ol_seeBehind (Cc d) 0 [aR x0, aR x1, aI x2, aU, aU, aU, aU] [] h := rfl
theorem C_Ol_tellAhead (d : Nat) (x0 : Option Nat) (x1 : Option Nat) (x2 : Int32) (h : AH) : Cc (d + 1) k_Ol_tellAhead [aR x0, aR x1, aI x2] h = Rk B_Ol_tellAhead L_Ol_tellAhead (Cc d) 0 [aR x0, aR x1, aI x2, aU, aU] [] h := rfl
theorem C_Ol_leadsTo (d : Nat) (x0 : Option Nat) (x1 : Option Nat) (x2 : Int32) (x3 : Int32) (h : AH) : Cc (d + 1) k_Ol_leadsTo [aR x0, aR x1, aI x2, aI x3] h = Rk B_Ol_leadsTo L_Ol_leadsTo (Cc d) 0 [aR x0, aR x1, aI x2, aI x3, aU, aU, aU, aU] [] h := rfl
theorem C_Ol_newName (d : Nat) (x0 : Int32) (h : AH) : Cc (d + 1) k_Ol_newName [aI x0] h = Rk B_Ol_newName L_Ol_newName (Cc d) 0 [aI x0] [] h := rfl
theorem C_Ol_placeOf (d : Nat) (x0 : Int32) (h : AH) : Cc (d + 1) k_Ol_placeOf [aI x0] h = Rk B_Ol_placeOf L_Ol_placeOf (Cc d) 0 [aI x0, aU, aU, aU, aU, aU, aU] [] h := rfl
theorem C_Ol_spotOf (d : Nat) (x0 : Int32) (h : AH) : Cc (d + 1) k_Ol_spotOf [aI x0] h = Rk B_Ol_spotOf L_Ol_spotOf (Cc d) 0 [aI x0] [] h := rfl
theorem C_Rd_init (d : Nat) (x0 : Option Nat) (h : AH) : Cc (d + 1) k_Rd_init [aR x0] h = Rk B_Rd_init L_Rd_init (Cc d) 0 [aR x0] [] h := rfl
theorem C_Rd_states (d : Nat) (x0 : Option Nat) (h : AH) : Cc (d + 1) k_Rd_states [aR x0] h = Rk B_Rd_states L_Rd_states (Cc d) 0 [aR x0] [] h := rfl
theorem C_Rd_registers (d : Nat) (x0 : Option Nat) (h : AH) : Cc (d + 1) k_Rd_registers [aR x0] h = Rk B_Rd_registers L_Rd_registers (Cc d) 0 [aR x0] [] h := rfl
theorem C_Rd_size (d : Nat) (x0 : Option Nat) (h : AH) : Cc (d + 1) k_Rd_size [aR x0] h = Rk B_Rd_size L_Rd_size (Cc d) 0 [aR x0] [] h := rfl
theorem C_Rd_become (d : Nat) (x0 : Option Nat) (x1 : Int32) (x2 : Int32) (x3 : Int32) (h : AH) : Cc (d + 1) k_Rd_become [aR x0, aI x1, aI x2, aI x3] h = Rk B_Rd_become L_Rd_become (Cc d) 0 [aR x0, aI x1, aI x2, aI x3] [] h := rfl
theorem C_Rd_appendAll (d : Nat) (x0 : Option Nat) (x1 : Option Nat) (x2 : Int32) (h : AH) : Cc (d + 1) k_Rd_appendAll [aR x0, aR x1, aI x2] h = Rk B_Rd_appendAll L_Rd_appendAll (Cc d) 0 [aR x0, aR x1, aI x2] [] h := rfl
theorem C_Rd_remove (d : Nat) (x0 : Option Nat) (x1 : Int32) (h : AH) : Cc (d + 1) k_Rd_remove [aR x0, aI x1] h = Rk B_Rd_remove L_Rd_remove (Cc d) 0 [aR x0, aI x1, aU] [] h := rfl
theorem C_Rd_sort (d : Nat) (x0 : Option Nat) (h : AH) : Cc (d + 1) k_Rd_sort [aR x0] h = Rk B_Rd_sort L_Rd_sort (Cc d) 0 [aR x0, aU, aU, aU] [] h := rfl
theorem C_Rd_part (d : Nat) (x0 : Option Nat) (x1 : Int32) (x2 : Int32) (h : AH) : Cc (d + 1) k_Rd_part [aR x0, aI x1, aI x2] h = Rk B_Rd_part L_Rd_part (Cc d) 0 [aR x0, aI x1, aI x2] [] h := rfl
theorem C_Rd_begin (d : Nat) (x0 : Option Nat) (x1 : Int32) (x2 : Int32) (h : AH) : Cc (d + 1) k_Rd_begin [aR x0, aI x1, aI x2] h = Rk B_Rd_begin L_Rd_begin (Cc d) 0 [aR x0, aI x1, aI x2] [] h := rfl
theorem C_Rd_end (d : Nat) (x0 : Option Nat) (x1 : Int32) (x2 : Int32) (h : AH) : Cc (d + 1) k_Rd_end [aR x0, aI x1, aI x2] h = Rk B_Rd_end L_Rd_end (Cc d) 0 [aR x0, aI x1, aI x2] [] h := rfl
theorem C_Rd_moveAt (d : Nat) (x0 : Option Nat) (x1 : Int32) (h : AH) : Cc (d + 1) k_Rd_moveAt [aR x0, aI x1] h = Rk B_Rd_moveAt L_Rd_moveAt (Cc d) 0 [aR x0, aI x1] [] h := rfl
theorem C_Rd_hasTest (d : Nat) (x0 : Option Nat) (x1 : Int32) (x2 : Int32) (x3 : Int32) (h : AH) : Cc (d + 1) k_Rd_hasTest [aR x0, aI x1, aI x2, aI x3] h = Rk B_Rd_hasTest L_Rd_hasTest (Cc d) 0 [aR x0, aI x1, aI x2, aI x3, aU] [] h := rfl
theorem C_Rd_takesSome (d : Nat) (x0 : Option Nat) (x1 : Int32) (h : AH) : Cc (d + 1) k_Rd_takesSome [aR x0, aI x1] h = Rk B_Rd_takesSome L_Rd_takesSome (Cc d) 0 [aR x0, aI x1] [] h := rfl
theorem C_Rd_takesAt (d : Nat) (x0 : Option Nat) (x1 : Int32) (h : AH) : Cc (d + 1) k_Rd_takesAt [aR x0, aI x1] h = Rk B_Rd_takesAt L_Rd_takesAt (Cc d) 0 [aR x0, aI x1] [] h := rfl
theorem C_Rd_takesBehind (d : Nat) (x0 : Option Nat) (x1 : Int32) (h : AH) : Cc (d + 1) k_Rd_takesBehind [aR x0, aI x1] h = Rk B_Rd_takesBehind L_Rd_takesBehind (Cc d) 0 [aR x0, aI x1] [] h := rfl
theorem C_Rd_after (d : Nat) (x0 : Option Nat) (x1 : Int32) (x2 : Int32) (x3 : Int32) (h : AH) : Cc (d + 1) k_Rd_after [aR x0, aI x1, aI x2, aI x3] h = Rk B_Rd_after L_Rd_after (Cc d) 0 [aR x0, aI x1, aI x2, aI x3, aU, aU, aU, aU, aU] [] h := rfl
theorem C_Rd_heldIn (d : Nat) (x0 : Int32) (x1 : Int32) (h : AH) : Cc (d + 1) k_Rd_heldIn [aI x0, aI x1] h = Rk B_Rd_heldIn L_Rd_heldIn (Cc d) 0 [aI x0, aI x1] [] h := rfl
theorem C_Rd_settle (d : Nat) (x0 : Int32) (x1 : Int32) (x2 : Int32) (h : AH) : Cc (d + 1) k_Rd_settle [aI x0, aI x1, aI x2] h = Rk B_Rd_settle L_Rd_settle (Cc d) 0 [aI x0, aI x1, aI x2, aU, aU, aU] [] h := rfl
theorem C_Rw_init (d : Nat) (x0 : Option Nat) (h : AH) : Cc (d + 1) k_Rw_init [aR x0] h = Rk B_Rw_init L_Rw_init (Cc d) 0 [aR x0] [] h := rfl
theorem C_Rw_size (d : Nat) (x0 : Option Nat) (h : AH) : Cc (d + 1) k_Rw_size [aR x0] h = Rk B_Rw_size L_Rw_size (Cc d) 0 [aR x0] [] h := rfl
theorem C_Rw_told (d : Nat) (x0 : Option Nat) (h : AH) : Cc (d + 1) k_Rw_told [aR x0] h = Rk B_Rw_told L_Rw_told (Cc d) 0 [aR x0] [] h := rfl
theorem C_Rw_gaps (d : Nat) (x0 : Option Nat) (h : AH) : Cc (d + 1) k_Rw_gaps [aR x0] h = Rk B_Rw_gaps L_Rw_gaps (Cc d) 0 [aR x0] [] h := rfl
theorem C_Rw_gapPairs (d : Nat) (x0 : Option Nat) (h : AH) : Cc (d + 1) k_Rw_gapPairs [aR x0] h = Rk B_Rw_gapPairs L_Rw_gapPairs (Cc d) 0 [aR x0] [] h := rfl
theorem C_Rw_letter (d : Nat) (x0 : Option Nat) (x1 : Int32) (h : AH) : Cc (d + 1) k_Rw_letter [aR x0, aI x1] h = Rk B_Rw_letter L_Rw_letter (Cc d) 0 [aR x0, aI x1] [] h := rfl
theorem C_Rw_name (d : Nat) (x0 : Option Nat) (x1 : Int32) (h : AH) : Cc (d + 1) k_Rw_name [aR x0, aI x1] h = Rk B_Rw_name L_Rw_name (Cc d) 0 [aR x0, aI x1] [] h := rfl
theorem C_Rw_id (d : Nat) (x0 : Option Nat) (x1 : Int32) (h : AH) : Cc (d + 1) k_Rw_id [aR x0, aI x1] h = Rk B_Rw_id L_Rw_id (Cc d) 0 [aR x0, aI x1] [] h := rfl
theorem C_Rw_aliveBehind (d : Nat) (x0 : Option Nat) (x1 : Int32) (h : AH) : Cc (d + 1) k_Rw_aliveBehind [aR x0, aI x1] h = Rk B_Rw_aliveBehind L_Rw_aliveBehind (Cc d) 0 [aR x0, aI x1] [] h := rfl
theorem C_Rw_hasGap (d : Nat) (x0 : Option Nat) (x1 : Int32) (h : AH) : Cc (d + 1) k_Rw_hasGap [aR x0, aI x1] h = Rk B_Rw_hasGap L_Rw_hasGap (Cc d) 0 [aR x0, aI x1] [] h := rfl
theorem C_Rw_append (d : Nat) (x0 : Option Nat) (x1 : Int32) (x2 : Int32) (h : AH) : Cc (d + 1) k_Rw_append [aR x0, aI x1, aI x2] h = Rk B_Rw_append L_Rw_append (Cc d) 0 [aR x0, aI x1, aI x2] [] h := rfl
theorem C_Rw_put (d : Nat) (x0 : Option Nat) (x1 : Int32) (x2 : Int32) (x3 : Int32) (h : AH) : Cc (d + 1) k_Rw_put [aR x0, aI x1, aI x2, aI x3] h = Rk B_Rw_put L_Rw_put (Cc d) 0 [aR x0, aI x1, aI x2, aI x3] [] h := rfl
theorem C_Rw_wipe (d : Nat) (x0 : Option Nat) (h : AH) : Cc (d + 1) k_Rw_wipe [aR x0] h = Rk B_Rw_wipe L_Rw_wipe (Cc d) 0 [aR x0, aU] [] h := rfl
theorem C_Rw_idOf (d : Nat) (x0 : Option Nat) (x1 : Int32) (h : AH) : Cc (d + 1) k_Rw_idOf [aR x0, aI x1] h = Rk B_Rw_idOf L_Rw_idOf (Cc d) 0 [aR x0, aI x1, aU] [] h := rfl
theorem C_Rw_survey (d : Nat) (x0 : Option Nat) (h : AH) : Cc (d + 1) k_Rw_survey [aR x0] h = Rk B_Rw_survey L_Rw_survey (Cc d) 0 [aR x0, aU] [] h := rfl
theorem C_Rw_idAt (d : Nat) (x0 : Option Nat) (x1 : Int32) (h : AH) : Cc (d + 1) k_Rw_idAt [aR x0, aI x1] h = Rk B_Rw_idAt L_Rw_idAt (Cc d) 0 [aR x0, aI x1, aU] [] h := rfl
theorem C_Ss_init (d : Nat) (x0 : Option Nat) (x1 : Option Nat) (x2 : Option Nat) (h : AH) : Cc (d + 1) k_Ss_init [aR x0, aR x1, aR x2] h = Rk B_Ss_init L_Ss_init (Cc d) 0 [aR x0, aR x1, aR x2] [] h := rfl
theorem C_Ss_passed (d : Nat) (x0 : Option Nat) (h : AH) : Cc (d + 1) k_Ss_passed [aR x0] h = Rk B_Ss_passed L_Ss_passed (Cc d) 0 [aR x0] [] h := rfl
theorem C_Ss_find (d : Nat) (x0 : Option Nat) (x1 : Option Nat) (x2 : Option Nat) (x3 : Int32) (x4 : Int32) (x5 : Int32) (h : AH) : Cc (d + 1) k_Ss_find [aR x0, aR x1, aR x2, aI x3, aI x4, aI x5] h = Rk B_Ss_find L_Ss_find (Cc d) 0 [aR x0, aR x1, aR x2, aI x3, aI x4, aI x5] [] h := rfl
theorem C_Ss_pairAt (d : Nat) (x0 : Option Nat) (x1 : Int32) (h : AH) : Cc (d + 1) k_Ss_pairAt [aR x0, aI x1] h = Rk B_Ss_pairAt L_Ss_pairAt (Cc d) 0 [aR x0, aI x1] [] h := rfl
theorem C_Ss_setOf (d : Nat) (x0 : Option Nat) (x1 : Int32) (h : AH) : Cc (d + 1) k_Ss_setOf [aR x0, aI x1] h = Rk B_Ss_setOf L_Ss_setOf (Cc d) 0 [aR x0, aI x1] [] h := rfl
theorem C_Ss_otherSetOf (d : Nat) (x0 : Option Nat) (x1 : Int32) (h : AH) : Cc (d + 1) k_Ss_otherSetOf [aR x0, aI x1] h = Rk B_Ss_otherSetOf L_Ss_otherSetOf (Cc d) 0 [aR x0, aI x1] [] h := rfl
theorem C_Ss_goOn (d : Nat) (x0 : Option Nat) (x1 : Int32) (x2 : Int32) (h : AH) : Cc (d + 1) k_Ss_goOn [aR x0, aI x1, aI x2] h = Rk B_Ss_goOn L_Ss_goOn (Cc d) 0 [aR x0, aI x1, aI x2, aU, aU, aU] [] h := rfl
theorem C_Ss_end (d : Nat) (x0 : Option Nat) (x1 : Int32) (x2 : Int32) (h : AH) : Cc (d + 1) k_Ss_end [aR x0, aI x1, aI x2] h = Rk B_Ss_end L_Ss_end (Cc d) 0 [aR x0, aI x1, aI x2, aU, aU, aU] [] h := rfl
theorem C_Ss_endings (d : Nat) (x0 : Option Nat) (x1 : Option Nat) (x2 : Option Nat) (x3 : Int32) (h : AH) : Cc (d + 1) k_Ss_endings [aR x0, aR x1, aR x2, aI x3] h = Rk B_Ss_endings L_Ss_endings (Cc d) 0 [aR x0, aR x1, aR x2, aI x3, aU, aU, aU, aU, aU, aU, aU, aU, aU] [] h := rfl
theorem C_Ss_namesFor (d : Nat) (x0 : Int32) (x1 : Int32) (x2 : Int32) (h : AH) : Cc (d + 1) k_Ss_namesFor [aI x0, aI x1, aI x2] h = Rk B_Ss_namesFor L_Ss_namesFor (Cc d) 0 [aI x0, aI x1, aI x2] [] h := rfl
theorem C_Ss_bitOf (d : Nat) (x0 : Int32) (x1 : Int32) (h : AH) : Cc (d + 1) k_Ss_bitOf [aI x0, aI x1] h = Rk B_Ss_bitOf L_Ss_bitOf (Cc d) 0 [aI x0, aI x1] [] h := rfl
theorem C_Sp_init (d : Nat) (x0 : Option Nat) (x1 : Int32) (h : AH) : Cc (d + 1) k_Sp_init [aR x0, aI x1] h = Rk B_Sp_init L_Sp_init (Cc d) 0 [aR x0, aI x1] [] h := rfl
theorem C_Sp_size (d : Nat) (x0 : Option Nat) (h : AH) : Cc (d + 1) k_Sp_size [aR x0] h = Rk B_Sp_size L_Sp_size (Cc d) 0 [aR x0] [] h := rfl
theorem C_Sp_has (d : Nat) (x0 : Option Nat) (x1 : Int32) (h : AH) : Cc (d + 1) k_Sp_has [aR x0, aI x1] h = Rk B_Sp_has L_Sp_has (Cc d) 0 [aR x0, aI x1] [] h := rfl
theorem C_Sp_add (d : Nat) (x0 : Option Nat) (x1 : Int32) (h : AH) : Cc (d + 1) k_Sp_add [aR x0, aI x1] h = Rk B_Sp_add L_Sp_add (Cc d) 0 [aR x0, aI x1, aU, aU, aU] [] h := rfl
theorem C_Sp_clear (d : Nat) (x0 : Option Nat) (h : AH) : Cc (d + 1) k_Sp_clear [aR x0] h = Rk B_Sp_clear L_Sp_clear (Cc d) 0 [aR x0, aU, aU, aU, aU] [] h := rfl
theorem C_Sp_startAt (d : Nat) (x0 : Option Nat) (x1 : Int32) (h : AH) : Cc (d + 1) k_Sp_startAt [aR x0, aI x1] h = Rk B_Sp_startAt L_Sp_startAt (Cc d) 0 [aR x0, aI x1] [] h := rfl
theorem C_Sp_next (d : Nat) (x0 : Option Nat) (x1 : Int32) (h : AH) : Cc (d + 1) k_Sp_next [aR x0, aI x1] h = Rk B_Sp_next L_Sp_next (Cc d) 0 [aR x0, aI x1, aU, aU, aU, aU, aU, aU] [] h := rfl
theorem C_Sp_follow (d : Nat) (x0 : Option Nat) (x1 : Option Nat) (x2 : Option Nat) (x3 : Int32) (x4 : Int32) (x5 : Int32) (h : AH) : Cc (d + 1) k_Sp_follow [aR x0, aR x1, aR x2, aI x3, aI x4, aI x5] h = Rk B_Sp_follow L_Sp_follow (Cc d) 0 [aR x0, aR x1, aR x2, aI x3, aI x4, aI x5, aU, aU, aU, aU, aU] [] h := rfl
theorem C_Sp_statesByBits (d : Nat) (x0 : Option Nat) (h : AH) : Cc (d + 1) k_Sp_statesByBits [aR x0] h = Rk B_Sp_statesByBits L_Sp_statesByBits (Cc d) 0 [aR x0, aU, aU, aU] [] h := rfl
theorem C_Sp_lowest (d : Nat) (x0 : Int64) (h : AH) : Cc (d + 1) k_Sp_lowest [aL x0] h = Rk B_Sp_lowest L_Sp_lowest (Cc d) 0 [aL x0, aU] [] h := rfl
theorem C_Tx_init (d : Nat) (x0 : Option Nat) (h : AH) : Cc (d + 1) k_Tx_init [aR x0] h = Rk B_Tx_init L_Tx_init (Cc d) 0 [aR x0] [] h := rfl
theorem C_Tx_size (d : Nat) (x0 : Option Nat) (h : AH) : Cc (d + 1) k_Tx_size [aR x0] h = Rk B_Tx_size L_Tx_size (Cc d) 0 [aR x0] [] h := rfl
theorem C_Tx_found (d : Nat) (x0 : Option Nat) (h : AH) : Cc (d + 1) k_Tx_found [aR x0] h = Rk B_Tx_found L_Tx_found (Cc d) 0 [aR x0] [] h := rfl
theorem C_Tx_told (d : Nat) (x0 : Option Nat) (h : AH) : Cc (d + 1) k_Tx_told [aR x0] h = Rk B_Tx_told L_Tx_told (Cc d) 0 [aR x0] [] h := rfl
theorem C_Tx_put (d : Nat) (x0 : Option Nat) (x1 : Int64) (x2 : Int32) (h : AH) : Cc (d + 1) k_Tx_put [aR x0, aL x1, aI x2] h = Rk B_Tx_put L_Tx_put (Cc d) 0 [aR x0, aL x1, aU, aI x2, aU] [] h := rfl
theorem C_Tx_wipe (d : Nat) (x0 : Option Nat) (h : AH) : Cc (d + 1) k_Tx_wipe [aR x0] h = Rk B_Tx_wipe L_Tx_wipe (Cc d) 0 [aR x0, aU] [] h := rfl
theorem C_Tx_parse (d : Nat) (x0 : Option Nat) (x1 : Option Nat) (h : AH) : Cc (d + 1) k_Tx_parse [aR x0, aR x1] h = Rk B_Tx_parse L_Tx_parse (Cc d) 0 [aR x0, aR x1, aU] [] h := rfl
theorem C_Tx_parseMove (d : Nat) (x0 : Option Nat) (x1 : Option Nat) (h : AH) : Cc (d + 1) k_Tx_parseMove [aR x0, aR x1] h = Rk B_Tx_parseMove L_Tx_parseMove (Cc d) 0 [aR x0, aR x1, aU, aU, aU, aU, aU, aU] [] h := rfl
theorem C_Tx_number (d : Nat) (x0 : Option Nat) (x1 : Int32) (h : AH) : Cc (d + 1) k_Tx_number [aR x0, aI x1] h = Rk B_Tx_number L_Tx_number (Cc d) 0 [aR x0, aI x1, aU] [] h := rfl
theorem C_Tx_letter (d : Nat) (x0 : Option Nat) (h : AH) : Cc (d + 1) k_Tx_letter [aR x0] h = Rk B_Tx_letter L_Tx_letter (Cc d) 0 [aR x0] [] h := rfl
theorem C_Tx_test (d : Nat) (x0 : Option Nat) (x1 : Int32) (h : AH) : Cc (d + 1) k_Tx_test [aR x0, aI x1] h = Rk B_Tx_test L_Tx_test (Cc d) 0 [aR x0, aI x1] [] h := rfl
theorem C_Tx_advance (d : Nat) (x0 : Option Nat) (h : AH) : Cc (d + 1) k_Tx_advance [aR x0] h = Rk B_Tx_advance L_Tx_advance (Cc d) 0 [aR x0, aU] [] h := rfl
theorem C_Tx_isWord (d : Nat) (x0 : Option Nat) (x1 : Nat) (h : AH) : Cc (d + 1) k_Tx_isWord [aR x0, aS x1] h = Rk B_Tx_isWord L_Tx_isWord (Cc d) 0 [aR x0, aS x1, aU] [] h := rfl
theorem C_Tx_kindOf (d : Nat) (x0 : Int32) (h : AH) : Cc (d + 1) k_Tx_kindOf [aI x0] h = Rk B_Tx_kindOf L_Tx_kindOf (Cc d) 0 [aI x0] [] h := rfl
theorem C_Wk_init (d : Nat) (x0 : Option Nat) (x1 : Option Nat) (x2 : Option Nat) (x3 : Option Nat) (h : AH) : Cc (d + 1) k_Wk_init [aR x0, aR x1, aR x2, aR x3] h = Rk B_Wk_init L_Wk_init (Cc d) 0 [aR x0, aR x1, aR x2, aR x3] [] h := rfl
theorem C_Wk_statesBehind (d : Nat) (x0 : Option Nat) (x1 : Option Nat) (x2 : Option Nat) (x3 : Int32) (h : AH) : Cc (d + 1) k_Wk_statesBehind [aR x0, aR x1, aR x2, aI x3] h = Rk B_Wk_statesBehind L_Wk_statesBehind (Cc d) 0 [aR x0, aR x1, aR x2, aI x3, aU] [] h := rfl
theorem C_Wk_findRun (d : Nat) (x0 : Option Nat) (x1 : Option Nat) (x2 : Option Nat) (h : AH) : Cc (d + 1) k_Wk_findRun [aR x0, aR x1, aR x2] h = Rk B_Wk_findRun L_Wk_findRun (Cc d) 0 [aR x0, aR x1, aR x2] [] h := rfl
theorem C_Wk_moveOfRun (d : Nat) (x0 : Option Nat) (x1 : Int32) (h : AH) : Cc (d + 1) k_Wk_moveOfRun [aR x0, aI x1] h = Rk B_Wk_moveOfRun L_Wk_moveOfRun (Cc d) 0 [aR x0, aI x1] [] h := rfl
theorem C_Wk_forget (d : Nat) (x0 : Option Nat) (x1 : Int32) (x2 : Int32) (h : AH) : Cc (d + 1) k_Wk_forget [aR x0, aI x1, aI x2] h = Rk B_Wk_forget L_Wk_forget (Cc d) 0 [aR x0, aI x1, aI x2, aU] [] h := rfl
theorem C_Wk_isTakenFrom (d : Nat) (x0 : Option Nat) (x1 : Option Nat) (x2 : Option Nat) (x3 : Int32) (x4 : Int32) (h : AH) : Cc (d + 1) k_Wk_isTakenFrom [aR x0, aR x1, aR x2, aI x3, aI x4] h = Rk B_Wk_isTakenFrom L_Wk_isTakenFrom (Cc d) 0 [aR x0, aR x1, aR x2, aI x3, aI x4] [] h := rfl
theorem C_Wk_runFrom (d : Nat) (x0 : Option Nat) (x1 : Option Nat) (x2 : Option Nat) (x3 : Int32) (x4 : Int32) (h : AH) : Cc (d + 1) k_Wk_runFrom [aR x0, aR x1, aR x2, aI x3, aI x4] h = Rk B_Wk_runFrom L_Wk_runFrom (Cc d) 0 [aR x0, aR x1, aR x2, aI x3, aI x4, aU, aU, aU, aU] [] h := rfl
theorem C_Wk_runsThatTake (d : Nat) (x0 : Option Nat) (x1 : Option Nat) (x2 : Option Nat) (h : AH) : Cc (d + 1) k_Wk_runsThatTake [aR x0, aR x1, aR x2] h = Rk B_Wk_runsThatTake L_Wk_runsThatTake (Cc d) 0 [aR x0, aR x1, aR x2, aU, aU, aU, aU, aU] [] h := rfl
theorem C_Wk_spread (d : Nat) (x0 : Option Nat) (x1 : Option Nat) (x2 : Option Nat) (x3 : Int32) (h : AH) : Cc (d + 1) k_Wk_spread [aR x0, aR x1, aR x2, aI x3] h = Rk B_Wk_spread L_Wk_spread (Cc d) 0 [aR x0, aR x1, aR x2, aI x3, aU, aU, aU, aU, aU, aU, aU, aU, aU, aU, aU, aU] [] h := rfl
theorem C_Wk_placeOf (d : Nat) (x0 : Option Nat) (x1 : Int32) (h : AH) : Cc (d + 1) k_Wk_placeOf [aR x0, aI x1] h = Rk B_Wk_placeOf L_Wk_placeOf (Cc d) 0 [aR x0, aI x1, aU, aU, aU] [] h := rfl
theorem C_Wk_giveSlots (d : Nat) (x0 : Option Nat) (x1 : Option Nat) (h : AH) : Cc (d + 1) k_Wk_giveSlots [aR x0, aR x1] h = Rk B_Wk_giveSlots L_Wk_giveSlots (Cc d) 0 [aR x0, aR x1, aU, aU, aU, aU, aU] [] h := rfl
theorem C_X_init (d : Nat) (x0 : Option Nat) (h : AH) : Cc (d + 1) k_X_init [aR x0] h = Rk B_X_init L_X_init (Cc d) 0 [aR x0, aU, aU, aU] [] h := rfl
theorem C_X_reader (d : Nat) (x0 : Option Nat) (x1 : Int32) (x2 : Int32) (x3 : Int32) (x4 : Int32) (h : AH) : Cc (d + 1) k_X_reader [aR x0, aI x1, aI x2, aI x3, aI x4] h = Rk B_X_reader L_X_reader (Cc d) 0 [aR x0, aI x1, aI x2, aI x3, aI x4, aU] [] h := rfl
theorem C_X_write (d : Nat) (x0 : Option Nat) (x1 : Int64) (x2 : Int32) (h : AH) : Cc (d + 1) k_X_write [aR x0, aL x1, aI x2] h = Rk B_X_write L_X_write (Cc d) 0 [aR x0, aL x1, aU, aI x2] [] h := rfl
theorem C_X_erase (d : Nat) (x0 : Option Nat) (h : AH) : Cc (d + 1) k_X_erase [aR x0] h = Rk B_X_erase L_X_erase (Cc d) 0 [aR x0] [] h := rfl
theorem C_X_fault (d : Nat) (x0 : Option Nat) (x1 : Int32) (h : AH) : Cc (d + 1) k_X_fault [aR x0, aI x1] h = Rk B_X_fault L_X_fault (Cc d) 0 [aR x0, aI x1, aU] [] h := rfl
theorem C_X_moves (d : Nat) (x0 : Option Nat) (x1 : Int32) (h : AH) : Cc (d + 1) k_X_moves [aR x0, aI x1] h = Rk B_X_moves L_X_moves (Cc d) 0 [aR x0, aI x1, aU] [] h := rfl
theorem C_X_move (d : Nat) (x0 : Option Nat) (x1 : Int32) (x2 : Int32) (x3 : Int32) (h : AH) : Cc (d + 1) k_X_move [aR x0, aI x1, aI x2, aI x3] h = Rk B_X_move L_X_move (Cc d) 0 [aR x0, aI x1, aI x2, aI x3, aU] [] h := rfl
theorem C_X_drop (d : Nat) (x0 : Option Nat) (x1 : Int32) (x2 : Int32) (h : AH) : Cc (d + 1) k_X_drop [aR x0, aI x1, aI x2] h = Rk B_X_drop L_X_drop (Cc d) 0 [aR x0, aI x1, aI x2, aU] [] h := rfl
theorem C_X_pair (d : Nat) (x0 : Option Nat) (x1 : Int32) (x2 : Int32) (h : AH) : Cc (d + 1) k_X_pair [aR x0, aI x1, aI x2] h = Rk B_X_pair L_X_pair (Cc d) 0 [aR x0, aI x1, aI x2] [] h := rfl
theorem C_X_change (d : Nat) (x0 : Option Nat) (x1 : Int32) (x2 : Int32) (x3 : Int32) (h : AH) : Cc (d + 1) k_X_change [aR x0, aI x1, aI x2, aI x3] h = Rk B_X_change L_X_change (Cc d) 0 [aR x0, aI x1, aI x2, aI x3] [] h := rfl
theorem C_X_hush (d : Nat) (x0 : Option Nat) (h : AH) : Cc (d + 1) k_X_hush [aR x0] h = Rk B_X_hush L_X_hush (Cc d) 0 [aR x0] [] h := rfl
theorem C_X_taken (d : Nat) (x0 : Option Nat) (x1 : Int32) (h : AH) : Cc (d + 1) k_X_taken [aR x0, aI x1] h = Rk B_X_taken L_X_taken (Cc d) 0 [aR x0, aI x1, aU] [] h := rfl
theorem C_X_may (d : Nat) (x0 : Option Nat) (x1 : Int32) (x2 : Int32) (h : AH) : Cc (d + 1) k_X_may [aR x0, aI x1, aI x2] h = Rk B_X_may L_X_may (Cc d) 0 [aR x0, aI x1, aI x2, aU] [] h := rfl
theorem C_X_runs (d : Nat) (x0 : Option Nat) (x1 : Int32) (h : AH) : Cc (d + 1) k_X_runs [aR x0, aI x1] h = Rk B_X_runs L_X_runs (Cc d) 0 [aR x0, aI x1, aU] [] h := rfl
theorem C_X_run (d : Nat) (x0 : Option Nat) (x1 : Int32) (x2 : Int32) (h : AH) : Cc (d + 1) k_X_run [aR x0, aI x1, aI x2] h = Rk B_X_run L_X_run (Cc d) 0 [aR x0, aI x1, aI x2, aU] [] h := rfl
theorem C_X_shapes (d : Nat) (x0 : Option Nat) (x1 : Int32) (x2 : Int32) (x3 : Int32) (h : AH) : Cc (d + 1) k_X_shapes [aR x0, aI x1, aI x2, aI x3] h = Rk B_X_shapes L_X_shapes (Cc d) 0 [aR x0, aI x1, aI x2, aI x3, aU] [] h := rfl
theorem C_X_shape (d : Nat) (x0 : Option Nat) (x1 : Int32) (x2 : Int32) (x3 : Int32) (x4 : Int32) (x5 : Int32) (h : AH) : Cc (d + 1) k_X_shape [aR x0, aI x1, aI x2, aI x3, aI x4, aI x5] h = Rk B_X_shape L_X_shape (Cc d) 0 [aR x0, aI x1, aI x2, aI x3, aI x4, aI x5, aU] [] h := rfl
theorem C_X_least (d : Nat) (x0 : Option Nat) (x1 : Int32) (h : AH) : Cc (d + 1) k_X_least [aR x0, aI x1] h = Rk B_X_least L_X_least (Cc d) 0 [aR x0, aI x1, aU] [] h := rfl
theorem C_X_first (d : Nat) (x0 : Option Nat) (x1 : Int32) (x2 : Int32) (h : AH) : Cc (d + 1) k_X_first [aR x0, aI x1, aI x2] h = Rk B_X_first L_X_first (Cc d) 0 [aR x0, aI x1, aI x2, aU, aU] [] h := rfl
theorem C_X_useless (d : Nat) (x0 : Option Nat) (x1 : Int32) (h : AH) : Cc (d + 1) k_X_useless [aR x0, aI x1] h = Rk B_X_useless L_X_useless (Cc d) 0 [aR x0, aI x1, aU] [] h := rfl
theorem C_X_twofold (d : Nat) (x0 : Option Nat) (x1 : Int32) (h : AH) : Cc (d + 1) k_X_twofold [aR x0, aI x1] h = Rk B_X_twofold L_X_twofold (Cc d) 0 [aR x0, aI x1, aU] [] h := rfl
theorem C_X_both (d : Nat) (x0 : Option Nat) (h : AH) : Cc (d + 1) k_X_both [aR x0] h = Rk B_X_both L_X_both (Cc d) 0 [aR x0] [] h := rfl
theorem C_X_parted (d : Nat) (x0 : Option Nat) (x1 : Int32) (x2 : Int32) (h : AH) : Cc (d + 1) k_X_parted [aR x0, aI x1, aI x2] h = Rk B_X_parted L_X_parted (Cc d) 0 [aR x0, aI x1, aI x2, aU] [] h := rfl
theorem C_X_fillings (d : Nat) (x0 : Option Nat) (x1 : Int32) (h : AH) : Cc (d + 1) k_X_fillings [aR x0, aI x1] h = Rk B_X_fillings L_X_fillings (Cc d) 0 [aR x0, aI x1, aU] [] h := rfl
theorem C_X_filled (d : Nat) (x0 : Option Nat) (x1 : Int32) (x2 : Int32) (h : AH) : Cc (d + 1) k_X_filled [aR x0, aI x1, aI x2] h = Rk B_X_filled L_X_filled (Cc d) 0 [aR x0, aI x1, aI x2, aU] [] h := rfl
theorem C_X_mend (d : Nat) (x0 : Option Nat) (x1 : Int32) (h : AH) : Cc (d + 1) k_X_mend [aR x0, aI x1] h = Rk B_X_mend L_X_mend (Cc d) 0 [aR x0, aI x1, aU] [] h := rfl
theorem C_X_count (d : Nat) (x0 : Option Nat) (x1 : Int32) (h : AH) : Cc (d + 1) k_X_count [aR x0, aI x1] h = Rk B_X_count L_X_count (Cc d) 0 [aR x0, aI x1] [] h := rfl
theorem C_X_readerOf (d : Nat) (x0 : Option Nat) (x1 : Int32) (h : AH) : Cc (d + 1) k_X_readerOf [aR x0, aI x1] h = Rk B_X_readerOf L_X_readerOf (Cc d) 0 [aR x0, aI x1] [] h := rfl
theorem C_X_within (d : Nat) (x0 : Int32) (x1 : Int32) (x2 : Int32) (h : AH) : Cc (d + 1) k_X_within [aI x0, aI x1, aI x2] h = Rk B_X_within L_X_within (Cc d) 0 [aI x0, aI x1, aI x2] [] h := rfl
theorem C_X_isPair (d : Nat) (x0 : Int32) (x1 : Int32) (h : AH) : Cc (d + 1) k_X_isPair [aI x0, aI x1] h = Rk B_X_isPair L_X_isPair (Cc d) 0 [aI x0, aI x1] [] h := rfl
theorem C_M_init (d : Nat) (x0 : Option Nat) (h : AH) : Cc (d + 1) k_M_init [aR x0] h = Rk B_M_init L_M_init (Cc d) 0 [aR x0] [] h := rfl
theorem C_M_in (d : Nat) (x0 : Int64) (x1 : Int64) (x2 : Int64) (h : AH) : Cc (d + 1) k_M_in [aL x0, aL x1, aL x2] h = Rk B_M_in L_M_in (Cc d) 0 [aL x0, aU, aL x1, aU, aL x2, aU] [] h := rfl
theorem C_M_isReader (d : Nat) (x0 : Int32) (h : AH) : Cc (d + 1) k_M_isReader [aI x0] h = Rk B_M_isReader L_M_isReader (Cc d) 0 [aI x0] [] h := rfl
theorem C_M_reader (d : Nat) (x0 : Option Nat) (x1 : Int32) (x2 : Int32) (x3 : Int32) (x4 : Int32) (h : AH) : Cc (d + 1) k_M_reader [aR x0, aI x1, aI x2, aI x3, aI x4] h = Rk B_M_reader L_M_reader (Cc d) 0 [aR x0, aI x1, aI x2, aI x3, aI x4] [] h := rfl
theorem C_M_write (d : Nat) (x0 : Option Nat) (x1 : Int64) (x2 : Int32) (h : AH) : Cc (d + 1) k_M_write [aR x0, aL x1, aI x2] h = Rk B_M_write L_M_write (Cc d) 0 [aR x0, aL x1, aU, aI x2, aU] [] h := rfl
theorem C_M_erase (d : Nat) (x0 : Option Nat) (h : AH) : Cc (d + 1) k_M_erase [aR x0] h = Rk B_M_erase L_M_erase (Cc d) 0 [aR x0, aU] [] h := rfl
theorem C_M_sort (d : Nat) (x0 : Int32) (h : AH) : Cc (d + 1) k_M_sort [aI x0] h = Rk B_M_sort L_M_sort (Cc d) 0 [aI x0] [] h := rfl
theorem C_M_token (d : Nat) (x0 : Option Nat) (h : AH) : Cc (d + 1) k_M_token [aR x0] h = Rk B_M_token L_M_token (Cc d) 0 [aR x0] [] h := rfl
theorem C_M_isWord (d : Nat) (x0 : Option Nat) (x1 : Int32) (x2 : Int32) (h : AH) : Cc (d + 1) k_M_isWord [aR x0, aI x1, aI x2] h = Rk B_M_isWord L_M_isWord (Cc d) 0 [aR x0, aI x1, aI x2, aU, aU] [] h := rfl
theorem C_M_skips (d : Nat) (x0 : Option Nat) (x1 : Int32) (x2 : Int32) (h : AH) : Cc (d + 1) k_M_skips [aR x0, aI x1, aI x2] h = Rk B_M_skips L_M_skips (Cc d) 0 [aR x0, aI x1, aI x2, aU] [] h := rfl
theorem C_M_figure (d : Nat) (x0 : Option Nat) (x1 : Int32) (h : AH) : Cc (d + 1) k_M_figure [aR x0, aI x1] h = Rk B_M_figure L_M_figure (Cc d) 0 [aR x0, aI x1, aU, aU] [] h := rfl
theorem C_M_readsMove (d : Nat) (x0 : Option Nat) (x1 : Int32) (h : AH) : Cc (d + 1) k_M_readsMove [aR x0, aI x1] h = Rk B_M_readsMove L_M_readsMove (Cc d) 0 [aR x0, aI x1, aU, aU, aU, aU, aU] [] h := rfl
theorem C_M_fault (d : Nat) (x0 : Option Nat) (x1 : Int32) (h : AH) : Cc (d + 1) k_M_fault [aR x0, aI x1] h = Rk B_M_fault L_M_fault (Cc d) 0 [aR x0, aI x1, aU] [] h := rfl
theorem C_M_moves (d : Nat) (x0 : Option Nat) (x1 : Int32) (h : AH) : Cc (d + 1) k_M_moves [aR x0, aI x1] h = Rk B_M_moves L_M_moves (Cc d) 0 [aR x0, aI x1, aU, aU] [] h := rfl
theorem C_M_isMove (d : Nat) (x0 : Option Nat) (x1 : Int32) (x2 : Int32) (h : AH) : Cc (d + 1) k_M_isMove [aR x0, aI x1, aI x2] h = Rk B_M_isMove L_M_isMove (Cc d) 0 [aR x0, aI x1, aI x2] [] h := rfl
theorem C_M_move (d : Nat) (x0 : Option Nat) (x1 : Int32) (x2 : Int32) (x3 : Int32) (h : AH) : Cc (d + 1) k_M_move [aR x0, aI x1, aI x2, aI x3] h = Rk B_M_move L_M_move (Cc d) 0 [aR x0, aI x1, aI x2, aI x3, aU] [] h := rfl
theorem C_M_drop (d : Nat) (x0 : Option Nat) (x1 : Int32) (x2 : Int32) (h : AH) : Cc (d + 1) k_M_drop [aR x0, aI x1, aI x2] h = Rk B_M_drop L_M_drop (Cc d) 0 [aR x0, aI x1, aI x2, aU] [] h := rfl
theorem C_M_isPair (d : Nat) (x0 : Int32) (x1 : Int32) (h : AH) : Cc (d + 1) k_M_isPair [aI x0, aI x1] h = Rk B_M_isPair L_M_isPair (Cc d) 0 [aI x0, aI x1] [] h := rfl
theorem C_M_pair (d : Nat) (x0 : Option Nat) (x1 : Int32) (x2 : Int32) (h : AH) : Cc (d + 1) k_M_pair [aR x0, aI x1, aI x2] h = Rk B_M_pair L_M_pair (Cc d) 0 [aR x0, aI x1, aI x2] [] h := rfl
theorem C_M_change (d : Nat) (x0 : Option Nat) (x1 : Int32) (x2 : Int32) (x3 : Int32) (h : AH) : Cc (d + 1) k_M_change [aR x0, aI x1, aI x2, aI x3] h = Rk B_M_change L_M_change (Cc d) 0 [aR x0, aI x1, aI x2, aI x3] [] h := rfl
theorem C_M_hush (d : Nat) (x0 : Option Nat) (h : AH) : Cc (d + 1) k_M_hush [aR x0] h = Rk B_M_hush L_M_hush (Cc d) 0 [aR x0, aU] [] h := rfl
theorem C_M_isGap (d : Nat) (x0 : Option Nat) (x1 : Int32) (h : AH) : Cc (d + 1) k_M_isGap [aR x0, aI x1] h = Rk B_M_isGap L_M_isGap (Cc d) 0 [aR x0, aI x1] [] h := rfl
theorem C_M_gapPairs (d : Nat) (x0 : Option Nat) (h : AH) : Cc (d + 1) k_M_gapPairs [aR x0] h = Rk B_M_gapPairs L_M_gapPairs (Cc d) 0 [aR x0, aU, aU] [] h := rfl
theorem C_M_idOf (d : Nat) (x0 : Option Nat) (x1 : Int32) (h : AH) : Cc (d + 1) k_M_idOf [aR x0, aI x1] h = Rk B_M_idOf L_M_idOf (Cc d) 0 [aR x0, aI x1, aU, aU] [] h := rfl
theorem C_M_layNames (d : Nat) (x0 : Option Nat) (h : AH) : Cc (d + 1) k_M_layNames [aR x0] h = Rk B_M_layNames L_M_layNames (Cc d) 0 [aR x0, aU] [] h := rfl
theorem C_M_heldIn (d : Nat) (x0 : Int32) (x1 : Int32) (h : AH) : Cc (d + 1) k_M_heldIn [aI x0, aI x1] h = Rk B_M_heldIn L_M_heldIn (Cc d) 0 [aI x0, aI x1] [] h := rfl
theorem C_M_can (d : Nat) (x0 : Option Nat) (x1 : Int32) (x2 : Int32) (x3 : Int32) (x4 : Int32) (h : AH) : Cc (d + 1) k_M_can [aR x0, aI x1, aI x2, aI x3, aI x4] h = Rk B_M_can L_M_can (Cc d) 0 [aR x0, aI x1, aI x2, aI x3, aI x4] [] h := rfl
theorem C_M_behind (d : Nat) (x0 : Option Nat) (x1 : Int32) (x2 : Int32) (x3 : Int32) (h : AH) : Cc (d + 1) k_M_behind [aR x0, aI x1, aI x2, aI x3] h = Rk B_M_behind L_M_behind (Cc d) 0 [aR x0, aI x1, aI x2, aI x3, aU, aU, aU] [] h := rfl
theorem C_M_isTaken (d : Nat) (x0 : Option Nat) (x1 : Int32) (x2 : Int32) (h : AH) : Cc (d + 1) k_M_isTaken [aR x0, aI x1, aI x2] h = Rk B_M_isTaken L_M_isTaken (Cc d) 0 [aR x0, aI x1, aI x2] [] h := rfl
theorem C_M_goOn (d : Nat) (x0 : Option Nat) (x1 : Int32) (x2 : Int32) (x3 : Int32) (x4 : Int32) (h : AH) : Cc (d + 1) k_M_goOn [aR x0, aI x1, aI x2, aI x3, aI x4] h = Rk B_M_goOn L_M_goOn (Cc d) 0 [aR x0, aI x1, aI x2, aI x3, aI x4, aU, aU, aU, aU, aU] [] h := rfl
theorem C_M_beginList (d : Nat) (x0 : Option Nat) (h : AH) : Cc (d + 1) k_M_beginList [aR x0] h = Rk B_M_beginList L_M_beginList (Cc d) 0 [aR x0] [] h := rfl
theorem C_M_takesList (d : Nat) (x0 : Option Nat) (x1 : Int32) (x2 : Int32) (h : AH) : Cc (d + 1) k_M_takesList [aR x0, aI x1, aI x2] h = Rk B_M_takesList L_M_takesList (Cc d) 0 [aR x0, aI x1, aI x2, aU, aU] [] h := rfl
theorem C_M_goAll (d : Nat) (x0 : Option Nat) (x1 : Int32) (h : AH) : Cc (d + 1) k_M_goAll [aR x0, aI x1] h = Rk B_M_goAll L_M_goAll (Cc d) 0 [aR x0, aI x1, aU] [] h := rfl
theorem C_M_taken (d : Nat) (x0 : Option Nat) (x1 : Int32) (h : AH) : Cc (d + 1) k_M_taken [aR x0, aI x1] h = Rk B_M_taken L_M_taken (Cc d) 0 [aR x0, aI x1] [] h := rfl
theorem C_M_may (d : Nat) (x0 : Option Nat) (x1 : Int32) (x2 : Int32) (h : AH) : Cc (d + 1) k_M_may [aR x0, aI x1, aI x2] h = Rk B_M_may L_M_may (Cc d) 0 [aR x0, aI x1, aI x2, aU, aU] [] h := rfl
theorem C_M_runs (d : Nat) (x0 : Option Nat) (x1 : Int32) (h : AH) : Cc (d + 1) k_M_runs [aR x0, aI x1] h = Rk B_M_runs L_M_runs (Cc d) 0 [aR x0, aI x1, aU, aU, aU, aU, aU] [] h := rfl
theorem C_M_layGood (d : Nat) (x0 : Option Nat) (x1 : Int32) (h : AH) : Cc (d + 1) k_M_layGood [aR x0, aI x1] h = Rk B_M_layGood L_M_layGood (Cc d) 0 [aR x0, aI x1, aU, aU, aU, aU, aU] [] h := rfl
theorem C_M_run (d : Nat) (x0 : Option Nat) (x1 : Int32) (x2 : Int32) (h : AH) : Cc (d + 1) k_M_run [aR x0, aI x1, aI x2] h = Rk B_M_run L_M_run (Cc d) 0 [aR x0, aI x1, aI x2, aU, aU, aU] [] h := rfl
theorem C_M_nextPair (d : Nat) (x0 : Option Nat) (x1 : Int32) (x2 : Int32) (h : AH) : Cc (d + 1) k_M_nextPair [aR x0, aI x1, aI x2] h = Rk B_M_nextPair L_M_nextPair (Cc d) 0 [aR x0, aI x1, aI x2] [] h := rfl
theorem C_M_beginPair (d : Nat) (x0 : Option Nat) (x1 : Int32) (h : AH) : Cc (d + 1) k_M_beginPair [aR x0, aI x1] h = Rk B_M_beginPair L_M_beginPair (Cc d) 0 [aR x0, aI x1] [] h := rfl
theorem C_M_goShapes (d : Nat) (x0 : Option Nat) (x1 : Int32) (x2 : Int32) (x3 : Int32) (x4 : Int32) (h : AH) : Cc (d + 1) k_M_goShapes [aR x0, aI x1, aI x2, aI x3, aI x4] h = Rk B_M_goShapes L_M_goShapes (Cc d) 0 [aR x0, aI x1, aI x2, aI x3, aI x4, aU, aU] [] h := rfl
theorem C_M_shapes (d : Nat) (x0 : Option Nat) (x1 : Int32) (x2 : Int32) (x3 : Int32) (h : AH) : Cc (d + 1) k_M_shapes [aR x0, aI x1, aI x2, aI x3] h = Rk B_M_shapes L_M_shapes (Cc d) 0 [aR x0, aI x1, aI x2, aI x3] [] h := rfl
theorem C_M_shape (d : Nat) (x0 : Option Nat) (x1 : Int32) (x2 : Int32) (x3 : Int32) (x4 : Int32) (x5 : Int32) (h : AH) : Cc (d + 1) k_M_shape [aR x0, aI x1, aI x2, aI x3, aI x4, aI x5] h = Rk B_M_shape L_M_shape (Cc d) 0 [aR x0, aI x1, aI x2, aI x3, aI x4, aI x5] [] h := rfl
theorem C_M_kindIn (d : Nat) (x0 : Int32) (x1 : Int32) (h : AH) : Cc (d + 1) k_M_kindIn [aI x0, aI x1] h = Rk B_M_kindIn L_M_kindIn (Cc d) 0 [aI x0, aI x1] [] h := rfl
theorem C_M_kindOf (d : Nat) (x0 : Int32) (x1 : Int32) (x2 : Int32) (x3 : Int32) (h : AH) : Cc (d + 1) k_M_kindOf [aI x0, aI x1, aI x2, aI x3] h = Rk B_M_kindOf L_M_kindOf (Cc d) 0 [aI x0, aI x1, aI x2, aI x3, aU, aU, aU, aU] [] h := rfl
theorem C_M_canBy (d : Nat) (x0 : Option Nat) (x1 : Int32) (x2 : Int32) (x3 : Int32) (h : AH) : Cc (d + 1) k_M_canBy [aR x0, aI x1, aI x2, aI x3] h = Rk B_M_canBy L_M_canBy (Cc d) 0 [aR x0, aI x1, aI x2, aI x3, aU] [] h := rfl
theorem C_M_kindBehind (d : Nat) (x0 : Option Nat) (x1 : Int32) (x2 : Int32) (x3 : Int32) (h : AH) : Cc (d + 1) k_M_kindBehind [aR x0, aI x1, aI x2, aI x3] h = Rk B_M_kindBehind L_M_kindBehind (Cc d) 0 [aR x0, aI x1, aI x2, aI x3, aU, aU, aU] [] h := rfl
theorem C_M_isNameOf (d : Nat) (x0 : Int32) (x1 : Int32) (h : AH) : Cc (d + 1) k_M_isNameOf [aI x0, aI x1] h = Rk B_M_isNameOf L_M_isNameOf (Cc d) 0 [aI x0, aI x1] [] h := rfl
theorem C_M_nameAt (d : Nat) (x0 : Int32) (h : AH) : Cc (d + 1) k_M_nameAt [aI x0] h = Rk B_M_nameAt L_M_nameAt (Cc d) 0 [aI x0] [] h := rfl
theorem C_M_layKinds (d : Nat) (x0 : Option Nat) (x1 : Int32) (h : AH) : Cc (d + 1) k_M_layKinds [aR x0, aI x1] h = Rk B_M_layKinds L_M_layKinds (Cc d) 0 [aR x0, aI x1, aU, aU, aU, aU, aU] [] h := rfl
theorem C_M_least (d : Nat) (x0 : Option Nat) (x1 : Int32) (h : AH) : Cc (d + 1) k_M_least [aR x0, aI x1] h = Rk B_M_least L_M_least (Cc d) 0 [aR x0, aI x1] [] h := rfl
theorem C_M_wideIn (d : Nat) (x0 : Int32) (x1 : Int32) (h : AH) : Cc (d + 1) k_M_wideIn [aI x0, aI x1] h = Rk B_M_wideIn L_M_wideIn (Cc d) 0 [aI x0, aI x1] [] h := rfl
theorem C_M_goWide (d : Nat) (x0 : Option Nat) (x1 : Int32) (x2 : Int32) (x3 : Int32) (x4 : Int32) (h : AH) : Cc (d + 1) k_M_goWide [aR x0, aI x1, aI x2, aI x3, aI x4] h = Rk B_M_goWide L_M_goWide (Cc d) 0 [aR x0, aI x1, aI x2, aI x3, aI x4, aU, aU, aU, aU, aU, aU, aU, aU] [] h := rfl
theorem C_M_addWide (d : Nat) (x0 : Option Nat) (x1 : Int32) (h : AH) : Cc (d + 1) k_M_addWide [aR x0, aI x1] h = Rk B_M_addWide L_M_addWide (Cc d) 0 [aR x0, aI x1, aU, aU] [] h := rfl
theorem C_M_first (d : Nat) (x0 : Option Nat) (x1 : Int32) (x2 : Int32) (h : AH) : Cc (d + 1) k_M_first [aR x0, aI x1, aI x2] h = Rk B_M_first L_M_first (Cc d) 0 [aR x0, aI x1, aI x2, aU, aU, aU, aU, aU] [] h := rfl
theorem C_M_useless (d : Nat) (x0 : Option Nat) (x1 : Int32) (h : AH) : Cc (d + 1) k_M_useless [aR x0, aI x1] h = Rk B_M_useless L_M_useless (Cc d) 0 [aR x0, aI x1, aU, aU, aU, aU, aU] [] h := rfl
theorem C_M_twofold (d : Nat) (x0 : Option Nat) (x1 : Int32) (h : AH) : Cc (d + 1) k_M_twofold [aR x0, aI x1] h = Rk B_M_twofold L_M_twofold (Cc d) 0 [aR x0, aI x1, aU, aU, aU, aU, aU] [] h := rfl
theorem C_M_power (d : Nat) (x0 : Int32) (h : AH) : Cc (d + 1) k_M_power [aI x0] h = Rk B_M_power L_M_power (Cc d) 0 [aI x0] [] h := rfl
theorem C_M_together (d : Nat) (x0 : Option Nat) (x1 : Int32) (x2 : Int32) (h : AH) : Cc (d + 1) k_M_together [aR x0, aI x1, aI x2] h = Rk B_M_together L_M_together (Cc d) 0 [aR x0, aI x1, aI x2, aU, aU, aU, aU, aU] [] h := rfl
theorem C_M_meet (d : Nat) (x0 : Option Nat) (x1 : Int32) (x2 : Int32) (h : AH) : Cc (d + 1) k_M_meet [aR x0, aI x1, aI x2] h = Rk B_M_meet L_M_meet (Cc d) 0 [aR x0, aI x1, aI x2, aU] [] h := rfl
theorem C_M_canHere (d : Nat) (x0 : Option Nat) (x1 : Int32) (x2 : Int32) (x3 : Int32) (x4 : Int32) (x5 : Int32) (h : AH) : Cc (d + 1) k_M_canHere [aR x0, aI x1, aI x2, aI x3, aI x4, aI x5] h = Rk B_M_canHere L_M_canHere (Cc d) 0 [aR x0, aI x1, aI x2, aI x3, aI x4, aI x5, aU] [] h := rfl
theorem C_M_both (d : Nat) (x0 : Option Nat) (h : AH) : Cc (d + 1) k_M_both [aR x0] h = Rk B_M_both L_M_both (Cc d) 0 [aR x0, aU, aU, aU, aU, aU, aU] [] h := rfl
theorem C_M_goBoth (d : Nat) (x0 : Option Nat) (x1 : Int32) (x2 : Int32) (x3 : Int32) (x4 : Int32) (h : AH) : Cc (d + 1) k_M_goBoth [aR x0, aI x1, aI x2, aI x3, aI x4] h = Rk B_M_goBoth L_M_goBoth (Cc d) 0 [aR x0, aI x1, aI x2, aI x3, aI x4, aU, aU] [] h := rfl
theorem C_M_goOther (d : Nat) (x0 : Option Nat) (x1 : Int32) (x2 : Int32) (x3 : Int32) (h : AH) : Cc (d + 1) k_M_goOther [aR x0, aI x1, aI x2, aI x3] h = Rk B_M_goOther L_M_goOther (Cc d) 0 [aR x0, aI x1, aI x2, aI x3, aU, aU, aU, aU, aU] [] h := rfl
theorem C_M_takesOther (d : Nat) (x0 : Option Nat) (x1 : Int32) (h : AH) : Cc (d + 1) k_M_takesOther [aR x0, aI x1] h = Rk B_M_takesOther L_M_takesOther (Cc d) 0 [aR x0, aI x1, aU, aU] [] h := rfl
theorem C_M_parts (d : Nat) (x0 : Option Nat) (x1 : Int32) (h : AH) : Cc (d + 1) k_M_parts [aR x0, aI x1] h = Rk B_M_parts L_M_parts (Cc d) 0 [aR x0, aI x1, aU] [] h := rfl
theorem C_M_parted (d : Nat) (x0 : Option Nat) (x1 : Int32) (x2 : Int32) (h : AH) : Cc (d + 1) k_M_parted [aR x0, aI x1, aI x2] h = Rk B_M_parted L_M_parted (Cc d) 0 [aR x0, aI x1, aI x2, aU] [] h := rfl
theorem C_M_freeBehind (d : Nat) (x0 : Option Nat) (x1 : Int32) (h : AH) : Cc (d + 1) k_M_freeBehind [aR x0, aI x1] h = Rk B_M_freeBehind L_M_freeBehind (Cc d) 0 [aR x0, aI x1, aU] [] h := rfl
theorem C_M_idOfAny (d : Nat) (x0 : Option Nat) (x1 : Int32) (h : AH) : Cc (d + 1) k_M_idOfAny [aR x0, aI x1] h = Rk B_M_idOfAny L_M_idOfAny (Cc d) 0 [aR x0, aI x1, aU, aU] [] h := rfl
theorem C_M_nextName (d : Nat) (x0 : Option Nat) (x1 : Int32) (x2 : Int32) (h : AH) : Cc (d + 1) k_M_nextName [aR x0, aI x1, aI x2] h = Rk B_M_nextName L_M_nextName (Cc d) 0 [aR x0, aI x1, aI x2, aU, aU, aU, aU, aU] [] h := rfl
theorem C_M_nextFill (d : Nat) (x0 : Option Nat) (x1 : Int32) (h : AH) : Cc (d + 1) k_M_nextFill [aR x0, aI x1] h = Rk B_M_nextFill L_M_nextFill (Cc d) 0 [aR x0, aI x1, aU, aU, aU] [] h := rfl
theorem C_M_goFill (d : Nat) (x0 : Option Nat) (x1 : Int32) (x2 : Int32) (h : AH) : Cc (d + 1) k_M_goFill [aR x0, aI x1, aI x2] h = Rk B_M_goFill L_M_goFill (Cc d) 0 [aR x0, aI x1, aI x2, aU, aU] [] h := rfl
theorem C_M_fillings (d : Nat) (x0 : Option Nat) (x1 : Int32) (h : AH) : Cc (d + 1) k_M_fillings [aR x0, aI x1] h = Rk B_M_fillings L_M_fillings (Cc d) 0 [aR x0, aI x1] [] h := rfl
theorem C_M_filled (d : Nat) (x0 : Option Nat) (x1 : Int32) (x2 : Int32) (h : AH) : Cc (d + 1) k_M_filled [aR x0, aI x1, aI x2] h = Rk B_M_filled L_M_filled (Cc d) 0 [aR x0, aI x1, aI x2] [] h := rfl
theorem C_M_unused (d : Nat) (x0 : Int32) (h : AH) : Cc (d + 1) k_M_unused [aI x0] h = Rk B_M_unused L_M_unused (Cc d) 0 [aI x0, aU] [] h := rfl
theorem C_M_mend (d : Nat) (x0 : Option Nat) (x1 : Int32) (h : AH) : Cc (d + 1) k_M_mend [aR x0, aI x1] h = Rk B_M_mend L_M_mend (Cc d) 0 [aR x0, aI x1, aU, aU] [] h := rfl
theorem C_M_mendFrom (d : Nat) (x0 : Option Nat) (x1 : Int32) (x2 : Int32) (x3 : Int32) (h : AH) : Cc (d + 1) k_M_mendFrom [aR x0, aI x1, aI x2, aI x3] h = Rk B_M_mendFrom L_M_mendFrom (Cc d) 0 [aR x0, aI x1, aI x2, aI x3, aU, aU, aU, aU, aU, aU] [] h := rfl
theorem C_M_count (d : Nat) (x0 : Option Nat) (x1 : Int32) (h : AH) : Cc (d + 1) k_M_count [aR x0, aI x1] h = Rk B_M_count L_M_count (Cc d) 0 [aR x0, aI x1, aU, aU] [] h := rfl
