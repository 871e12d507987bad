def RX0 : String := "ColdShares$House"
def TX0 : u_T := fun k => match k with
  | 0 => ("ColdShares$House", "kind", "I", false)
  | 1 => ("ColdShares$House", "warm", "I", false)
  | 2 => ("ColdShares$House", "owed", "I", false)
  | 3 => ("ColdShares$House", "owes", "I", false)
  | 4 => ("ColdShares$House", "pain", "I", false)
  | _ => ("ColdShares$House", "bore", "I", false)
def tyX0 : Nat → FieldType := fun k => match k with
  | 0 => .int
  | 1 => .int
  | 2 => .int
  | 3 => .int
  | 4 => .int
  | _ => .int
theorem nmX0 : ∀ a, a < 6 → ∀ b, b < 6 → a ≠ b → (TX0 a).2.1 ≠ (TX0 b).2.1 := by decide +kernel
theorem tyX0_ok : ∀ k, k < 6 → parseFieldDescriptor (TX0 k).2.2.1 = some (tyX0 k) := by decide +kernel
def RX1 : String := "ColdShares$Plans"
def TX1 : u_T := fun k => match k with
  | 0 => ("ColdShares$Plans", "onward", "[[I", true)
  | 1 => ("ColdShares$Plans", "alone", "[[I", true)
  | _ => ("ColdShares$Plans", "pooled", "[[I", true)
def tyX1 : Nat → FieldType := fun k => match k with
  | 0 => .array (.array .int)
  | 1 => .array (.array .int)
  | _ => .array (.array .int)
theorem nmX1 : ∀ a, a < 3 → ∀ b, b < 3 → a ≠ b → (TX1 a).2.1 ≠ (TX1 b).2.1 := by decide +kernel
theorem tyX1_ok : ∀ k, k < 3 → parseFieldDescriptor (TX1 k).2.2.1 = some (tyX1 k) := by decide +kernel
def RX2 : String := "ColdShares$Reader"
def TX2 : u_T := fun k => match k with
  | 0 => ("ColdShares$Reader", "draft", "LColdShares$Street;", true)
  | 1 => ("ColdShares$Reader", "text", "LColdShares$Row;", false)
  | _ => ("ColdShares$Reader", "place", "I", false)
def tyX2 : Nat → FieldType := fun k => match k with
  | 0 => .object "ColdShares$Street"
  | 1 => .object "ColdShares$Row"
  | _ => .int
theorem nmX2 : ∀ a, a < 3 → ∀ b, b < 3 → a ≠ b → (TX2 a).2.1 ≠ (TX2 b).2.1 := by decide +kernel
theorem tyX2_ok : ∀ k, k < 3 → parseFieldDescriptor (TX2 k).2.2.1 = some (tyX2 k) := by decide +kernel
def RX3 : String := "ColdShares$Row"
def TX3 : u_T := fun k => match k with
  | 0 => ("ColdShares$Row", "places", "[I", true)
  | _ => ("ColdShares$Row", "size", "I", false)
def tyX3 : Nat → FieldType := fun k => match k with
  | 0 => .array .int
  | _ => .int
theorem nmX3 : ∀ a, a < 2 → ∀ b, b < 2 → a ≠ b → (TX3 a).2.1 ≠ (TX3 b).2.1 := by decide +kernel
theorem tyX3_ok : ∀ k, k < 2 → parseFieldDescriptor (TX3 k).2.2.1 = some (tyX3 k) := by decide +kernel
def RX4 : String := "ColdShares$Street"
def TX4 : u_T := fun k => match k with
  | 0 => ("ColdShares$Street", "cold", "[I", true)
  | 1 => ("ColdShares$Street", "houses", "[LColdShares$House;", true)
  | 2 => ("ColdShares$Street", "who", "[I", true)
  | 3 => ("ColdShares$Street", "whom", "[I", true)
  | 4 => ("ColdShares$Street", "degrees", "[I", true)
  | 5 => ("ColdShares$Street", "nights", "I", false)
  | 6 => ("ColdShares$Street", "size", "I", false)
  | 7 => ("ColdShares$Street", "night", "I", false)
  | _ => ("ColdShares$Street", "deeds", "I", false)
def tyX4 : Nat → FieldType := fun k => match k with
  | 0 => .array .int
  | 1 => .array (.object "ColdShares$House")
  | 2 => .array .int
  | 3 => .array .int
  | 4 => .array .int
  | 5 => .int
  | 6 => .int
  | 7 => .int
  | _ => .int
theorem nmX4 : ∀ a, a < 9 → ∀ b, b < 9 → a ≠ b → (TX4 a).2.1 ≠ (TX4 b).2.1 := by decide +kernel
theorem tyX4_ok : ∀ k, k < 9 → parseFieldDescriptor (TX4 k).2.2.1 = some (tyX4 k) := by decide +kernel
def RX5 : String := "ColdShares$Ways"
def TX5 : u_T := fun k => match k with
  | 0 => ("ColdShares$Ways", "number", "[J", true)
  | _ => ("ColdShares$Ways", "ahead", "[J", true)
def tyX5 : Nat → FieldType := fun k => match k with
  | 0 => .array .long
  | _ => .array .long
theorem nmX5 : ∀ a, a < 2 → ∀ b, b < 2 → a ≠ b → (TX5 a).2.1 ≠ (TX5 b).2.1 := by decide +kernel
theorem tyX5_ok : ∀ k, k < 2 → parseFieldDescriptor (TX5 k).2.2.1 = some (tyX5 k) := by decide +kernel
def RX6 : String := "ColdShares"
def TX6 : u_T := fun k => match k with
  | 0 => ("ColdShares", "rows", "[LColdShares$Row;", true)
  | 1 => ("ColdShares", "texts", "[LColdShares$Row;", true)
  | 2 => ("ColdShares", "now", "LColdShares$Street;", true)
  | 3 => ("ColdShares", "kept", "[LColdShares$Street;", true)
  | 4 => ("ColdShares", "reader", "LColdShares$Reader;", true)
  | 5 => ("ColdShares", "plans", "LColdShares$Plans;", true)
  | 6 => ("ColdShares", "ways", "LColdShares$Ways;", true)
  | 7 => ("ColdShares", "found", "[I", true)
  | 8 => ("ColdShares", "latestFinding", "I", false)
  | 9 => ("ColdShares", "told", "I", false)
  | 10 => ("ColdShares", "upperTold", "J", false)
  | _ => ("ColdShares", "lowerTold", "J", false)
def tyX6 : Nat → FieldType := fun k => match k with
  | 0 => .array (.object "ColdShares$Row")
  | 1 => .array (.object "ColdShares$Row")
  | 2 => .object "ColdShares$Street"
  | 3 => .array (.object "ColdShares$Street")
  | 4 => .object "ColdShares$Reader"
  | 5 => .object "ColdShares$Plans"
  | 6 => .object "ColdShares$Ways"
  | 7 => .array .int
  | 8 => .int
  | 9 => .int
  | 10 => .long
  | _ => .long
theorem nmX6 : ∀ a, a < 12 → ∀ b, b < 12 → a ≠ b → (TX6 a).2.1 ≠ (TX6 b).2.1 := by decide +kernel
theorem tyX6_ok : ∀ k, k < 12 → parseFieldDescriptor (TX6 k).2.2.1 = some (tyX6 k) := by decide +kernel
def RX7 : String := "ColdSharesModel"
def TX7 : u_T := fun k => match k with
  | 0 => ("ColdSharesModel", "latest", "I", false)
  | 1 => ("ColdSharesModel", "came", "[I", true)
  | 2 => ("ColdSharesModel", "asked", "I", false)
  | 3 => ("ColdSharesModel", "upper", "J", false)
  | 4 => ("ColdSharesModel", "lower", "J", false)
  | 5 => ("ColdSharesModel", "sizes", "[I", true)
  | 6 => ("ColdSharesModel", "rows", "[I", true)
  | 7 => ("ColdSharesModel", "copied", "[I", true)
  | 8 => ("ColdSharesModel", "textSizes", "[I", true)
  | 9 => ("ColdSharesModel", "bytes", "[B", true)
  | 10 => ("ColdSharesModel", "n", "I", false)
  | 11 => ("ColdSharesModel", "nights", "I", false)
  | 12 => ("ColdSharesModel", "kinds", "[I", true)
  | 13 => ("ColdSharesModel", "warm", "[I", true)
  | 14 => ("ColdSharesModel", "cold", "[I", true)
  | 15 => ("ColdSharesModel", "readAt", "I", false)
  | 16 => ("ColdSharesModel", "readMany", "I", false)
  | 17 => ("ColdSharesModel", "readNights", "I", false)
  | 18 => ("ColdSharesModel", "readHouse", "[I", true)
  | 19 => ("ColdSharesModel", "readCold", "[I", true)
  | 20 => ("ColdSharesModel", "now", "[I", true)
  | 21 => ("ColdSharesModel", "deedMany", "I", false)
  | 22 => ("ColdSharesModel", "log", "[I", true)
  | 23 => ("ColdSharesModel", "isKept", "[Z", true)
  | 24 => ("ColdSharesModel", "keptMany", "[I", true)
  | 25 => ("ColdSharesModel", "keptCold", "[I", true)
  | 26 => ("ColdSharesModel", "keptNow", "[I", true)
  | 27 => ("ColdSharesModel", "keptLog", "[I", true)
  | 28 => ("ColdSharesModel", "plans", "[I", true)
  | 29 => ("ColdSharesModel", "leasts", "[I", true)
  | 30 => ("ColdSharesModel", "plan", "[I", true)
  | 31 => ("ColdSharesModel", "shared", "[I", true)
  | 32 => ("ColdSharesModel", "parts", "[I", true)
  | 33 => ("ColdSharesModel", "ways", "[I", true)
  | 34 => ("ColdSharesModel", "chances", "[J", true)
  | 35 => ("ColdSharesModel", "then", "[J", true)
  | _ => ("ColdSharesModel", "hash", "J", false)
def tyX7 : Nat → FieldType := fun k => match k with
  | 0 => .int
  | 1 => .array .int
  | 2 => .int
  | 3 => .long
  | 4 => .long
  | 5 => .array .int
  | 6 => .array .int
  | 7 => .array .int
  | 8 => .array .int
  | 9 => .array .byte
  | 10 => .int
  | 11 => .int
  | 12 => .array .int
  | 13 => .array .int
  | 14 => .array .int
  | 15 => .int
  | 16 => .int
  | 17 => .int
  | 18 => .array .int
  | 19 => .array .int
  | 20 => .array .int
  | 21 => .int
  | 22 => .array .int
  | 23 => .array .boolean
  | 24 => .array .int
  | 25 => .array .int
  | 26 => .array .int
  | 27 => .array .int
  | 28 => .array .int
  | 29 => .array .int
  | 30 => .array .int
  | 31 => .array .int
  | 32 => .array .int
  | 33 => .array .int
  | 34 => .array .long
  | 35 => .array .long
  | _ => .long
theorem nmX7 : ∀ a, a < 37 → ∀ b, b < 37 → a ≠ b → (TX7 a).2.1 ≠ (TX7 b).2.1 := by decide +kernel
theorem tyX7_ok : ∀ k, k < 37 → parseFieldDescriptor (TX7 k).2.2.1 = some (tyX7 k) := by decide +kernel
abbrev vwCl : List vw_C := [(RX0, TX0, 6), (RX1, TX1, 3), (RX2, TX2, 3), (RX3, TX3, 2), (RX4, TX4, 9), (RX5, TX5, 2), (RX6, TX6, 12), (RX7, TX7, 37)]
