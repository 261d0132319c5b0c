def RX0 : String := "GearObservatory$CommandReader"
def TX0 : u_T := fun k => match k with
  | 0 => ("GearObservatory$CommandReader", "at", "I", false)
  | 1 => ("GearObservatory$CommandReader", "count", "I", false)
  | 2 => ("GearObservatory$CommandReader", "text", "LGearObservatory$SignRow;", true)
  | 3 => ("GearObservatory$CommandReader", "kinds", "[I", true)
  | _ => ("GearObservatory$CommandReader", "values", "[I", true)
def tyX0 : Nat → FieldType := fun k => match k with
  | 0 => .int
  | 1 => .int
  | 2 => .object "GearObservatory$SignRow"
  | 3 => .array .int
  | _ => .array .int
abbrev wsX00 : List Cond := u_ws RX0 TX0 5
theorem nmX0 : ∀ a, a < 5 → ∀ b, b < 5 → a ≠ b → (TX0 a).2.1 ≠ (TX0 b).2.1 := by decide +kernel
theorem tyX0_ok : ∀ k, k < 5 → parseFieldDescriptor (TX0 k).2.2.1 = some (tyX0 k) := by decide +kernel

def RX1 : String := "GearObservatory$Entries"
def TX1 : u_T := fun k => match k with
  | 0 => ("GearObservatory$Entries", "count", "I", false)
  | 1 => ("GearObservatory$Entries", "letter", "[I", true)
  | 2 => ("GearObservatory$Entries", "digit", "[I", true)
  | 3 => ("GearObservatory$Entries", "gearCount", "[I", true)
  | _ => ("GearObservatory$Entries", "positions", "[I", true)
def tyX1 : Nat → FieldType := fun k => match k with
  | 0 => .int
  | 1 => .array .int
  | 2 => .array .int
  | 3 => .array .int
  | _ => .array .int
abbrev wsX10 : List Cond := u_ws RX1 TX1 5
theorem nmX1 : ∀ a, a < 5 → ∀ b, b < 5 → a ≠ b → (TX1 a).2.1 ≠ (TX1 b).2.1 := by decide +kernel
theorem tyX1_ok : ∀ k, k < 5 → parseFieldDescriptor (TX1 k).2.2.1 = some (tyX1 k) := by decide +kernel

def RX2 : String := "GearObservatory$GearTrain"
def TX2 : u_T := fun k => match k with
  | 0 => ("GearObservatory$GearTrain", "gearCount", "I", false)
  | 1 => ("GearObservatory$GearTrain", "meshCount", "I", false)
  | 2 => ("GearObservatory$GearTrain", "turnedTeeth", "I", false)
  | 3 => ("GearObservatory$GearTrain", "teeth", "[I", true)
  | 4 => ("GearObservatory$GearTrain", "position", "[I", true)
  | 5 => ("GearObservatory$GearTrain", "meshFirst", "[I", true)
  | 6 => ("GearObservatory$GearTrain", "meshSecond", "[I", true)
  | 7 => ("GearObservatory$GearTrain", "slack", "[I", true)
  | _ => ("GearObservatory$GearTrain", "gap", "[I", true)
def tyX2 : Nat → FieldType := fun k => match k with
  | 0 => .int
  | 1 => .int
  | 2 => .int
  | 3 => .array .int
  | 4 => .array .int
  | 5 => .array .int
  | 6 => .array .int
  | 7 => .array .int
  | _ => .array .int
abbrev wsX20 : List Cond := u_ws RX2 TX2 9
theorem nmX2 : ∀ a, a < 9 → ∀ b, b < 9 → a ≠ b → (TX2 a).2.1 ≠ (TX2 b).2.1 := by decide +kernel
theorem tyX2_ok : ∀ k, k < 9 → parseFieldDescriptor (TX2 k).2.2.1 = some (tyX2 k) := by decide +kernel

def RX3 : String := "GearObservatory$GearWalks"
def TX3 : u_T := fun k => match k with
  | 0 => ("GearObservatory$GearWalks", "train", "LGearObservatory$GearTrain;", true)
  | 1 => ("GearObservatory$GearWalks", "trial", "LGearObservatory$GearTrain;", true)
  | 2 => ("GearObservatory$GearWalks", "chain", "[I", true)
  | 3 => ("GearObservatory$GearWalks", "setOf", "[I", true)
  | _ => ("GearObservatory$GearWalks", "seen", "[Z", true)
def tyX3 : Nat → FieldType := fun k => match k with
  | 0 => .object "GearObservatory$GearTrain"
  | 1 => .object "GearObservatory$GearTrain"
  | 2 => .array .int
  | 3 => .array .int
  | _ => .array .boolean
abbrev wsX30 : List Cond := u_ws RX3 TX3 5
theorem nmX3 : ∀ a, a < 5 → ∀ b, b < 5 → a ≠ b → (TX3 a).2.1 ≠ (TX3 b).2.1 := by decide +kernel
theorem tyX3_ok : ∀ k, k < 5 → parseFieldDescriptor (TX3 k).2.2.1 = some (tyX3 k) := by decide +kernel

def RX4 : String := "GearObservatory$History"
def TX4 : u_T := fun k => match k with
  | 0 => ("GearObservatory$History", "count", "I", false)
  | 1 => ("GearObservatory$History", "open", "I", false)
  | _ => ("GearObservatory$History", "ring", "[LGearObservatory$State;", true)
def tyX4 : Nat → FieldType := fun k => match k with
  | 0 => .int
  | 1 => .int
  | _ => .array (.object "GearObservatory$State")
abbrev wsX40 : List Cond := u_ws RX4 TX4 3
theorem nmX4 : ∀ a, a < 3 → ∀ b, b < 3 → a ≠ b → (TX4 a).2.1 ≠ (TX4 b).2.1 := by decide +kernel
theorem tyX4_ok : ∀ k, k < 3 → parseFieldDescriptor (TX4 k).2.2.1 = some (tyX4 k) := by decide +kernel

def RX5 : String := "GearObservatory$SignRow"
def TX5 : u_T := fun k => match k with
  | 0 => ("GearObservatory$SignRow", "length", "I", false)
  | _ => ("GearObservatory$SignRow", "signs", "[C", true)
def tyX5 : Nat → FieldType := fun k => match k with
  | 0 => .int
  | _ => .array .char
abbrev wsX50 : List Cond := u_ws RX5 TX5 2
theorem nmX5 : ∀ a, a < 2 → ∀ b, b < 2 → a ≠ b → (TX5 a).2.1 ≠ (TX5 b).2.1 := by decide +kernel
theorem tyX5_ok : ∀ k, k < 2 → parseFieldDescriptor (TX5 k).2.2.1 = some (tyX5 k) := by decide +kernel

def RX6 : String := "GearObservatory$Sky"
def TX6 : u_T := fun k => match k with
  | 0 => ("GearObservatory$Sky", "count", "I", false)
  | 1 => ("GearObservatory$Sky", "nextId", "I", false)
  | 2 => ("GearObservatory$Sky", "hours", "I", false)
  | 3 => ("GearObservatory$Sky", "id", "[I", true)
  | 4 => ("GearObservatory$Sky", "direction", "[I", true)
  | _ => ("GearObservatory$Sky", "speed", "[I", true)
def tyX6 : Nat → FieldType := fun k => match k with
  | 0 => .int
  | 1 => .int
  | 2 => .int
  | 3 => .array .int
  | 4 => .array .int
  | _ => .array .int
abbrev wsX60 : List Cond := u_ws RX6 TX6 6
theorem nmX6 : ∀ a, a < 6 → ∀ b, b < 6 → a ≠ b → (TX6 a).2.1 ≠ (TX6 b).2.1 := by decide +kernel
theorem tyX6_ok : ∀ k, k < 6 → parseFieldDescriptor (TX6 k).2.2.1 = some (tyX6 k) := by decide +kernel

def RX7 : String := "GearObservatory$State"
def TX7 : u_T := fun k => match k with
  | 0 => ("GearObservatory$State", "train", "LGearObservatory$GearTrain;", true)
  | 1 => ("GearObservatory$State", "wheels", "LGearObservatory$Wheels;", true)
  | 2 => ("GearObservatory$State", "sky", "LGearObservatory$Sky;", true)
  | _ => ("GearObservatory$State", "entries", "LGearObservatory$Entries;", true)
def tyX7 : Nat → FieldType := fun k => match k with
  | 0 => .object "GearObservatory$GearTrain"
  | 1 => .object "GearObservatory$Wheels"
  | 2 => .object "GearObservatory$Sky"
  | _ => .object "GearObservatory$Entries"
abbrev wsX70 : List Cond := u_ws RX7 TX7 4
theorem nmX7 : ∀ a, a < 4 → ∀ b, b < 4 → a ≠ b → (TX7 a).2.1 ≠ (TX7 b).2.1 := by decide +kernel
theorem tyX7_ok : ∀ k, k < 4 → parseFieldDescriptor (TX7 k).2.2.1 = some (tyX7 k) := by decide +kernel

def RX8 : String := "GearObservatory$Wheels"
def TX8 : u_T := fun k => match k with
  | 0 => ("GearObservatory$Wheels", "count", "I", false)
  | 1 => ("GearObservatory$Wheels", "gear", "[I", true)
  | _ => ("GearObservatory$Wheels", "spokes", "[I", true)
def tyX8 : Nat → FieldType := fun k => match k with
  | 0 => .int
  | 1 => .array .int
  | _ => .array .int
abbrev wsX80 : List Cond := u_ws RX8 TX8 3
theorem nmX8 : ∀ a, a < 3 → ∀ b, b < 3 → a ≠ b → (TX8 a).2.1 ≠ (TX8 b).2.1 := by decide +kernel
theorem tyX8_ok : ∀ k, k < 3 → parseFieldDescriptor (TX8 k).2.2.1 = some (tyX8 k) := by decide +kernel

def RX9 : String := "GearObservatory"
def TX9 : u_T := fun k => match k with
  | 0 => ("GearObservatory", "now", "LGearObservatory$State;", true)
  | 1 => ("GearObservatory", "saved", "LGearObservatory$State;", true)
  | 2 => ("GearObservatory", "history", "LGearObservatory$History;", true)
  | 3 => ("GearObservatory", "walks", "LGearObservatory$GearWalks;", true)
  | 4 => ("GearObservatory", "input", "LGearObservatory$SignRow;", true)
  | 5 => ("GearObservatory", "output", "LGearObservatory$SignRow;", true)
  | 6 => ("GearObservatory", "reader", "LGearObservatory$CommandReader;", true)
  | 7 => ("GearObservatory", "somethingSaved", "Z", false)
  | 8 => ("GearObservatory", "keptErrorPosition", "I", false)
  | _ => ("GearObservatory", "keptFailedCommand", "I", false)
def tyX9 : Nat → FieldType := fun k => match k with
  | 0 => .object "GearObservatory$State"
  | 1 => .object "GearObservatory$State"
  | 2 => .object "GearObservatory$History"
  | 3 => .object "GearObservatory$GearWalks"
  | 4 => .object "GearObservatory$SignRow"
  | 5 => .object "GearObservatory$SignRow"
  | 6 => .object "GearObservatory$CommandReader"
  | 7 => .boolean
  | 8 => .int
  | _ => .int
abbrev wsX90 : List Cond := u_ws RX9 TX9 10
theorem nmX9 : ∀ a, a < 10 → ∀ b, b < 10 → a ≠ b → (TX9 a).2.1 ≠ (TX9 b).2.1 := by decide +kernel
theorem tyX9_ok : ∀ k, k < 10 → parseFieldDescriptor (TX9 k).2.2.1 = some (tyX9 k) := by decide +kernel

def RX10 : String := "GearObservatoryModel"
def TX10 : u_T := fun k => match k with
  | _ => ("", "", "", false)
def tyX10 : Nat → FieldType := fun k => match k with
  | _ => .int
abbrev wsX100 : List Cond := u_ws RX10 TX10 0
theorem nmX10 : ∀ a, a < 0 → ∀ b, b < 0 → a ≠ b → (TX10 a).2.1 ≠ (TX10 b).2.1 := by decide +kernel
theorem tyX10_ok : ∀ k, k < 0 → parseFieldDescriptor (TX10 k).2.2.1 = some (tyX10 k) := by decide +kernel

def RL : String := "GearObservatoryLaw"
