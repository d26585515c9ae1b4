def RX0 : String := "MountYard$ByteRow"
def TX0 : u_T := fun k => match k with
  | 0 => ("MountYard$ByteRow", "bytes", "[B", true)
  | _ => ("MountYard$ByteRow", "count", "I", false)
def tyX0 : Nat → FieldType := fun k => match k with
  | 0 => .array .byte
  | _ => .int
abbrev wsX00 : List Cond := u_ws RX0 TX0 2
theorem nmX0 : ∀ a, a < 2 → ∀ b, b < 2 → a ≠ b → (TX0 a).2.1 ≠ (TX0 b).2.1 := by decide +kernel
theorem tyX0_ok : ∀ k, k < 2 → parseFieldDescriptor (TX0 k).2.2.1 = some (tyX0 k) := by decide +kernel
def RX1 : String := "MountYard$FileList"
def TX1 : u_T := fun k => match k with
  | 0 => ("MountYard$FileList", "numbers", "[I", true)
  | _ => ("MountYard$FileList", "count", "I", false)
def tyX1 : Nat → FieldType := fun k => match k with
  | 0 => .array .int
  | _ => .int
abbrev wsX10 : List Cond := u_ws RX1 TX1 2
theorem nmX1 : ∀ a, a < 2 → ∀ b, b < 2 → a ≠ b → (TX1 a).2.1 ≠ (TX1 b).2.1 := by decide +kernel
theorem tyX1_ok : ∀ k, k < 2 → parseFieldDescriptor (TX1 k).2.2.1 = some (tyX1 k) := by decide +kernel
def RX2 : String := "MountYard$Frame"
def TX2 : u_T := fun k => match k with
  | _ => ("MountYard$Frame", "row", "LMountYard$ByteRow;", true)
def tyX2 : Nat → FieldType := fun k => match k with
  | _ => .object "MountYard$ByteRow"
abbrev wsX20 : List Cond := u_ws RX2 TX2 1
theorem nmX2 : ∀ a, a < 1 → ∀ b, b < 1 → a ≠ b → (TX2 a).2.1 ≠ (TX2 b).2.1 := by decide +kernel
theorem tyX2_ok : ∀ k, k < 1 → parseFieldDescriptor (TX2 k).2.2.1 = some (tyX2 k) := by decide +kernel
def RX3 : String := "MountYard$Handle"
def TX3 : u_T := fun k => match k with
  | 0 => ("MountYard$Handle", "used", "Z", false)
  | 1 => ("MountYard$Handle", "number", "I", false)
  | 2 => ("MountYard$Handle", "file", "I", false)
  | 3 => ("MountYard$Handle", "reading", "Z", false)
  | 4 => ("MountYard$Handle", "writing", "Z", false)
  | 5 => ("MountYard$Handle", "told", "J", false)
  | _ => ("MountYard$Handle", "lastTold", "I", false)
def tyX3 : Nat → FieldType := fun k => match k with
  | 0 => .boolean
  | 1 => .int
  | 2 => .int
  | 3 => .boolean
  | 4 => .boolean
  | 5 => .long
  | _ => .int
abbrev wsX30 : List Cond := u_ws RX3 TX3 7
theorem nmX3 : ∀ a, a < 7 → ∀ b, b < 7 → a ≠ b → (TX3 a).2.1 ≠ (TX3 b).2.1 := by decide +kernel
theorem tyX3_ok : ∀ k, k < 7 → parseFieldDescriptor (TX3 k).2.2.1 = some (tyX3 k) := by decide +kernel
def RX4 : String := "MountYard$HandleSet"
def TX4 : u_T := fun k => match k with
  | _ => ("MountYard$HandleSet", "slots", "[LMountYard$Handle;", true)
def tyX4 : Nat → FieldType := fun k => match k with
  | _ => .array (.object "MountYard$Handle")
abbrev wsX40 : List Cond := u_ws RX4 TX4 1
theorem nmX4 : ∀ a, a < 1 → ∀ b, b < 1 → a ≠ b → (TX4 a).2.1 ≠ (TX4 b).2.1 := by decide +kernel
theorem tyX4_ok : ∀ k, k < 1 → parseFieldDescriptor (TX4 k).2.2.1 = some (tyX4 k) := by decide +kernel
def RX5 : String := "MountYard$Node"
def TX5 : u_T := fun k => match k with
  | 0 => ("MountYard$Node", "number", "I", true)
  | 1 => ("MountYard$Node", "content", "LMountYard$ByteRow;", true)
  | 2 => ("MountYard$Node", "parent", "I", false)
  | 3 => ("MountYard$Node", "name", "I", false)
  | 4 => ("MountYard$Node", "rights", "I", false)
  | 5 => ("MountYard$Node", "version", "I", false)
  | 6 => ("MountYard$Node", "directory", "Z", false)
  | _ => ("MountYard$Node", "gone", "Z", false)
def tyX5 : Nat → FieldType := fun k => match k with
  | 0 => .int
  | 1 => .object "MountYard$ByteRow"
  | 2 => .int
  | 3 => .int
  | 4 => .int
  | 5 => .int
  | 6 => .boolean
  | _ => .boolean
abbrev wsX50 : List Cond := u_ws RX5 TX5 8
theorem nmX5 : ∀ a, a < 8 → ∀ b, b < 8 → a ≠ b → (TX5 a).2.1 ≠ (TX5 b).2.1 := by decide +kernel
theorem tyX5_ok : ∀ k, k < 8 → parseFieldDescriptor (TX5 k).2.2.1 = some (tyX5 k) := by decide +kernel
def RX6 : String := "MountYard$Processes"
def TX6 : u_T := fun k => match k with
  | 0 => ("MountYard$Processes", "tree", "LMountYard$Tree;", true)
  | 1 => ("MountYard$Processes", "tables", "[LMountYard$Table;", true)
  | 2 => ("MountYard$Processes", "tableOf", "[I", true)
  | 3 => ("MountYard$Processes", "wayA", "LMountYard$Route;", true)
  | 4 => ("MountYard$Processes", "wayB", "LMountYard$Route;", true)
  | _ => ("MountYard$Processes", "scratch", "LMountYard$FileList;", true)
def tyX6 : Nat → FieldType := fun k => match k with
  | 0 => .object "MountYard$Tree"
  | 1 => .array (.object "MountYard$Table")
  | 2 => .array .int
  | 3 => .object "MountYard$Route"
  | 4 => .object "MountYard$Route"
  | _ => .object "MountYard$FileList"
abbrev wsX60 : List Cond := u_ws RX6 TX6 6
theorem nmX6 : ∀ a, a < 6 → ∀ b, b < 6 → a ≠ b → (TX6 a).2.1 ≠ (TX6 b).2.1 := by decide +kernel
theorem tyX6_ok : ∀ k, k < 6 → parseFieldDescriptor (TX6 k).2.2.1 = some (tyX6 k) := by decide +kernel
def RX7 : String := "MountYard$Route"
def TX7 : u_T := fun k => match k with
  | 0 => ("MountYard$Route", "list", "LMountYard$FileList;", true)
  | 1 => ("MountYard$Route", "words", "[I", true)
  | 2 => ("MountYard$Route", "pieces", "I", false)
  | 3 => ("MountYard$Route", "last", "I", false)
  | _ => ("MountYard$Route", "found", "Z", false)
def tyX7 : Nat → FieldType := fun k => match k with
  | 0 => .object "MountYard$FileList"
  | 1 => .array .int
  | 2 => .int
  | 3 => .int
  | _ => .boolean
abbrev wsX70 : List Cond := u_ws RX7 TX7 5
theorem nmX7 : ∀ a, a < 5 → ∀ b, b < 5 → a ≠ b → (TX7 a).2.1 ≠ (TX7 b).2.1 := by decide +kernel
theorem tyX7_ok : ∀ k, k < 5 → parseFieldDescriptor (TX7 k).2.2.1 = some (tyX7 k) := by decide +kernel
def RX8 : String := "MountYard$Table"
def TX8 : u_T := fun k => match k with
  | 0 => ("MountYard$Table", "keys", "[I", true)
  | 1 => ("MountYard$Table", "lists", "[LMountYard$FileList;", true)
  | _ => ("MountYard$Table", "keyCount", "I", false)
def tyX8 : Nat → FieldType := fun k => match k with
  | 0 => .array .int
  | 1 => .array (.object "MountYard$FileList")
  | _ => .int
abbrev wsX80 : List Cond := u_ws RX8 TX8 3
theorem nmX8 : ∀ a, a < 3 → ∀ b, b < 3 → a ≠ b → (TX8 a).2.1 ≠ (TX8 b).2.1 := by decide +kernel
theorem tyX8_ok : ∀ k, k < 3 → parseFieldDescriptor (TX8 k).2.2.1 = some (tyX8 k) := by decide +kernel
def RX9 : String := "MountYard$Talk"
def TX9 : u_T := fun k => match k with
  | 0 => ("MountYard$Talk", "tree", "LMountYard$Tree;", true)
  | 1 => ("MountYard$Talk", "held", "LMountYard$HandleSet;", true)
  | 2 => ("MountYard$Talk", "request", "LMountYard$Frame;", true)
  | 3 => ("MountYard$Talk", "body", "LMountYard$ByteRow;", true)
  | 4 => ("MountYard$Talk", "begun", "Z", false)
  | _ => ("MountYard$Talk", "limit", "I", false)
def tyX9 : Nat → FieldType := fun k => match k with
  | 0 => .object "MountYard$Tree"
  | 1 => .object "MountYard$HandleSet"
  | 2 => .object "MountYard$Frame"
  | 3 => .object "MountYard$ByteRow"
  | 4 => .boolean
  | _ => .int
abbrev wsX90 : List Cond := u_ws RX9 TX9 6
theorem nmX9 : ∀ a, a < 6 → ∀ b, b < 6 → a ≠ b → (TX9 a).2.1 ≠ (TX9 b).2.1 := by decide +kernel
theorem tyX9_ok : ∀ k, k < 6 → parseFieldDescriptor (TX9 k).2.2.1 = some (tyX9 k) := by decide +kernel
def RX10 : String := "MountYard$Tree"
def TX10 : u_T := fun k => match k with
  | 0 => ("MountYard$Tree", "nodes", "[LMountYard$Node;", true)
  | _ => ("MountYard$Tree", "made", "I", false)
def tyX10 : Nat → FieldType := fun k => match k with
  | 0 => .array (.object "MountYard$Node")
  | _ => .int
abbrev wsX100 : List Cond := u_ws RX10 TX10 2
theorem nmX10 : ∀ a, a < 2 → ∀ b, b < 2 → a ≠ b → (TX10 a).2.1 ≠ (TX10 b).2.1 := by decide +kernel
theorem tyX10_ok : ∀ k, k < 2 → parseFieldDescriptor (TX10 k).2.2.1 = some (tyX10 k) := by decide +kernel
def RX11 : String := "MountYard"
def TX11 : u_T := fun k => match k with
  | 0 => ("MountYard", "incoming", "LMountYard$ByteRow;", true)
  | 1 => ("MountYard", "outgoing", "LMountYard$ByteRow;", true)
  | 2 => ("MountYard", "text", "LMountYard$ByteRow;", true)
  | 3 => ("MountYard", "tree", "LMountYard$Tree;", true)
  | 4 => ("MountYard", "talk", "LMountYard$Talk;", true)
  | _ => ("MountYard", "processes", "LMountYard$Processes;", true)
def tyX11 : Nat → FieldType := fun k => match k with
  | 0 => .object "MountYard$ByteRow"
  | 1 => .object "MountYard$ByteRow"
  | 2 => .object "MountYard$ByteRow"
  | 3 => .object "MountYard$Tree"
  | 4 => .object "MountYard$Talk"
  | _ => .object "MountYard$Processes"
abbrev wsX110 : List Cond := u_ws RX11 TX11 6
theorem nmX11 : ∀ a, a < 6 → ∀ b, b < 6 → a ≠ b → (TX11 a).2.1 ≠ (TX11 b).2.1 := by decide +kernel
theorem tyX11_ok : ∀ k, k < 6 → parseFieldDescriptor (TX11 k).2.2.1 = some (tyX11 k) := by decide +kernel
def RX12 : String := "MountYardModel"
def TX12 : u_T := fun k => match k with
  | 0 => ("MountYardModel", "thrown", "I", false)
  | 1 => ("MountYardModel", "count", "I", false)
  | 2 => ("MountYardModel", "parent", "[I", true)
  | 3 => ("MountYardModel", "version", "[I", true)
  | 4 => ("MountYardModel", "length", "[I", true)
  | 5 => ("MountYardModel", "allowed", "[I", true)
  | 6 => ("MountYardModel", "directory", "[Z", true)
  | 7 => ("MountYardModel", "gone", "[Z", true)
  | 8 => ("MountYardModel", "nameLength", "[I", true)
  | 9 => ("MountYardModel", "name", "[I", true)
  | 10 => ("MountYardModel", "content", "[I", true)
  | 11 => ("MountYardModel", "held", "I", false)
  | 12 => ("MountYardModel", "number", "[I", true)
  | 13 => ("MountYardModel", "file", "[I", true)
  | 14 => ("MountYardModel", "way", "[I", true)
  | 15 => ("MountYardModel", "told", "[J", true)
  | 16 => ("MountYardModel", "lastTold", "[I", true)
  | 17 => ("MountYardModel", "ins", "I", false)
  | 18 => ("MountYardModel", "in", "[I", true)
  | 19 => ("MountYardModel", "outs", "I", false)
  | 20 => ("MountYardModel", "out", "[I", true)
  | 21 => ("MountYardModel", "most", "I", false)
  | 22 => ("MountYardModel", "begun", "Z", false)
  | 23 => ("MountYardModel", "end", "I", false)
  | 24 => ("MountYardModel", "type", "I", false)
  | 25 => ("MountYardModel", "start", "I", false)
  | 26 => ("MountYardModel", "typed", "I", false)
  | 27 => ("MountYardModel", "text", "[I", true)
  | 28 => ("MountYardModel", "pieces", "I", false)
  | 29 => ("MountYardModel", "from", "[I", true)
  | 30 => ("MountYardModel", "to", "[I", true)
  | 31 => ("MountYardModel", "listed", "I", false)
  | 32 => ("MountYardModel", "list", "[I", true)
  | 33 => ("MountYardModel", "last", "I", false)
  | 34 => ("MountYardModel", "tableOf", "[I", true)
  | 35 => ("MountYardModel", "keys", "[I", true)
  | 36 => ("MountYardModel", "key", "[I", true)
  | 37 => ("MountYardModel", "lengths", "[I", true)
  | 38 => ("MountYardModel", "lists", "[I", true)
  | _ => ("MountYardModel", "bound", "[I", true)
def tyX12 : Nat → FieldType := fun k => match k with
  | 0 => .int
  | 1 => .int
  | 2 => .array .int
  | 3 => .array .int
  | 4 => .array .int
  | 5 => .array .int
  | 6 => .array .boolean
  | 7 => .array .boolean
  | 8 => .array .int
  | 9 => .array .int
  | 10 => .array .int
  | 11 => .int
  | 12 => .array .int
  | 13 => .array .int
  | 14 => .array .int
  | 15 => .array .long
  | 16 => .array .int
  | 17 => .int
  | 18 => .array .int
  | 19 => .int
  | 20 => .array .int
  | 21 => .int
  | 22 => .boolean
  | 23 => .int
  | 24 => .int
  | 25 => .int
  | 26 => .int
  | 27 => .array .int
  | 28 => .int
  | 29 => .array .int
  | 30 => .array .int
  | 31 => .int
  | 32 => .array .int
  | 33 => .int
  | 34 => .array .int
  | 35 => .array .int
  | 36 => .array .int
  | 37 => .array .int
  | 38 => .array .int
  | _ => .array .int
abbrev wsX120 : List Cond := u_ws RX12 TX12 40
theorem nmX12 : ∀ a, a < 40 → ∀ b, b < 40 → a ≠ b → (TX12 a).2.1 ≠ (TX12 b).2.1 := by decide +kernel
theorem tyX12_ok : ∀ k, k < 40 → parseFieldDescriptor (TX12 k).2.2.1 = some (tyX12 k) := by decide +kernel
def RL : String := "MountYardLaw"
abbrev vwCl : List vw_C := [(RX0, TX0, 2), (RX1, TX1, 2), (RX2, TX2, 1), (RX3, TX3, 7), (RX4, TX4, 1), (RX5, TX5, 8), (RX6, TX6, 6), (RX7, TX7, 5), (RX8, TX8, 3), (RX9, TX9, 6), (RX10, TX10, 2), (RX11, TX11, 6), (RX12, TX12, 40)]
