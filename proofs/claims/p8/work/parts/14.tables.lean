/-! The tables of this claim's classes for the small machine: printed by wip/whole/gen_tables.py. -/
def RX0 : String := "Specialiser$Bodies"
def TX0 : u_T := fun k => match k with
  | 0 => ("Specialiser$Bodies", "trees", "LSpecialiser$Trees;", true)
  | 1 => ("Specialiser$Bodies", "roots", "LSpecialiser$Row;", true)
  | 2 => ("Specialiser$Bodies", "params", "LSpecialiser$Row;", true)
  | _ => ("Specialiser$Bodies", "count", "I", false)
def tyX0 : Nat → FieldType := fun k => match k with
  | 0 => .object "Specialiser$Trees"
  | 1 => .object "Specialiser$Row"
  | 2 => .object "Specialiser$Row"
  | _ => .int
theorem nmX0 : ∀ a, a < 4 → ∀ b, b < 4 → a ≠ b → (TX0 a).2.1 ≠ (TX0 b).2.1 := by decide +kernel
theorem tyX0_ok : ∀ k, k < 4 → parseFieldDescriptor (TX0 k).2.2.1 = some (tyX0 k) := by decide +kernel
def RX1 : String := "Specialiser$LongRow"
def TX1 : u_T := fun k => match k with
  | _ => ("Specialiser$LongRow", "cells", "[J", true)
def tyX1 : Nat → FieldType := fun k => match k with
  | _ => .array .long
theorem nmX1 : ∀ a, a < 1 → ∀ b, b < 1 → a ≠ b → (TX1 a).2.1 ≠ (TX1 b).2.1 := by decide +kernel
theorem tyX1_ok : ∀ k, k < 1 → parseFieldDescriptor (TX1 k).2.2.1 = some (tyX1 k) := by decide +kernel
def RX2 : String := "Specialiser$Maker"
def TX2 : u_T := fun k => match k with
  | 0 => ("Specialiser$Maker", "runner", "LSpecialiser$Runner;", true)
  | 1 => ("Specialiser$Maker", "program", "LSpecialiser$Bodies;", false)
  | 2 => ("Specialiser$Maker", "text", "LSpecialiser$Trees;", false)
  | 3 => ("Specialiser$Maker", "versions", "LSpecialiser$Versions;", false)
  | 4 => ("Specialiser$Maker", "rests", "LSpecialiser$Trees;", false)
  | 5 => ("Specialiser$Maker", "areNumbers", "LSpecialiser$Row;", true)
  | 6 => ("Specialiser$Maker", "meanings", "LSpecialiser$Row;", true)
  | 7 => ("Specialiser$Maker", "wanted", "LSpecialiser$Row;", true)
  | 8 => ("Specialiser$Maker", "gone", "I", false)
  | 9 => ("Specialiser$Maker", "tried", "I", false)
  | _ => ("Specialiser$Maker", "triedWell", "I", false)
def tyX2 : Nat → FieldType := fun k => match k with
  | 0 => .object "Specialiser$Runner"
  | 1 => .object "Specialiser$Bodies"
  | 2 => .object "Specialiser$Trees"
  | 3 => .object "Specialiser$Versions"
  | 4 => .object "Specialiser$Trees"
  | 5 => .object "Specialiser$Row"
  | 6 => .object "Specialiser$Row"
  | 7 => .object "Specialiser$Row"
  | 8 => .int
  | 9 => .int
  | _ => .int
theorem nmX2 : ∀ a, a < 11 → ∀ b, b < 11 → a ≠ b → (TX2 a).2.1 ≠ (TX2 b).2.1 := by decide +kernel
theorem tyX2_ok : ∀ k, k < 11 → parseFieldDescriptor (TX2 k).2.2.1 = some (tyX2 k) := by decide +kernel
def RX3 : String := "Specialiser$Printer"
def TX3 : u_T := fun k => match k with
  | 0 => ("Specialiser$Printer", "bytes", "LSpecialiser$Row;", true)
  | 1 => ("Specialiser$Printer", "letNumbers", "LSpecialiser$Row;", true)
  | 2 => ("Specialiser$Printer", "versions", "LSpecialiser$Versions;", false)
  | 3 => ("Specialiser$Printer", "rests", "LSpecialiser$Trees;", false)
  | 4 => ("Specialiser$Printer", "writing", "Z", false)
  | 5 => ("Specialiser$Printer", "length", "I", false)
  | 6 => ("Specialiser$Printer", "params", "I", false)
  | _ => ("Specialiser$Printer", "lets", "I", false)
def tyX3 : Nat → FieldType := fun k => match k with
  | 0 => .object "Specialiser$Row"
  | 1 => .object "Specialiser$Row"
  | 2 => .object "Specialiser$Versions"
  | 3 => .object "Specialiser$Trees"
  | 4 => .boolean
  | 5 => .int
  | 6 => .int
  | _ => .int
theorem nmX3 : ∀ a, a < 8 → ∀ b, b < 8 → a ≠ b → (TX3 a).2.1 ≠ (TX3 b).2.1 := by decide +kernel
theorem tyX3_ok : ∀ k, k < 8 → parseFieldDescriptor (TX3 k).2.2.1 = some (tyX3 k) := by decide +kernel
def RX4 : String := "Specialiser$Reader"
def TX4 : u_T := fun k => match k with
  | 0 => ("Specialiser$Reader", "tokens", "LSpecialiser$Tokens;", true)
  | 1 => ("Specialiser$Reader", "text", "LSpecialiser$Bodies;", false)
  | 2 => ("Specialiser$Reader", "trees", "LSpecialiser$Trees;", false)
  | 3 => ("Specialiser$Reader", "index", "I", false)
  | 4 => ("Specialiser$Reader", "ahead", "I", false)
  | 5 => ("Specialiser$Reader", "fault", "I", false)
  | 6 => ("Specialiser$Reader", "faultToken", "I", false)
  | 7 => ("Specialiser$Reader", "functionNames", "LSpecialiser$LongRow;", true)
  | 8 => ("Specialiser$Reader", "nameCount", "I", false)
  | 9 => ("Specialiser$Reader", "scopeNames", "LSpecialiser$LongRow;", true)
  | 10 => ("Specialiser$Reader", "scopeSlots", "LSpecialiser$Row;", true)
  | 11 => ("Specialiser$Reader", "scopeCount", "I", false)
  | _ => ("Specialiser$Reader", "missing", "I", false)
def tyX4 : Nat → FieldType := fun k => match k with
  | 0 => .object "Specialiser$Tokens"
  | 1 => .object "Specialiser$Bodies"
  | 2 => .object "Specialiser$Trees"
  | 3 => .int
  | 4 => .int
  | 5 => .int
  | 6 => .int
  | 7 => .object "Specialiser$LongRow"
  | 8 => .int
  | 9 => .object "Specialiser$LongRow"
  | 10 => .object "Specialiser$Row"
  | 11 => .int
  | _ => .int
theorem nmX4 : ∀ a, a < 13 → ∀ b, b < 13 → a ≠ b → (TX4 a).2.1 ≠ (TX4 b).2.1 := by decide +kernel
theorem tyX4_ok : ∀ k, k < 13 → parseFieldDescriptor (TX4 k).2.2.1 = some (tyX4 k) := by decide +kernel
def RX5 : String := "Specialiser$Row"
def TX5 : u_T := fun k => match k with
  | _ => ("Specialiser$Row", "cells", "[I", true)
def tyX5 : Nat → FieldType := fun k => match k with
  | _ => .array .int
theorem nmX5 : ∀ a, a < 1 → ∀ b, b < 1 → a ≠ b → (TX5 a).2.1 ≠ (TX5 b).2.1 := by decide +kernel
theorem tyX5_ok : ∀ k, k < 1 → parseFieldDescriptor (TX5 k).2.2.1 = some (tyX5 k) := by decide +kernel
def RX6 : String := "Specialiser$Runner"
def TX6 : u_T := fun k => match k with
  | 0 => ("Specialiser$Runner", "nodes", "LSpecialiser$Row;", true)
  | 1 => ("Specialiser$Runner", "turns", "LSpecialiser$Row;", true)
  | 2 => ("Specialiser$Runner", "lefts", "LSpecialiser$Row;", true)
  | 3 => ("Specialiser$Runner", "frames", "LSpecialiser$Row;", true)
  | 4 => ("Specialiser$Runner", "slots", "LSpecialiser$Row;", true)
  | 5 => ("Specialiser$Runner", "bodies", "LSpecialiser$Bodies;", false)
  | 6 => ("Specialiser$Runner", "trees", "LSpecialiser$Trees;", false)
  | 7 => ("Specialiser$Runner", "limit", "I", false)
  | 8 => ("Specialiser$Runner", "depth", "I", false)
  | 9 => ("Specialiser$Runner", "steps", "I", false)
  | 10 => ("Specialiser$Runner", "deepest", "I", false)
  | 11 => ("Specialiser$Runner", "result", "I", false)
  | _ => ("Specialiser$Runner", "end", "I", false)
def tyX6 : Nat → FieldType := fun k => match k with
  | 0 => .object "Specialiser$Row"
  | 1 => .object "Specialiser$Row"
  | 2 => .object "Specialiser$Row"
  | 3 => .object "Specialiser$Row"
  | 4 => .object "Specialiser$Row"
  | 5 => .object "Specialiser$Bodies"
  | 6 => .object "Specialiser$Trees"
  | 7 => .int
  | 8 => .int
  | 9 => .int
  | 10 => .int
  | 11 => .int
  | _ => .int
theorem nmX6 : ∀ a, a < 13 → ∀ b, b < 13 → a ≠ b → (TX6 a).2.1 ≠ (TX6 b).2.1 := by decide +kernel
theorem tyX6_ok : ∀ k, k < 13 → parseFieldDescriptor (TX6 k).2.2.1 = some (tyX6 k) := by decide +kernel
def RX7 : String := "Specialiser$Tokens"
def TX7 : u_T := fun k => match k with
  | 0 => ("Specialiser$Tokens", "bytes", "LSpecialiser$Row;", true)
  | 1 => ("Specialiser$Tokens", "kinds", "LSpecialiser$Row;", true)
  | 2 => ("Specialiser$Tokens", "starts", "LSpecialiser$Row;", true)
  | 3 => ("Specialiser$Tokens", "values", "LSpecialiser$LongRow;", true)
  | 4 => ("Specialiser$Tokens", "length", "I", false)
  | _ => ("Specialiser$Tokens", "count", "I", false)
def tyX7 : Nat → FieldType := fun k => match k with
  | 0 => .object "Specialiser$Row"
  | 1 => .object "Specialiser$Row"
  | 2 => .object "Specialiser$Row"
  | 3 => .object "Specialiser$LongRow"
  | 4 => .int
  | _ => .int
theorem nmX7 : ∀ a, a < 6 → ∀ b, b < 6 → a ≠ b → (TX7 a).2.1 ≠ (TX7 b).2.1 := by decide +kernel
theorem tyX7_ok : ∀ k, k < 6 → parseFieldDescriptor (TX7 k).2.2.1 = some (tyX7 k) := by decide +kernel
def RX8 : String := "Specialiser$Trees"
def TX8 : u_T := fun k => match k with
  | 0 => ("Specialiser$Trees", "kinds", "LSpecialiser$Row;", true)
  | 1 => ("Specialiser$Trees", "values", "LSpecialiser$Row;", true)
  | 2 => ("Specialiser$Trees", "counts", "LSpecialiser$Row;", true)
  | 3 => ("Specialiser$Trees", "parts", "LSpecialiser$Row;", true)
  | 4 => ("Specialiser$Trees", "sizes", "LSpecialiser$Row;", true)
  | 5 => ("Specialiser$Trees", "lets", "LSpecialiser$Row;", true)
  | _ => ("Specialiser$Trees", "count", "I", false)
def tyX8 : Nat → FieldType := fun k => match k with
  | 0 => .object "Specialiser$Row"
  | 1 => .object "Specialiser$Row"
  | 2 => .object "Specialiser$Row"
  | 3 => .object "Specialiser$Row"
  | 4 => .object "Specialiser$Row"
  | 5 => .object "Specialiser$Row"
  | _ => .int
theorem nmX8 : ∀ a, a < 7 → ∀ b, b < 7 → a ≠ b → (TX8 a).2.1 ≠ (TX8 b).2.1 := by decide +kernel
theorem tyX8_ok : ∀ k, k < 7 → parseFieldDescriptor (TX8 k).2.2.1 = some (tyX8 k) := by decide +kernel
def RX9 : String := "Specialiser$Versions"
def TX9 : u_T := fun k => match k with
  | 0 => ("Specialiser$Versions", "bodies", "LSpecialiser$Bodies;", true)
  | 1 => ("Specialiser$Versions", "functions", "LSpecialiser$Row;", true)
  | 2 => ("Specialiser$Versions", "masks", "LSpecialiser$Row;", true)
  | _ => ("Specialiser$Versions", "numbers", "LSpecialiser$Row;", true)
def tyX9 : Nat → FieldType := fun k => match k with
  | 0 => .object "Specialiser$Bodies"
  | 1 => .object "Specialiser$Row"
  | 2 => .object "Specialiser$Row"
  | _ => .object "Specialiser$Row"
theorem nmX9 : ∀ a, a < 4 → ∀ b, b < 4 → a ≠ b → (TX9 a).2.1 ≠ (TX9 b).2.1 := by decide +kernel
theorem tyX9_ok : ∀ k, k < 4 → parseFieldDescriptor (TX9 k).2.2.1 = some (tyX9 k) := by decide +kernel
def RX10 : String := "Specialiser"
def TX10 : u_T := fun k => match k with
  | 0 => ("Specialiser", "tape", "LSpecialiser$Row;", true)
  | 1 => ("Specialiser", "tapeLength", "I", false)
  | 2 => ("Specialiser", "faultPlace", "I", false)
  | 3 => ("Specialiser", "tokens", "LSpecialiser$Tokens;", true)
  | 4 => ("Specialiser", "reader", "LSpecialiser$Reader;", true)
  | 5 => ("Specialiser", "program", "LSpecialiser$Bodies;", false)
  | 6 => ("Specialiser", "spareProgram", "LSpecialiser$Bodies;", false)
  | 7 => ("Specialiser", "versions", "LSpecialiser$Versions;", false)
  | 8 => ("Specialiser", "spareVersions", "LSpecialiser$Versions;", false)
  | 9 => ("Specialiser", "runner", "LSpecialiser$Runner;", true)
  | 10 => ("Specialiser", "maker", "LSpecialiser$Maker;", true)
  | 11 => ("Specialiser", "knownNumbers", "LSpecialiser$Row;", true)
  | 12 => ("Specialiser", "knownMask", "I", false)
  | 13 => ("Specialiser", "toldNumbers", "LSpecialiser$Row;", true)
  | 14 => ("Specialiser", "outBytes", "LSpecialiser$Row;", true)
  | 15 => ("Specialiser", "outLength", "I", false)
  | 16 => ("Specialiser", "printer", "LSpecialiser$Printer;", true)
  | 17 => ("Specialiser", "givenNumbers", "LSpecialiser$Row;", true)
  | 18 => ("Specialiser", "givenCount", "I", false)
  | _ => ("Specialiser", "ranNumbers", "LSpecialiser$Row;", true)
def tyX10 : Nat → FieldType := fun k => match k with
  | 0 => .object "Specialiser$Row"
  | 1 => .int
  | 2 => .int
  | 3 => .object "Specialiser$Tokens"
  | 4 => .object "Specialiser$Reader"
  | 5 => .object "Specialiser$Bodies"
  | 6 => .object "Specialiser$Bodies"
  | 7 => .object "Specialiser$Versions"
  | 8 => .object "Specialiser$Versions"
  | 9 => .object "Specialiser$Runner"
  | 10 => .object "Specialiser$Maker"
  | 11 => .object "Specialiser$Row"
  | 12 => .int
  | 13 => .object "Specialiser$Row"
  | 14 => .object "Specialiser$Row"
  | 15 => .int
  | 16 => .object "Specialiser$Printer"
  | 17 => .object "Specialiser$Row"
  | 18 => .int
  | _ => .object "Specialiser$Row"
theorem nmX10 : ∀ a, a < 20 → ∀ b, b < 20 → a ≠ b → (TX10 a).2.1 ≠ (TX10 b).2.1 := by decide +kernel
theorem tyX10_ok : ∀ k, k < 20 → parseFieldDescriptor (TX10 k).2.2.1 = some (tyX10 k) := by decide +kernel
def RX11 : String := "SpecialiserModel"
def TX11 : u_T := fun k => match k with
  | 0 => ("SpecialiserModel", "thrown", "I", false)
  | 1 => ("SpecialiserModel", "tape", "[I", true)
  | 2 => ("SpecialiserModel", "taped", "I", false)
  | 3 => ("SpecialiserModel", "at", "I", false)
  | 4 => ("SpecialiserModel", "token", "I", false)
  | 5 => ("SpecialiserModel", "tokenAt", "I", false)
  | 6 => ("SpecialiserModel", "tokenCount", "I", false)
  | 7 => ("SpecialiserModel", "key", "J", false)
  | 8 => ("SpecialiserModel", "amount", "I", false)
  | 9 => ("SpecialiserModel", "fault", "I", false)
  | 10 => ("SpecialiserModel", "faultAt", "I", false)
  | 11 => ("SpecialiserModel", "fnKey", "[J", true)
  | 12 => ("SpecialiserModel", "fnParams", "[I", true)
  | 13 => ("SpecialiserModel", "fnNames", "[I", true)
  | 14 => ("SpecialiserModel", "fnBody", "[I", true)
  | 15 => ("SpecialiserModel", "fnSize", "[I", true)
  | 16 => ("SpecialiserModel", "nameKey", "[J", true)
  | 17 => ("SpecialiserModel", "xKind", "[I", true)
  | 18 => ("SpecialiserModel", "xA", "[I", true)
  | 19 => ("SpecialiserModel", "xB", "[I", true)
  | 20 => ("SpecialiserModel", "xC", "[I", true)
  | 21 => ("SpecialiserModel", "xAt", "[I", true)
  | 22 => ("SpecialiserModel", "xKey", "[J", true)
  | 23 => ("SpecialiserModel", "argOf", "[I", true)
  | 24 => ("SpecialiserModel", "bankFns", "[I", true)
  | 25 => ("SpecialiserModel", "bank", "I", false)
  | 26 => ("SpecialiserModel", "fns", "I", false)
  | 27 => ("SpecialiserModel", "nodes", "I", false)
  | 28 => ("SpecialiserModel", "argsLaid", "I", false)
  | 29 => ("SpecialiserModel", "waiting", "[I", true)
  | 30 => ("SpecialiserModel", "waits", "I", false)
  | 31 => ("SpecialiserModel", "f", "I", false)
  | 32 => ("SpecialiserModel", "sy", "[I", true)
  | 33 => ("SpecialiserModel", "sa", "[I", true)
  | 34 => ("SpecialiserModel", "sw", "[I", true)
  | 35 => ("SpecialiserModel", "tasks", "I", false)
  | 36 => ("SpecialiserModel", "made", "[I", true)
  | 37 => ("SpecialiserModel", "makes", "I", false)
  | 38 => ("SpecialiserModel", "others", "I", false)
  | 39 => ("SpecialiserModel", "scope", "[I", true)
  | 40 => ("SpecialiserModel", "scoped", "I", false)
  | 41 => ("SpecialiserModel", "isProgram", "Z", false)
  | 42 => ("SpecialiserModel", "here", "I", false)
  | 43 => ("SpecialiserModel", "values", "[I", true)
  | 44 => ("SpecialiserModel", "valued", "I", false)
  | 45 => ("SpecialiserModel", "envs", "[I", true)
  | 46 => ("SpecialiserModel", "env", "I", false)
  | 47 => ("SpecialiserModel", "out", "I", false)
  | 48 => ("SpecialiserModel", "stepped", "I", false)
  | 49 => ("SpecialiserModel", "most", "I", false)
  | 50 => ("SpecialiserModel", "depth", "I", false)
  | 51 => ("SpecialiserModel", "deepest", "I", false)
  | 52 => ("SpecialiserModel", "end", "I", false)
  | 53 => ("SpecialiserModel", "vFn", "[I", true)
  | 54 => ("SpecialiserModel", "vMask", "[I", true)
  | 55 => ("SpecialiserModel", "vKnown", "[I", true)
  | 56 => ("SpecialiserModel", "vBody", "[I", true)
  | 57 => ("SpecialiserModel", "vSize", "[I", true)
  | 58 => ("SpecialiserModel", "vLets", "[I", true)
  | 59 => ("SpecialiserModel", "versions", "I", false)
  | 60 => ("SpecialiserModel", "expressions", "I", false)
  | 61 => ("SpecialiserModel", "tried", "I", false)
  | 62 => ("SpecialiserModel", "worked", "I", false)
  | 63 => ("SpecialiserModel", "vBank", "I", false)
  | 64 => ("SpecialiserModel", "mBank", "I", false)
  | 65 => ("SpecialiserModel", "mMany", "I", false)
  | 66 => ("SpecialiserModel", "mNodes", "I", false)
  | 67 => ("SpecialiserModel", "mArgs", "I", false)
  | 68 => ("SpecialiserModel", "mTried", "I", false)
  | 69 => ("SpecialiserModel", "mWorked", "I", false)
  | 70 => ("SpecialiserModel", "mLets", "I", false)
  | 71 => ("SpecialiserModel", "mGone", "I", false)
  | 72 => ("SpecialiserModel", "gone", "I", false)
  | 73 => ("SpecialiserModel", "tooMany", "Z", false)
  | 74 => ("SpecialiserModel", "ty", "[I", true)
  | 75 => ("SpecialiserModel", "tx", "[I", true)
  | 76 => ("SpecialiserModel", "todo", "I", false)
  | 77 => ("SpecialiserModel", "isNumber", "[Z", true)
  | 78 => ("SpecialiserModel", "became", "[I", true)
  | 79 => ("SpecialiserModel", "becomes", "I", false)
  | 80 => ("SpecialiserModel", "nameIsNumber", "[Z", true)
  | 81 => ("SpecialiserModel", "nameIs", "[I", true)
  | 82 => ("SpecialiserModel", "knownNow", "[I", true)
  | 83 => ("SpecialiserModel", "given4", "[I", true)
  | 84 => ("SpecialiserModel", "isKnown", "[Z", true)
  | 85 => ("SpecialiserModel", "known", "[I", true)
  | 86 => ("SpecialiserModel", "printed", "[I", true)
  | 87 => ("SpecialiserModel", "print", "[I", true)
  | 88 => ("SpecialiserModel", "prints", "I", false)
  | 89 => ("SpecialiserModel", "outSize", "I", false)
  | 90 => ("SpecialiserModel", "tl", "[J", true)
  | 91 => ("SpecialiserModel", "letNumber", "[I", true)
  | 92 => ("SpecialiserModel", "lets", "I", false)
  | 93 => ("SpecialiserModel", "params", "I", false)
  | 94 => ("SpecialiserModel", "gift", "[I", true)
  | 95 => ("SpecialiserModel", "given", "I", false)
  | 96 => ("SpecialiserModel", "gave", "I", false)
  | 97 => ("SpecialiserModel", "gaveSteps", "I", false)
  | _ => ("SpecialiserModel", "gaveDepth", "I", false)
def tyX11 : Nat → FieldType := fun k => match k with
  | 0 => .int
  | 1 => .array .int
  | 2 => .int
  | 3 => .int
  | 4 => .int
  | 5 => .int
  | 6 => .int
  | 7 => .long
  | 8 => .int
  | 9 => .int
  | 10 => .int
  | 11 => .array .long
  | 12 => .array .int
  | 13 => .array .int
  | 14 => .array .int
  | 15 => .array .int
  | 16 => .array .long
  | 17 => .array .int
  | 18 => .array .int
  | 19 => .array .int
  | 20 => .array .int
  | 21 => .array .int
  | 22 => .array .long
  | 23 => .array .int
  | 24 => .array .int
  | 25 => .int
  | 26 => .int
  | 27 => .int
  | 28 => .int
  | 29 => .array .int
  | 30 => .int
  | 31 => .int
  | 32 => .array .int
  | 33 => .array .int
  | 34 => .array .int
  | 35 => .int
  | 36 => .array .int
  | 37 => .int
  | 38 => .int
  | 39 => .array .int
  | 40 => .int
  | 41 => .boolean
  | 42 => .int
  | 43 => .array .int
  | 44 => .int
  | 45 => .array .int
  | 46 => .int
  | 47 => .int
  | 48 => .int
  | 49 => .int
  | 50 => .int
  | 51 => .int
  | 52 => .int
  | 53 => .array .int
  | 54 => .array .int
  | 55 => .array .int
  | 56 => .array .int
  | 57 => .array .int
  | 58 => .array .int
  | 59 => .int
  | 60 => .int
  | 61 => .int
  | 62 => .int
  | 63 => .int
  | 64 => .int
  | 65 => .int
  | 66 => .int
  | 67 => .int
  | 68 => .int
  | 69 => .int
  | 70 => .int
  | 71 => .int
  | 72 => .int
  | 73 => .boolean
  | 74 => .array .int
  | 75 => .array .int
  | 76 => .int
  | 77 => .array .boolean
  | 78 => .array .int
  | 79 => .int
  | 80 => .array .boolean
  | 81 => .array .int
  | 82 => .array .int
  | 83 => .array .int
  | 84 => .array .boolean
  | 85 => .array .int
  | 86 => .array .int
  | 87 => .array .int
  | 88 => .int
  | 89 => .int
  | 90 => .array .long
  | 91 => .array .int
  | 92 => .int
  | 93 => .int
  | 94 => .array .int
  | 95 => .int
  | 96 => .int
  | 97 => .int
  | _ => .int
theorem nmX11 : ∀ a, a < 99 → ∀ b, b < 99 → a ≠ b → (TX11 a).2.1 ≠ (TX11 b).2.1 := by decide +kernel
theorem tyX11_ok : ∀ k, k < 99 → parseFieldDescriptor (TX11 k).2.2.1 = some (tyX11 k) := by decide +kernel
abbrev vwCl : List vw_C := [(RX0, TX0, 4), (RX1, TX1, 1), (RX2, TX2, 11), (RX3, TX3, 8), (RX4, TX4, 13), (RX5, TX5, 1), (RX6, TX6, 13), (RX7, TX7, 6), (RX8, TX8, 7), (RX9, TX9, 4), (RX10, TX10, 20), (RX11, TX11, 99)]
def tb_m : List mi_M := [
  (⟨"SpecialiserLaw", "law", "([I)Z"⟩, code, 7, (some .boolean), []),
  (⟨"Specialiser", "<init>", "()V"⟩, prog_1_method_1_code, 1, none, []),
  (⟨"Specialiser$Row", "<init>", "(I)V"⟩, prog_7_method_1_code, 2, none, []),
  (⟨"Specialiser$Tokens", "<init>", "(LSpecialiser$Row;)V"⟩, prog_9_method_1_code, 2, none, []),
  (⟨"Specialiser$LongRow", "<init>", "(I)V"⟩, prog_3_method_1_code, 2, none, []),
  (⟨"Specialiser$Bodies", "<init>", "(II)V"⟩, prog_2_method_1_code, 3, none, []),
  (⟨"Specialiser$Trees", "<init>", "(I)V"⟩, prog_10_method_1_code, 2, none, []),
  (⟨"Specialiser$Reader", "<init>", "(LSpecialiser$Tokens;LSpecialiser$Bodies;)V"⟩, prog_6_method_1_code, 3, none, []),
  (⟨"Specialiser$Bodies", "trees", "()LSpecialiser$Trees;"⟩, prog_2_method_7_code, 1, (some (.object "Specialiser$Trees")), []),
  (⟨"Specialiser$Versions", "<init>", "()V"⟩, prog_11_method_1_code, 1, none, []),
  (⟨"Specialiser$Runner", "<init>", "(LSpecialiser$Bodies;)V"⟩, prog_8_method_1_code, 2, none, []),
  (⟨"Specialiser$Maker", "<init>", "(LSpecialiser$Runner;LSpecialiser$Bodies;LSpecialiser$Versions;)V"⟩, prog_4_method_1_code, 4, none, []),
  (⟨"Specialiser$Versions", "bodies", "()LSpecialiser$Bodies;"⟩, prog_11_method_7_code, 1, (some (.object "Specialiser$Bodies")), []),
  (⟨"Specialiser$Printer", "<init>", "(LSpecialiser$Row;LSpecialiser$Versions;)V"⟩, prog_5_method_1_code, 3, none, []),
  (⟨"Specialiser", "read", "()I"⟩, prog_1_method_5_code, 3, (some .int), []),
  (⟨"Specialiser$Tokens", "scan", "(I)V"⟩, prog_9_method_5_code, 3, none, []),
  (⟨"Specialiser$Row", "put", "(II)V"⟩, prog_7_method_3_code, 3, none, []),
  (⟨"Specialiser$Tokens", "scanOne", "(I)I"⟩, prog_9_method_6_code, 3, (some .int), []),
  (⟨"Specialiser$Row", "at", "(I)I"⟩, prog_7_method_2_code, 2, (some .int), []),
  (⟨"Specialiser$Tokens", "isLetter", "(I)Z"⟩, prog_9_method_9_code, 1, (some .boolean), []),
  (⟨"Specialiser$Tokens", "isDigit", "(I)Z"⟩, prog_9_method_10_code, 1, (some .boolean), []),
  (⟨"Specialiser$Tokens", "scanRow", "(I)I"⟩, prog_9_method_7_code, 10, (some .int), []),
  (⟨"Specialiser$Tokens", "wordKind", "(J)I"⟩, prog_9_method_11_code, 2, (some .int), []),
  (⟨"Specialiser$Tokens", "keep", "(IJI)I"⟩, prog_9_method_8_code, 5, (some .int), []),
  (⟨"Specialiser$LongRow", "put", "(IJ)V"⟩, prog_3_method_3_code, 4, none, []),
  (⟨"Specialiser$Tokens", "signKind", "(I)I"⟩, prog_9_method_12_code, 1, (some .int), []),
  (⟨"java/lang/Math", "max", "(II)I"⟩, prog_19_method_65_code, 2, (some .int), []),
  (⟨"Specialiser$Reader", "take", "(LSpecialiser$Bodies;)I"⟩, prog_6_method_3_code, 3, (some .int), []),
  (⟨"Specialiser$Bodies", "clear", "()V"⟩, prog_2_method_2_code, 1, none, []),
  (⟨"Specialiser$Trees", "clear", "()V"⟩, prog_10_method_2_code, 1, none, []),
  (⟨"Specialiser$Tokens", "kind", "(I)I"⟩, prog_9_method_2_code, 2, (some .int), []),
  (⟨"Specialiser$Reader", "takeFunction", "()V"⟩, prog_6_method_8_code, 4, none, []),
  (⟨"Specialiser$Bodies", "count", "()I"⟩, prog_2_method_6_code, 1, (some .int), []),
  (⟨"Specialiser$Tokens", "value", "(I)J"⟩, prog_9_method_4_code, 2, (some .long), []),
  (⟨"Specialiser$LongRow", "at", "(I)J"⟩, prog_3_method_2_code, 2, (some .long), []),
  (⟨"Specialiser$LongRow", "lastOf", "(JI)I"⟩, prog_3_method_4_code, 5, (some .int), []),
  (⟨"Specialiser$Reader", "takeNewName", "(ZZ)J"⟩, prog_6_method_7_code, 5, (some .long), []),
  (⟨"Specialiser$Reader", "faultAt", "(II)V"⟩, prog_6_method_4_code, 3, none, []),
  (⟨"Specialiser$Reader", "takeKind", "(I)V"⟩, prog_6_method_6_code, 2, none, []),
  (⟨"Specialiser$Reader", "refuse", "()V"⟩, prog_6_method_5_code, 1, none, []),
  (⟨"Specialiser$Reader", "takeParam", "()V"⟩, prog_6_method_9_code, 4, none, []),
  (⟨"Specialiser$Reader", "enter", "(JI)V"⟩, prog_6_method_10_code, 4, none, []),
  (⟨"Specialiser$Bodies", "add", "(I)I"⟩, prog_2_method_3_code, 2, (some .int), []),
  (⟨"Specialiser$Reader", "takeE", "(I)I"⟩, prog_6_method_11_code, 2, (some .int), []),
  (⟨"Specialiser$Reader", "refuseWithin", "()V"⟩, prog_6_method_12_code, 1, none, []),
  (⟨"Specialiser$Reader", "takeLet", "(I)I"⟩, prog_6_method_13_code, 6, (some .int), []),
  (⟨"Specialiser$Trees", "open", "(II)I"⟩, prog_10_method_4_code, 4, (some .int), []),
  (⟨"Specialiser$Trees", "append", "(II)V"⟩, prog_10_method_5_code, 4, none, []),
  (⟨"Specialiser$Reader", "takeIf", "(I)I"⟩, prog_6_method_14_code, 3, (some .int), []),
  (⟨"Specialiser$Reader", "takeComparison", "(I)I"⟩, prog_6_method_15_code, 4, (some .int), []),
  (⟨"Specialiser$Reader", "takeSum", "(I)I"⟩, prog_6_method_16_code, 4, (some .int), []),
  (⟨"Specialiser$Reader", "takeProduct", "(I)I"⟩, prog_6_method_17_code, 3, (some .int), []),
  (⟨"Specialiser$Reader", "takeAtom", "(I)I"⟩, prog_6_method_18_code, 3, (some .int), []),
  (⟨"Specialiser$Reader", "takeNumber", "(I)I"⟩, prog_6_method_19_code, 3, (some .int), []),
  (⟨"Specialiser$Reader", "takeCall", "(II)I"⟩, prog_6_method_21_code, 5, (some .int), []),
  (⟨"Specialiser$Reader", "nameAlone", "(I)I"⟩, prog_6_method_20_code, 3, (some .int), []),
  (⟨"Specialiser$Trees", "join", "(III)I"⟩, prog_10_method_6_code, 5, (some .int), []),
  (⟨"Specialiser$Bodies", "setRoot", "(II)V"⟩, prog_2_method_4_code, 3, none, []),
  (⟨"Specialiser$Reader", "leadCalls", "()V"⟩, prog_6_method_22_code, 3, none, []),
  (⟨"Specialiser$Trees", "count", "()I"⟩, prog_10_method_3_code, 1, (some .int), []),
  (⟨"Specialiser$Trees", "kind", "(I)I"⟩, prog_10_method_10_code, 2, (some .int), []),
  (⟨"Specialiser$Trees", "value", "(I)I"⟩, prog_10_method_11_code, 2, (some .int), []),
  (⟨"Specialiser$Reader", "leadCall", "(II)V"⟩, prog_6_method_23_code, 4, none, []),
  (⟨"Specialiser$Trees", "parts", "(I)I"⟩, prog_10_method_12_code, 2, (some .int), []),
  (⟨"Specialiser$Bodies", "params", "(I)I"⟩, prog_2_method_9_code, 2, (some .int), []),
  (⟨"Specialiser$Trees", "lead", "(II)V"⟩, prog_10_method_7_code, 3, none, []),
  (⟨"Specialiser$Reader", "faultPlace", "()I"⟩, prog_6_method_2_code, 1, (some .int), []),
  (⟨"Specialiser$Tokens", "start", "(I)I"⟩, prog_9_method_3_code, 2, (some .int), []),
  (⟨"Specialiser$Versions", "clear", "()V"⟩, prog_11_method_2_code, 1, none, []),
  (⟨"Specialiser", "place", "()I"⟩, prog_1_method_6_code, 1, (some .int), []),
  (⟨"Specialiser", "feed", "(IIIII)I"⟩, prog_1_method_2_code, 6, (some .int), []),
  (⟨"Specialiser", "feedFour", "(I)V"⟩, prog_1_method_3_code, 3, none, []),
  (⟨"Specialiser", "cut", "(I)I"⟩, prog_1_method_4_code, 3, (some .int), []),
  (⟨"Specialiser", "function", "(II)I"⟩, prog_1_method_7_code, 3, (some .int), []),
  (⟨"Specialiser$Bodies", "has", "(I)Z"⟩, prog_2_method_5_code, 2, (some .boolean), []),
  (⟨"Specialiser$Bodies", "expressions", "(I)I"⟩, prog_2_method_11_code, 2, (some .int), []),
  (⟨"Specialiser$Bodies", "root", "(I)I"⟩, prog_2_method_8_code, 2, (some .int), []),
  (⟨"Specialiser$Trees", "size", "(I)I"⟩, prog_10_method_14_code, 2, (some .int), []),
  (⟨"Specialiser$Bodies", "lets", "(I)I"⟩, prog_2_method_12_code, 2, (some .int), []),
  (⟨"Specialiser$Trees", "lets", "(I)I"⟩, prog_10_method_15_code, 2, (some .int), []),
  (⟨"Specialiser", "know", "(II)I"⟩, prog_1_method_8_code, 3, (some .int), []),
  (⟨"java/lang/Integer", "bitCount", "(I)I"⟩, prog_18_method_49_code, 1, (some .int), []),
  (⟨"Specialiser", "make", "(I)I"⟩, prog_1_method_9_code, 3, (some .int), []),
  (⟨"Specialiser$Bodies", "paramMask", "(I)I"⟩, prog_2_method_10_code, 2, (some .int), []),
  (⟨"Specialiser$Versions", "add", "(IILSpecialiser$Row;I)I"⟩, prog_11_method_3_code, 7, (some .int), []),
  (⟨"Specialiser$Versions", "isIn", "(II)Z"⟩, prog_11_method_6_code, 2, (some .boolean), []),
  (⟨"Specialiser$Maker", "fill", "(LSpecialiser$Bodies;LSpecialiser$Versions;)V"⟩, prog_4_method_5_code, 4, none, []),
  (⟨"Specialiser$Versions", "count", "()I"⟩, prog_11_method_8_code, 1, (some .int), []),
  (⟨"Specialiser$Maker", "bindParams", "(I)V"⟩, prog_4_method_6_code, 4, none, []),
  (⟨"Specialiser$Versions", "functionOf", "(I)I"⟩, prog_11_method_9_code, 2, (some .int), []),
  (⟨"Specialiser$Versions", "mask", "(I)I"⟩, prog_11_method_10_code, 2, (some .int), []),
  (⟨"Specialiser$Versions", "number", "(II)I"⟩, prog_11_method_11_code, 3, (some .int), []),
  (⟨"Specialiser$Maker", "bind", "(III)V"⟩, prog_4_method_7_code, 4, none, []),
  (⟨"Specialiser$Maker", "become", "(II)I"⟩, prog_4_method_8_code, 4, (some .int), []),
  (⟨"Specialiser$Maker", "becomeLet", "(II)I"⟩, prog_4_method_12_code, 6, (some .int), []),
  (⟨"Specialiser$Trees", "part", "(II)I"⟩, prog_10_method_13_code, 3, (some .int), []),
  (⟨"Specialiser$Maker", "isNumber", "(I)Z"⟩, prog_4_method_9_code, 2, (some .boolean), []),
  (⟨"Specialiser$Maker", "becomeIf", "(II)I"⟩, prog_4_method_11_code, 5, (some .int), []),
  (⟨"Specialiser$Maker", "becomeCall", "(II)I"⟩, prog_4_method_13_code, 6, (some .int), []),
  (⟨"Specialiser$Maker", "gatherWanted", "(I)I"⟩, prog_4_method_14_code, 5, (some .int), []),
  (⟨"Specialiser$Runner", "work", "(LSpecialiser$Bodies;ILSpecialiser$Row;I)I"⟩, prog_8_method_5_code, 8, (some .int), []),
  (⟨"Specialiser$Runner", "begin", "(II)V"⟩, prog_8_method_6_code, 3, none, []),
  (⟨"Specialiser$Runner", "finish", "(I)V"⟩, prog_8_method_7_code, 2, none, []),
  (⟨"Specialiser$Runner", "slot", "(I)I"⟩, prog_8_method_8_code, 2, (some .int), []),
  (⟨"Specialiser$Runner", "goOnLet", "(II)V"⟩, prog_8_method_9_code, 3, none, []),
  (⟨"Specialiser$Runner", "goOnIf", "(II)V"⟩, prog_8_method_10_code, 3, none, []),
  (⟨"Specialiser$Runner", "goOnCall", "(II)V"⟩, prog_8_method_12_code, 4, none, []),
  (⟨"Specialiser$Runner", "goOnSign", "(II)V"⟩, prog_8_method_11_code, 3, none, []),
  (⟨"Specialiser", "signed", "(III)I"⟩, prog_1_method_19_code, 3, (some .int), []),
  (⟨"Specialiser$Runner", "result", "()I"⟩, prog_8_method_4_code, 1, (some .int), []),
  (⟨"Specialiser$Trees", "turnIntoNumber", "(II)V"⟩, prog_10_method_8_code, 3, none, []),
  (⟨"Specialiser$Maker", "leadToVersion", "(III)V"⟩, prog_4_method_15_code, 6, none, []),
  (⟨"Specialiser$Versions", "find", "(IILSpecialiser$Row;)I"⟩, prog_11_method_4_code, 5, (some .int), []),
  (⟨"Specialiser$Versions", "agrees", "(IILSpecialiser$Row;)Z"⟩, prog_11_method_5_code, 5, (some .boolean), []),
  (⟨"Specialiser$Trees", "dropNumbers", "(I)V"⟩, prog_10_method_9_code, 5, none, []),
  (⟨"Specialiser$Maker", "becomeSign", "(II)I"⟩, prog_4_method_10_code, 6, (some .int), []),
  (⟨"Specialiser", "keepTold", "()V"⟩, prog_1_method_10_code, 1, none, []),
  (⟨"Specialiser$Versions", "expressions", "()I"⟩, prog_11_method_13_code, 3, (some .int), []),
  (⟨"Specialiser$Maker", "tried", "()I"⟩, prog_4_method_3_code, 1, (some .int), []),
  (⟨"Specialiser$Maker", "triedWell", "()I"⟩, prog_4_method_4_code, 1, (some .int), []),
  (⟨"Specialiser$Maker", "goneThrough", "()I"⟩, prog_4_method_2_code, 1, (some .int), []),
  (⟨"Specialiser", "version", "(II)I"⟩, prog_1_method_11_code, 3, (some .int), []),
  (⟨"Specialiser$Versions", "isNumber", "(I)Z"⟩, prog_11_method_12_code, 2, (some .boolean), []),
  (⟨"Specialiser", "told", "(I)I"⟩, prog_1_method_12_code, 2, (some .int), []),
  (⟨"Specialiser", "print", "()I"⟩, prog_1_method_13_code, 1, (some .int), []),
  (⟨"Specialiser$Printer", "showAll", "(LSpecialiser$Versions;Z)I"⟩, prog_5_method_2_code, 4, (some .int), []),
  (⟨"Specialiser$Printer", "showVersion", "(I)V"⟩, prog_5_method_6_code, 3, none, []),
  (⟨"Specialiser$Printer", "put", "(I)V"⟩, prog_5_method_3_code, 2, none, []),
  (⟨"Specialiser$Printer", "putNumber", "(I)V"⟩, prog_5_method_5_code, 4, none, []),
  (⟨"Specialiser$Printer", "putText", "(Ljava/lang/String;)V"⟩, prog_5_method_4_code, 3, none, []),
  (⟨"Specialiser$Printer", "show", "(II)V"⟩, prog_5_method_7_code, 3, none, []),
  (⟨"Specialiser$Printer", "showNumber", "(I)V"⟩, prog_5_method_8_code, 2, none, []),
  (⟨"Specialiser$Printer", "showName", "(I)V"⟩, prog_5_method_9_code, 2, none, []),
  (⟨"Specialiser$Printer", "showLet", "(II)V"⟩, prog_5_method_10_code, 4, none, []),
  (⟨"Specialiser$Printer", "showIf", "(II)V"⟩, prog_5_method_11_code, 3, none, []),
  (⟨"Specialiser$Printer", "showCall", "(II)V"⟩, prog_5_method_12_code, 4, none, []),
  (⟨"Specialiser$Printer", "showSign", "(II)V"⟩, prog_5_method_13_code, 3, none, []),
  (⟨"Specialiser$Printer", "signText", "(I)Ljava/lang/String;"⟩, prog_5_method_14_code, 1, (some (.object "java/lang/String")), []),
  (⟨"Specialiser", "out", "(I)I"⟩, prog_1_method_14_code, 2, (some .int), []),
  (⟨"Specialiser", "back", "()I"⟩, prog_1_method_15_code, 2, (some .int), []),
  (⟨"Specialiser", "give", "(I)I"⟩, prog_1_method_16_code, 2, (some .int), []),
  (⟨"Specialiser", "run", "(ZII)I"⟩, prog_1_method_17_code, 6, (some .int), []),
  (⟨"Specialiser$Runner", "steps", "()I"⟩, prog_8_method_2_code, 1, (some .int), []),
  (⟨"Specialiser$Runner", "deepest", "()I"⟩, prog_8_method_3_code, 1, (some .int), []),
  (⟨"Specialiser", "ran", "(I)I"⟩, prog_1_method_18_code, 2, (some .int), []),
  (⟨"SpecialiserModel", "<init>", "()V"⟩, prog_13_method_1_code, 1, none, []),
  (⟨"SpecialiserModel", "thrown", "()I"⟩, prog_13_method_2_code, 1, (some .int), []),
  (⟨"SpecialiserModel", "feed", "(IIIII)I"⟩, prog_13_method_4_code, 8, (some .int), []),
  (⟨"SpecialiserModel", "cut", "(I)I"⟩, prog_13_method_5_code, 3, (some .int), []),
  (⟨"SpecialiserModel", "within", "(JJJ)Z"⟩, prog_13_method_3_code, 6, (some .boolean), []),
  (⟨"SpecialiserModel", "read", "()I"⟩, prog_13_method_30_code, 1, (some .int), []),
  (⟨"SpecialiserModel", "next", "()V"⟩, prog_13_method_11_code, 2, none, []),
  (⟨"SpecialiserModel", "isRow", "(I)Z"⟩, prog_13_method_8_code, 1, (some .boolean), []),
  (⟨"SpecialiserModel", "isDigit", "(I)Z"⟩, prog_13_method_7_code, 1, (some .boolean), []),
  (⟨"SpecialiserModel", "row", "()V"⟩, prog_13_method_12_code, 8, none, []),
  (⟨"SpecialiserModel", "wordOf", "(J)I"⟩, prog_13_method_10_code, 2, (some .int), []),
  (⟨"SpecialiserModel", "packed", "(IIII)J"⟩, prog_13_method_9_code, 4, (some .long), []),
  (⟨"SpecialiserModel", "stop", "(II)V"⟩, prog_13_method_6_code, 3, none, []),
  (⟨"SpecialiserModel", "definition", "()V"⟩, prog_13_method_27_code, 3, none, []),
  (⟨"SpecialiserModel", "pass", "()V"⟩, prog_13_method_13_code, 1, none, []),
  (⟨"SpecialiserModel", "want", "(I)V"⟩, prog_13_method_14_code, 2, none, []),
  (⟨"SpecialiserModel", "name", "(Z)I"⟩, prog_13_method_16_code, 3, (some .int), []),
  (⟨"SpecialiserModel", "parse", "()V"⟩, prog_13_method_21_code, 3, none, []),
  (⟨"SpecialiserModel", "push", "(II)V"⟩, prog_13_method_17_code, 3, none, []),
  (⟨"SpecialiserModel", "onE", "()V"⟩, prog_13_method_23_code, 2, none, []),
  (⟨"SpecialiserModel", "begins", "()Z"⟩, prog_13_method_22_code, 1, (some .boolean), []),
  (⟨"SpecialiserModel", "node", "(II)I"⟩, prog_13_method_15_code, 4, (some .int), []),
  (⟨"SpecialiserModel", "onSum", "(II)V"⟩, prog_13_method_24_code, 6, none, []),
  (⟨"SpecialiserModel", "onAtom", "()V"⟩, prog_13_method_25_code, 4, none, []),
  (⟨"SpecialiserModel", "keep", "(I)V"⟩, prog_13_method_19_code, 2, none, []),
  (⟨"SpecialiserModel", "last", "()I"⟩, prog_13_method_20_code, 1, (some .int), []),
  (⟨"SpecialiserModel", "onRest", "(II)V"⟩, prog_13_method_26_code, 5, none, []),
  (⟨"SpecialiserModel", "judge", "()V"⟩, prog_13_method_28_code, 2, none, []),
  (⟨"SpecialiserModel", "onJudge", "(I)V"⟩, prog_13_method_29_code, 5, none, []),
  (⟨"SpecialiserModel", "place", "()I"⟩, prog_13_method_31_code, 1, (some .int), []),
  (⟨"SpecialiserModel", "function", "(II)I"⟩, prog_13_method_33_code, 4, (some .int), []),
  (⟨"SpecialiserModel", "isFn", "(I)Z"⟩, prog_13_method_32_code, 2, (some .boolean), []),
  (⟨"SpecialiserModel", "know", "(II)I"⟩, prog_13_method_47_code, 3, (some .int), []),
  (⟨"SpecialiserModel", "knownMany", "()I"⟩, prog_13_method_46_code, 3, (some .int), []),
  (⟨"SpecialiserModel", "make", "(I)I"⟩, prog_13_method_48_code, 6, (some .int), []),
  (⟨"SpecialiserModel", "versionOf", "(IIZ)I"⟩, prog_13_method_44_code, 8, (some .int), []),
  (⟨"SpecialiserModel", "makeVersion", "(I)V"⟩, prog_13_method_41_code, 6, none, []),
  (⟨"SpecialiserModel", "later", "(II)V"⟩, prog_13_method_40_code, 3, none, []),
  (⟨"SpecialiserModel", "onMaking", "(II)V"⟩, prog_13_method_42_code, 11, none, []),
  (⟨"SpecialiserModel", "onEv", "(I)V"⟩, prog_13_method_43_code, 3, none, []),
  (⟨"SpecialiserModel", "gives", "(ZI)V"⟩, prog_13_method_38_code, 3, none, []),
  (⟨"SpecialiserModel", "fresh", "(I)I"⟩, prog_13_method_37_code, 3, (some .int), []),
  (⟨"SpecialiserModel", "applied", "(III)I"⟩, prog_13_method_34_code, 3, (some .int), []),
  (⟨"SpecialiserModel", "nodeOf", "(I)I"⟩, prog_13_method_39_code, 3, (some .int), []),
  (⟨"SpecialiserModel", "onCalled", "(I)V"⟩, prog_13_method_45_code, 10, none, []),
  (⟨"SpecialiserModel", "goes", "(II)I"⟩, prog_13_method_35_code, 5, (some .int), []),
  (⟨"SpecialiserModel", "work", "(I)V"⟩, prog_13_method_36_code, 3, none, []),
  (⟨"SpecialiserModel", "version", "(II)I"⟩, prog_13_method_50_code, 4, (some .int), []),
  (⟨"SpecialiserModel", "leftOf", "(I)I"⟩, prog_13_method_49_code, 4, (some .int), []),
  (⟨"SpecialiserModel", "told", "(I)I"⟩, prog_13_method_51_code, 2, (some .int), []),
  (⟨"SpecialiserModel", "print", "()I"⟩, prog_13_method_59_code, 4, (some .int), []),
  (⟨"SpecialiserModel", "lay", "(I)V"⟩, prog_13_method_53_code, 2, none, []),
  (⟨"SpecialiserModel", "figures", "(I)V"⟩, prog_13_method_56_code, 3, none, []),
  (⟨"SpecialiserModel", "eight", "(IIIIII)J"⟩, prog_13_method_52_code, 6, (some .long), []),
  (⟨"SpecialiserModel", "layAll", "(J)V"⟩, prog_13_method_54_code, 5, none, []),
  (⟨"SpecialiserModel", "onExpression", "(I)V"⟩, prog_13_method_58_code, 4, none, []),
  (⟨"SpecialiserModel", "layNumber", "(I)V"⟩, prog_13_method_57_code, 2, none, []),
  (⟨"SpecialiserModel", "bytesLater", "(J)V"⟩, prog_13_method_55_code, 3, none, []),
  (⟨"SpecialiserModel", "out", "(I)I"⟩, prog_13_method_60_code, 2, (some .int), []),
  (⟨"SpecialiserModel", "back", "()I"⟩, prog_13_method_61_code, 2, (some .int), []),
  (⟨"SpecialiserModel", "give", "(I)I"⟩, prog_13_method_62_code, 2, (some .int), []),
  (⟨"SpecialiserModel", "run", "(ZII)I"⟩, prog_13_method_63_code, 8, (some .int), []),
  (⟨"SpecialiserModel", "ran", "(I)I"⟩, prog_13_method_64_code, 2, (some .int), []),
  (⟨"SpecialiserLaw", "feed", "(LSpecialiser;IIIII[J)I"⟩, method_3_code, 8, (some .int), [(0, 16, 19, 13)]),
  (⟨"SpecialiserLaw", "cut", "(LSpecialiser;I[J)I"⟩, method_4_code, 4, (some .int), [(0, 9, 12, 19)]),
  (⟨"SpecialiserLaw", "function", "(LSpecialiser;II[J)I"⟩, method_5_code, 5, (some .int), [(0, 10, 13, 25)]),
  (⟨"SpecialiserLaw", "know", "(LSpecialiser;II[J)I"⟩, method_6_code, 5, (some .int), [(0, 10, 13, 25)]),
  (⟨"SpecialiserLaw", "make", "(LSpecialiser;I[J)I"⟩, method_7_code, 4, (some .int), [(0, 9, 12, 13), (0, 9, 15, 25), (0, 9, 18, 33)]),
  (⟨"SpecialiserLaw", "version", "(LSpecialiser;II[J)I"⟩, method_8_code, 5, (some .int), [(0, 10, 13, 25)]),
  (⟨"SpecialiserLaw", "told", "(LSpecialiser;I[J)I"⟩, method_9_code, 4, (some .int), [(0, 9, 12, 25)]),
  (⟨"SpecialiserLaw", "print", "(LSpecialiser;[J)I"⟩, method_10_code, 3, (some .int), [(0, 8, 11, 13), (0, 8, 14, 33)]),
  (⟨"SpecialiserLaw", "out", "(LSpecialiser;I[J)I"⟩, method_11_code, 4, (some .int), [(0, 9, 12, 25)]),
  (⟨"SpecialiserLaw", "back", "(LSpecialiser;[J)I"⟩, method_12_code, 3, (some .int), [(0, 8, 11, 13)]),
  (⟨"SpecialiserLaw", "give", "(LSpecialiser;I[J)I"⟩, method_13_code, 4, (some .int), [(0, 9, 12, 13)]),
  (⟨"SpecialiserLaw", "run", "(LSpecialiser;ZII[J)I"⟩, method_14_code, 6, (some .int), [(0, 12, 15, 13), (0, 12, 19, 25), (0, 12, 23, 19)]),
  (⟨"SpecialiserLaw", "ran", "(LSpecialiser;I[J)I"⟩, method_15_code, 4, (some .int), [(0, 9, 12, 25)])]
def tb_m0 : mi_M := (⟨"X", "x", "()V"⟩, ⟨#[]⟩, 0, none, [])
def tb_own : List String := ["Specialiser$Bodies", "Specialiser$LongRow", "Specialiser$Maker", "Specialiser$Printer", "Specialiser$Reader", "Specialiser$Row", "Specialiser$Runner", "Specialiser$Tokens", "Specialiser$Trees", "Specialiser$Versions", "Specialiser", "SpecialiserModel", "SpecialiserLaw", "java/lang/Math", "java/lang/Integer"]
def tb_k : List Nat := [12, 10, 5, 7, 1, 0, 8, 4, 0, 9, 6, 2, 9, 3, 10, 7, 5, 7, 5, 7, 7, 7, 7, 7, 1, 7, 13, 4, 0, 8, 7, 4, 0, 7, 1, 1, 4, 4, 4, 4, 4, 4, 0, 4, 4, 4, 8, 8, 4, 4, 4, 4, 4, 4, 4, 4, 8, 0, 4, 8, 8, 8, 4, 8, 0, 8, 4, 7, 9, 10, 10, 10, 10, 10, 0, 0, 0, 8, 0, 8, 10, 14, 10, 0, 9, 9, 2, 9, 2, 9, 9, 9, 2, 2, 2, 8, 2, 2, 2, 2, 6, 6, 6, 6, 6, 6, 6, 6, 10, 6, 8, 2, 9, 9, 8, 2, 10, 9, 2, 2, 2, 10, 9, 10, 10, 3, 3, 3, 3, 3, 3, 3, 3, 3, 3, 3, 3, 3, 10, 10, 10, 10, 6, 6, 10, 11, 11, 11, 11, 11, 11, 11, 11, 11, 11, 11, 11, 11, 11, 11, 11, 11, 11, 11, 11, 11, 11, 11, 11, 11, 11, 11, 11, 11, 11, 11, 11, 11, 11, 11, 11, 11, 11, 11, 11, 11, 11, 11, 11, 11, 11, 11, 11, 11, 11, 11, 11, 11, 11, 11, 11, 11, 11, 11, 11, 11, 11, 11, 12, 12, 12, 12, 12, 12, 12, 12, 12, 12, 12, 12, 12]
def tb_in : List Bool := [false, true, true, true, true, true, true, true, false, true, true, true, false, true, false, false, false, false, false, false, false, false, false, false, false, false, false, false, false, false, false, false, false, false, false, false, false, false, false, false, false, false, false, false, false, false, false, false, false, false, false, false, false, false, false, false, false, false, false, false, false, false, false, false, false, false, false, false, false, false, false, false, false, false, false, false, false, false, false, false, false, false, false, false, false, false, false, false, false, false, false, false, false, false, false, false, false, false, false, false, false, false, false, false, false, false, false, false, false, false, false, false, false, false, false, false, false, false, false, false, false, false, false, false, false, false, false, false, false, false, false, false, false, false, false, false, false, false, false, false, false, false, false, false, false, true, false, false, false, false, false, false, false, false, false, false, false, false, false, false, false, false, false, false, false, false, false, false, false, false, false, false, false, false, false, false, false, false, false, false, false, false, false, false, false, false, false, false, false, false, false, false, false, false, false, false, false, false, false, false, false, false, false, false, false, false, false, false, false, false, false, false, false, false, false, false, false, false, false, false, false]
def tb_f : Nat → List (Nat × Nat × Nat × Bool) := fun c => match c with
  | 0 => [(12, 0, 0, false), (21, 0, 1, false), (25, 0, 2, false), (28, 0, 3, true)]
  | 1 => [(9, 1, 0, false)]
  | 2 => [(9, 2, 0, false), (15, 2, 1, true), (25, 2, 2, true), (29, 2, 3, true), (39, 2, 4, true), (47, 2, 5, false), (51, 2, 6, false), (54, 2, 7, false), (57, 2, 8, true), (61, 2, 9, true), (64, 2, 10, true)]
  | 3 => [(9, 3, 0, false), (20, 3, 1, false), (23, 3, 2, true), (39, 3, 3, true), (43, 3, 4, true), (47, 3, 5, true), (51, 3, 6, true), (54, 3, 7, true)]
  | 4 => [(9, 4, 0, false), (15, 4, 1, true), (25, 4, 2, true), (28, 4, 3, true), (32, 4, 4, true), (35, 4, 5, true), (38, 4, 6, true), (46, 4, 7, false), (50, 4, 8, true), (53, 4, 9, false), (59, 4, 10, false), (63, 4, 11, true), (66, 4, 12, true)]
  | 5 => [(7, 5, 0, false)]
  | 6 => [(14, 6, 0, false), (20, 6, 1, false), (23, 6, 2, false), (26, 6, 3, false), (29, 6, 4, false), (32, 6, 5, true), (42, 6, 6, true), (45, 6, 7, true), (49, 6, 8, true), (52, 6, 9, true), (55, 6, 10, true), (58, 6, 11, true), (61, 6, 12, true)]
  | 7 => [(9, 7, 0, false), (20, 7, 1, false), (23, 7, 2, false), (29, 7, 3, false), (33, 7, 4, true), (37, 7, 5, true)]
  | 8 => [(14, 8, 0, false), (20, 8, 1, false), (23, 8, 2, false), (26, 8, 3, false), (29, 8, 4, false), (32, 8, 5, false), (35, 8, 6, true)]
  | 9 => [(14, 9, 0, false), (25, 9, 1, false), (29, 9, 2, false), (32, 9, 3, false)]
  | 10 => [(14, 10, 0, false), (18, 10, 1, true), (22, 10, 2, true), (30, 10, 3, false), (39, 10, 5, true), (43, 10, 6, true), (51, 10, 4, false), (58, 10, 7, true), (62, 10, 8, true), (70, 10, 9, false), (79, 10, 10, false), (83, 10, 11, false), (86, 10, 12, true), (89, 10, 13, false), (93, 10, 14, false), (96, 10, 15, true), (104, 10, 16, false), (108, 10, 17, false), (111, 10, 18, true), (114, 10, 19, false)]
  | 11 => [(7, 11, 1, false), (13, 11, 10, true), (17, 11, 11, false), (21, 11, 12, false), (24, 11, 13, false), (27, 11, 14, false), (30, 11, 15, false), (33, 11, 16, false), (36, 11, 17, false), (39, 11, 18, false), (42, 11, 19, false), (45, 11, 20, false), (48, 11, 21, false), (51, 11, 22, false), (54, 11, 23, false), (57, 11, 24, false), (60, 11, 29, false), (63, 11, 32, false), (66, 11, 33, false), (69, 11, 34, false), (72, 11, 36, false), (75, 11, 39, false), (78, 11, 43, false), (81, 11, 45, false), (84, 11, 53, false), (87, 11, 54, false), (90, 11, 55, false), (93, 11, 56, false), (96, 11, 57, false), (99, 11, 58, false), (102, 11, 74, false), (105, 11, 75, false), (108, 11, 77, false), (112, 11, 78, false), (115, 11, 80, false), (118, 11, 81, false), (121, 11, 82, false), (124, 11, 83, false), (127, 11, 84, false), (130, 11, 85, false), (134, 11, 86, false), (137, 11, 87, false), (140, 11, 90, false), (143, 11, 91, false), (146, 11, 94, false), (149, 11, 0, true), (152, 11, 2, true), (159, 11, 9, true), (170, 11, 3, true), (173, 11, 5, true), (176, 11, 4, true), (179, 11, 6, true), (200, 11, 8, true), (207, 11, 7, true), (217, 11, 27, true), (220, 11, 31, true), (223, 11, 35, true), (229, 11, 37, true), (232, 11, 38, true), (266, 11, 30, true), (273, 11, 28, true), (276, 11, 25, true), (279, 11, 26, true), (285, 11, 40, true), (291, 11, 41, true), (295, 11, 42, true), (304, 11, 59, true), (307, 11, 60, true), (310, 11, 61, true), (313, 11, 62, true), (316, 11, 72, true), (324, 11, 44, true), (327, 11, 46, true), (330, 11, 48, true), (333, 11, 49, true), (336, 11, 50, true), (339, 11, 51, true), (342, 11, 52, true), (348, 11, 47, true), (355, 11, 64, true), (358, 11, 66, true), (361, 11, 73, true), (364, 11, 79, true), (371, 11, 76, true), (374, 11, 70, true), (396, 11, 71, true), (399, 11, 65, true), (402, 11, 68, true), (408, 11, 69, true), (415, 11, 67, true), (423, 11, 63, true), (436, 11, 95, true), (439, 11, 88, true), (463, 11, 93, true), (471, 11, 92, true), (477, 11, 89, true), (482, 11, 96, true), (485, 11, 97, true), (488, 11, 98, true)]
  | _ => []
def tb_n : Nat → List (Nat × Nat) := fun c => match c with
  | 0 => [(7, 8), (18, 5)]
  | 2 => [(42, 5)]
  | 3 => [(15, 5)]
  | 4 => [(41, 1), (56, 5)]
  | 6 => [(9, 5)]
  | 7 => [(15, 5), (26, 1)]
  | 8 => [(9, 5)]
  | 9 => [(9, 0), (20, 5)]
  | 10 => [(9, 5), (25, 7), (34, 0), (46, 4), (55, 9), (65, 6), (74, 2), (99, 3)]
  | 12 => [(8, 10), (62, 11)]
  | _ => []
def tb_c : Nat → List (Nat × Value) := fun c => match c with
  | 2 => [(111, .retAddr 15)]
  | 3 => [(78, .int (1000000000)), (85, .retAddr 16), (87, .retAddr 17), (93, .retAddr 18), (101, .retAddr 19), (129, .int (-2147483648)), (130, .retAddr 20), (135, .retAddr 21), (137, .retAddr 22), (143, .retAddr 23), (145, .retAddr 24), (147, .retAddr 25), (149, .retAddr 26), (158, .retAddr 27), (160, .retAddr 28), (162, .retAddr 29), (164, .retAddr 30), (166, .retAddr 31)]
  | 6 => [(78, .int (40000))]
  | 7 => [(77, .long (10)), (83, .long (2147483647)), (88, .long (26982)), (90, .long (26990)), (92, .long (7103860)), (94, .long (1952998766)), (96, .long (1701606245))]
  | 10 => [(92, .int (40000)), (119, .retAddr 0), (132, .retAddr 1), (157, .retAddr 2), (170, .retAddr 3), (177, .retAddr 4), (179, .retAddr 5), (211, .retAddr 6), (226, .retAddr 7), (231, .retAddr 8), (239, .retAddr 9), (242, .retAddr 10), (244, .retAddr 11), (246, .retAddr 12), (248, .retAddr 13), (250, .retAddr 14)]
  | 11 => [(133, .int (40000)), (192, .long (100000000000)), (194, .long (10)), (196, .long (48)), (198, .long (2147483647)), (322, .long (2)), (418, .long (3)), (429, .long (9)), (434, .long (7)), (442, .long (255)), (447, .int (-2147483648)), (448, .int (2147483647)), (466, .long (41)), (480, .long (20000))]
  | 14 => [(265, .int (1431655765)), (266, .int (858993459)), (267, .int (252645135))]
  | _ => []
def tb_i : Nat → List (Nat × Nat × Nat × Nat) := fun c => match c with
  | 0 => [(1, 0, 3, 0), (9, 6, 2, 1), (20, 2, 2, 1), (32, 29, 0, 0), (35, 16, 0, 2), (39, 18, 0, 1), (43, 64, 0, 1), (45, 76, 0, 1), (48, 77, 0, 1), (51, 79, 0, 1)]
  | 1 => [(3, 0, 3, 0), (15, 34, 0, 1)]
  | 2 => [(3, 0, 3, 0), (19, 8, 0, 0), (33, 12, 0, 0), (44, 2, 2, 1), (67, 87, 0, 0), (71, 88, 0, 1), (74, 89, 0, 1), (78, 76, 0, 1), (81, 93, 0, 2), (85, 57, 0, 2), (89, 64, 0, 1), (92, 90, 0, 1), (95, 85, 1, 2), (99, 91, 0, 2), (102, 92, 0, 3), (106, 16, 0, 2), (116, 60, 0, 1), (121, 61, 0, 1), (124, 46, 0, 2), (127, 18, 0, 1), (130, 94, 0, 2), (133, 97, 0, 2), (136, 98, 0, 2), (139, 115, 0, 2), (142, 95, 0, 2), (145, 96, 0, 1), (149, 108, 4, 3), (153, 56, 0, 3), (156, 47, 0, 2), (159, 63, 0, 1), (162, 99, 0, 1), (165, 83, 0, 1), (168, 100, 0, 4), (174, 109, 0, 0), (177, 110, 0, 2), (180, 111, 0, 3), (183, 112, 0, 3), (187, 114, 0, 1), (190, 84, 0, 4), (194, 65, 0, 2)]
  | 3 => [(3, 0, 3, 0), (17, 2, 2, 1), (27, 12, 0, 0), (33, 8, 0, 0), (57, 87, 0, 0), (61, 126, 0, 1), (64, 16, 0, 2), (68, 1000, 6, 0), (72, 1001, 6, 1), (76, 127, 0, 1), (79, 64, 0, 1), (82, 128, 0, 1), (89, 129, 0, 1), (95, 76, 0, 1), (98, 130, 0, 2), (103, 60, 0, 1), (108, 61, 0, 1), (111, 131, 0, 1), (114, 132, 0, 1), (117, 133, 0, 2), (120, 134, 0, 2), (123, 135, 0, 2), (126, 136, 0, 2), (132, 18, 0, 1), (139, 95, 0, 2), (151, 63, 0, 1), (154, 137, 1, 1)]
  | 4 => [(3, 0, 3, 0), (19, 8, 0, 0), (43, 4, 2, 1), (58, 2, 2, 1), (69, 67, 0, 1), (75, 28, 0, 0), (78, 30, 0, 1), (81, 31, 0, 0), (84, 58, 0, 0), (87, 37, 0, 2), (91, 39, 0, 0), (94, 33, 0, 1), (98, 38, 0, 1), (101, 32, 0, 0), (105, 35, 0, 2), (109, 36, 0, 2), (113, 24, 0, 2), (117, 40, 0, 0), (120, 42, 0, 1), (123, 43, 0, 1), (126, 57, 0, 2), (129, 41, 0, 2), (133, 16, 0, 2), (135, 44, 0, 0), (138, 45, 0, 1), (141, 48, 0, 1), (144, 49, 0, 1), (147, 46, 0, 2), (153, 47, 0, 2), (156, 50, 0, 1), (159, 56, 0, 3), (163, 51, 0, 1), (166, 52, 0, 1), (169, 53, 0, 1), (172, 54, 0, 2), (175, 55, 0, 1), (178, 18, 0, 1), (181, 59, 0, 0), (182, 60, 0, 1), (183, 61, 0, 1), (185, 62, 0, 2), (188, 63, 0, 1), (191, 64, 0, 1), (194, 65, 0, 2)]
  | 5 => [(1, 0, 3, 0)]
  | 6 => [(3, 0, 3, 0), (11, 2, 2, 1), (36, 8, 0, 0), (64, 18, 0, 1), (68, 16, 0, 2), (72, 76, 0, 1), (75, 101, 0, 2), (79, 60, 0, 1), (84, 61, 0, 1), (87, 102, 0, 1), (90, 103, 0, 1), (93, 104, 0, 2), (96, 105, 0, 2), (99, 106, 0, 2), (102, 107, 0, 2), (105, 26, 1, 2), (111, 95, 0, 2), (114, 108, 4, 3), (118, 63, 0, 1)]
  | 7 => [(3, 0, 3, 0), (17, 2, 2, 1), (28, 4, 2, 1), (40, 18, 0, 1), (44, 34, 0, 1), (47, 16, 0, 2), (51, 17, 0, 1), (54, 26, 1, 2), (60, 19, 1, 1), (64, 20, 1, 1), (67, 21, 0, 1), (70, 23, 0, 3), (74, 25, 1, 1), (79, 22, 1, 1), (85, 24, 0, 2)]
  | 8 => [(3, 0, 3, 0), (11, 2, 2, 1), (39, 16, 0, 2), (43, 18, 0, 1), (47, 46, 0, 2), (51, 47, 0, 2), (54, 63, 0, 1), (56, 95, 0, 2), (59, 60, 0, 1)]
  | 9 => [(3, 0, 3, 0), (11, 5, 2, 2), (22, 2, 2, 1), (35, 28, 0, 0), (38, 81, 1, 1), (44, 42, 0, 1), (47, 16, 0, 2), (50, 85, 1, 2), (54, 18, 0, 1), (57, 87, 0, 0), (61, 89, 0, 1), (64, 90, 0, 1), (67, 113, 0, 3), (71, 32, 0, 0), (72, 8, 0, 0), (76, 76, 0, 1), (79, 60, 0, 1), (84, 75, 0, 1)]
  | 10 => [(3, 0, 3, 0), (11, 2, 2, 1), (27, 3, 2, 1), (36, 5, 2, 2), (48, 7, 2, 2), (57, 9, 2, 0), (67, 10, 2, 1), (76, 11, 2, 3), (101, 13, 2, 2), (124, 71, 0, 1), (127, 16, 0, 2), (135, 15, 0, 1), (138, 27, 0, 1), (142, 66, 0, 0), (145, 68, 0, 0), (148, 32, 0, 0), (151, 74, 0, 1), (160, 64, 0, 1), (164, 75, 0, 1), (167, 78, 0, 1), (172, 81, 1, 1), (181, 83, 0, 1), (184, 84, 0, 4), (188, 86, 0, 2), (192, 116, 0, 0), (195, 87, 0, 0), (196, 117, 0, 0), (198, 118, 0, 0), (201, 119, 0, 0), (204, 120, 0, 0), (207, 12, 0, 0), (213, 89, 0, 1), (216, 90, 0, 1), (219, 122, 0, 1), (222, 91, 0, 2), (228, 18, 0, 1), (233, 125, 0, 2), (252, 100, 0, 4), (256, 109, 0, 0), (259, 142, 0, 0), (262, 143, 0, 0)]
  | 11 => [(1, 0, 3, 0), (155, 149, 1, 3), (162, 153, 1, 1), (166, 156, 1, 4), (182, 152, 1, 1), (185, 154, 0, 0), (188, 157, 0, 2), (203, 155, 1, 1), (211, 151, 0, 0), (214, 159, 0, 0), (226, 163, 0, 2), (235, 160, 0, 1), (239, 164, 0, 0), (242, 167, 0, 2), (245, 171, 0, 2), (248, 165, 0, 0), (252, 166, 0, 2), (256, 168, 0, 0), (259, 170, 0, 0), (263, 169, 0, 1), (269, 161, 0, 1), (282, 162, 0, 0), (288, 173, 0, 1), (298, 158, 0, 0), (301, 172, 0, 0), (319, 176, 0, 1), (345, 191, 0, 1), (351, 187, 1, 3), (367, 186, 0, 1), (377, 182, 0, 2), (380, 183, 0, 2), (383, 188, 0, 1), (386, 184, 0, 1), (389, 185, 0, 2), (393, 189, 0, 1), (405, 190, 0, 2), (411, 180, 0, 3), (420, 178, 0, 0), (426, 181, 0, 1), (431, 193, 0, 1), (444, 196, 0, 1), (449, 197, 0, 1), (452, 198, 1, 6), (456, 199, 0, 1), (460, 201, 0, 1), (468, 202, 0, 1), (474, 200, 0, 1)]
  | 12 => [(7, 70, 0, 5), (15, 72, 0, 1), (21, 73, 0, 2), (27, 80, 0, 2), (30, 82, 0, 1), (35, 121, 0, 2), (38, 123, 0, 1), (41, 124, 0, 0), (45, 138, 0, 1), (48, 139, 0, 0), (51, 140, 0, 1), (54, 141, 0, 3), (58, 144, 0, 1), (61, 1, 2, 0), (64, 145, 2, 0), (65, 208, 5, 7), (70, 147, 0, 5), (71, 209, 5, 3), (74, 148, 0, 1), (75, 14, 0, 0), (78, 150, 0, 0), (79, 69, 0, 0), (82, 174, 0, 0), (83, 210, 5, 4), (86, 175, 0, 2), (87, 211, 5, 4), (89, 177, 0, 2), (90, 212, 5, 3), (92, 179, 0, 1), (93, 146, 0, 0), (96, 213, 5, 4), (98, 192, 0, 2), (99, 214, 5, 3), (101, 194, 0, 1), (102, 215, 5, 2), (105, 195, 0, 0), (106, 216, 5, 3), (108, 203, 0, 1), (109, 217, 5, 2), (111, 204, 0, 0), (112, 218, 5, 3), (114, 205, 0, 1), (115, 219, 5, 5), (118, 206, 0, 3), (119, 220, 5, 3), (121, 207, 0, 1)]
  | _ => []
def tb_t : List (Nat × String) := [(4587533, "java/lang/IllegalStateException"), (4718604, "java/lang/IllegalArgumentException"), (4784148, "java/lang/IndexOutOfBoundsException"), (5242889, "java/lang/IndexOutOfBoundsException"), (5373962, "java/lang/IllegalStateException"), (5373983, "java/lang/IndexOutOfBoundsException"), (6094864, "java/lang/UnsupportedOperationException"), (7929880, "java/lang/IndexOutOfBoundsException"), (8060938, "java/lang/IndexOutOfBoundsException"), (8126474, "java/lang/IllegalStateException"), (8126501, "java/lang/UnsupportedOperationException"), (9043980, "java/lang/IndexOutOfBoundsException"), (9109514, "java/lang/IllegalStateException"), (9175048, "java/lang/IllegalStateException"), (9240604, "java/lang/IllegalStateException"), (9240623, "java/lang/IndexOutOfBoundsException"), (9240657, "java/lang/IllegalArgumentException"), (9437193, "java/lang/IndexOutOfBoundsException")]
def tb_ti : List (Nat × Nat × String × String × Nat × Nat × Nat) := [(70, 13, "java/lang/IllegalStateException", "no room", 117, 119, 121), (72, 12, "java/lang/IllegalArgumentException", "not so many bytes", 130, 132, 134), (73, 20, "java/lang/IndexOutOfBoundsException", "no such function or what", 155, 157, 159), (80, 9, "java/lang/IndexOutOfBoundsException", "no such parameter", 155, 170, 159), (82, 10, "java/lang/IllegalStateException", "no program", 117, 177, 121), (82, 31, "java/lang/IndexOutOfBoundsException", "no such function", 155, 179, 159), (93, 16, "java/lang/UnsupportedOperationException", "too many expressions", 109, 111, 113), (121, 24, "java/lang/IndexOutOfBoundsException", "no such version or what", 155, 211, 159), (123, 10, "java/lang/IndexOutOfBoundsException", "no such what", 155, 226, 159), (124, 10, "java/lang/IllegalStateException", "no versions", 117, 231, 121), (124, 37, "java/lang/UnsupportedOperationException", "too long", 237, 239, 241), (138, 12, "java/lang/IndexOutOfBoundsException", "no such byte", 155, 242, 159), (139, 10, "java/lang/IllegalStateException", "too long", 117, 239, 121), (140, 8, "java/lang/IllegalStateException", "four are given", 117, 244, 121), (141, 28, "java/lang/IllegalStateException", "nothing to run", 117, 246, 121), (141, 47, "java/lang/IndexOutOfBoundsException", "no such function or version", 155, 248, 159), (141, 81, "java/lang/IllegalArgumentException", "steps or numbers given", 130, 250, 134), (144, 9, "java/lang/IndexOutOfBoundsException", "no such what", 155, 226, 159)]
def tb_h : List (Nat × List (String × Nat)) := [(13631499, [("java/lang/IllegalStateException", 19)]), (13697028, [("java/lang/IllegalArgumentException", 12)]), (13762565, [("java/lang/IndexOutOfBoundsException", 13)]), (13828101, [("java/lang/IndexOutOfBoundsException", 13)]), (13893636, [("java/lang/IllegalStateException", 12), ("java/lang/IndexOutOfBoundsException", 15), ("java/lang/UnsupportedOperationException", 18)]), (13959173, [("java/lang/IndexOutOfBoundsException", 13)]), (14024708, [("java/lang/IndexOutOfBoundsException", 12)]), (14090243, [("java/lang/IllegalStateException", 11), ("java/lang/UnsupportedOperationException", 14)]), (14155780, [("java/lang/IndexOutOfBoundsException", 12)]), (14221315, [("java/lang/IllegalStateException", 11)]), (14286852, [("java/lang/IllegalStateException", 12)]), (14352391, [("java/lang/IllegalArgumentException", 23), ("java/lang/IllegalStateException", 15), ("java/lang/IndexOutOfBoundsException", 19)]), (14417924, [("java/lang/IndexOutOfBoundsException", 12)])]
def tb_ft : Nat → Nat → FieldType := fun c k => match c with
  | 0 => tyX0 k
  | 1 => tyX1 k
  | 2 => tyX2 k
  | 3 => tyX3 k
  | 4 => tyX4 k
  | 5 => tyX5 k
  | 6 => tyX6 k
  | 7 => tyX7 k
  | 8 => tyX8 k
  | 9 => tyX9 k
  | 10 => tyX10 k
  | 11 => tyX11 k
  | _ => .int
def tb_nf : Nat → Nat := fun c => match c with
  | 0 => 4
  | 1 => 1
  | 2 => 11
  | 3 => 8
  | 4 => 13
  | 5 => 1
  | 6 => 13
  | 7 => 6
  | 8 => 7
  | 9 => 4
  | 10 => 20
  | 11 => 99
  | _ => 0
def tb_txt : List (List Nat) := [[110, 111, 32, 114, 111, 111, 109], [110, 111, 116, 32, 115, 111, 32, 109, 97, 110, 121, 32, 98, 121, 116, 101, 115], [110, 111, 32, 115, 117, 99, 104, 32, 102, 117, 110, 99, 116, 105, 111, 110, 32, 111, 114, 32, 119, 104, 97, 116], [110, 111, 32, 115, 117, 99, 104, 32, 112, 97, 114, 97, 109, 101, 116, 101, 114], [110, 111, 32, 112, 114, 111, 103, 114, 97, 109], [110, 111, 32, 115, 117, 99, 104, 32, 102, 117, 110, 99, 116, 105, 111, 110], [110, 111, 32, 115, 117, 99, 104, 32, 118, 101, 114, 115, 105, 111, 110, 32, 111, 114, 32, 119, 104, 97, 116], [110, 111, 32, 115, 117, 99, 104, 32, 119, 104, 97, 116], [110, 111, 32, 118, 101, 114, 115, 105, 111, 110, 115], [116, 111, 111, 32, 108, 111, 110, 103], [110, 111, 32, 115, 117, 99, 104, 32, 98, 121, 116, 101], [102, 111, 117, 114, 32, 97, 114, 101, 32, 103, 105, 118, 101, 110], [110, 111, 116, 104, 105, 110, 103, 32, 116, 111, 32, 114, 117, 110], [110, 111, 32, 115, 117, 99, 104, 32, 102, 117, 110, 99, 116, 105, 111, 110, 32, 111, 114, 32, 118, 101, 114, 115, 105, 111, 110], [115, 116, 101, 112, 115, 32, 111, 114, 32, 110, 117, 109, 98, 101, 114, 115, 32, 103, 105, 118, 101, 110], [116, 111, 111, 32, 109, 97, 110, 121, 32, 101, 120, 112, 114, 101, 115, 115, 105, 111, 110, 115], [], [44, 32], [41, 32, 61, 32], [59, 10], [40, 45, 50, 49, 52, 55, 52, 56, 51, 54, 52, 55, 32, 45, 32, 49, 41], [40, 108, 101, 116, 32, 120], [32, 61, 32], [32, 105, 110, 32], [40, 105, 102, 32], [32, 116, 104, 101, 110, 32], [32, 101, 108, 115, 101, 32], [32, 43, 32], [32, 45, 32], [32, 42, 32], [32, 60, 32], [32, 61, 61, 32]]
def tb_pr : Nat → List Value → Option Value := fun k as => match as with
  | [.retAddr t] => if k = 1000 then some (.int (nI (tb_txt.getD t []).length)) else none
  | [.retAddr t, .int i] => if k = 1001 ∧ ¬ (i < 0 ∨ (tb_txt.getD t []).length ≤ i.toNatClampNeg) then some (.int (nI ((tb_txt.getD t []).getD i.toNatClampNeg 0))) else none
  | _ => none
def tb_P : mi_P := (fun j => tb_m.getD j tb_m0, fun j pc => mi_dec (tb_m.getD j tb_m0).2.1 pc, fun j ix => ((tb_f (tb_k.getD j 99)).lookup ix).map (fun q => (q.1, q.2.1, q.2.2 || tb_in.getD j false)), fun j ix => (tb_n (tb_k.getD j 99)).lookup ix, fun j ix => (tb_c (tb_k.getD j 99)).lookup ix, fun j ix => (tb_i (tb_k.getD j 99)).lookup ix, fun j pc => if pc < 65536 then tb_t.lookup (j * 65536 + pc) else none, fun j pc E => if pc < 65536 then (tb_h.lookup (j * 65536 + pc)).bind (fun l => l.lookup E) else none, tb_nf, tb_ft, fun j => tb_k.getD j 99, tb_pr)
