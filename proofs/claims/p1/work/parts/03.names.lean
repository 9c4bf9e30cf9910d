/-! names, fields, decode rows: out of the printed names, what is used of them -/
def RX10 : String := "Gearbox$Tokens"
def TX10 : u_T := fun k => match k with
  | 0 => ("Gearbox$Tokens", "tape", "[I", true)
  | 1 => ("Gearbox$Tokens", "length", "I", false)
  | 2 => ("Gearbox$Tokens", "kind", "I", false)
  | 3 => ("Gearbox$Tokens", "place", "I", false)
  | 4 => ("Gearbox$Tokens", "figure", "I", false)
  | 5 => ("Gearbox$Tokens", "name", "J", false)
  | 6 => ("Gearbox$Tokens", "after", "I", false)
  | _ => ("Gearbox$Tokens", "count", "I", false)
def tyX10 : Nat → FieldType := fun k => match k with
  | 0 => .array .int
  | 1 => .int
  | 2 => .int
  | 3 => .int
  | 4 => .int
  | 5 => .long
  | 6 => .int
  | _ => .int
abbrev wsX100 : List Cond := u_ws RX10 TX10 8
theorem nmX10 : ∀ a, a < 8 → ∀ b, b < 8 → a ≠ b → (TX10 a).2.1 ≠ (TX10 b).2.1 := by decide +kernel
theorem tyX10_ok : ∀ k, k < 8 → parseFieldDescriptor (TX10 k).2.2.1 = some (tyX10 k) := by decide +kernel
def RX7 : String := "Gearbox$Reader"
def TX7 : u_T := fun k => match k with
  | 0 => ("Gearbox$Reader", "faultPlace", "I", false)
  | 1 => ("Gearbox$Reader", "tokens", "LGearbox$Tokens;", true)
  | 2 => ("Gearbox$Reader", "program", "LGearbox$Program;", false)
  | 3 => ("Gearbox$Reader", "function", "I", false)
  | 4 => ("Gearbox$Reader", "open", "I", false)
  | 5 => ("Gearbox$Reader", "tallPlace", "I", false)
  | 6 => ("Gearbox$Reader", "fault", "I", false)
  | 7 => ("Gearbox$Reader", "seenName", "[J", true)
  | 8 => ("Gearbox$Reader", "seenVariable", "[I", true)
  | 9 => ("Gearbox$Reader", "seen", "I", false)
  | 10 => ("Gearbox$Reader", "loopHead", "[I", true)
  | 11 => ("Gearbox$Reader", "loopEnd", "[I", true)
  | 12 => ("Gearbox$Reader", "loops", "I", false)
  | 13 => ("Gearbox$Reader", "callName", "[J", true)
  | 14 => ("Gearbox$Reader", "callOp", "[I", true)
  | 15 => ("Gearbox$Reader", "callPlace", "[I", true)
  | 16 => ("Gearbox$Reader", "callArguments", "[I", true)
  | _ => ("Gearbox$Reader", "calls", "I", false)
def tyX7 : Nat → FieldType := fun k => match k with
  | 0 => .int
  | 1 => .object "Gearbox$Tokens"
  | 2 => .object "Gearbox$Program"
  | 3 => .int
  | 4 => .int
  | 5 => .int
  | 6 => .int
  | 7 => .array .long
  | 8 => .array .int
  | 9 => .int
  | 10 => .array .int
  | 11 => .array .int
  | 12 => .int
  | 13 => .array .long
  | 14 => .array .int
  | 15 => .array .int
  | 16 => .array .int
  | _ => .int
abbrev wsX70 : List Cond := u_ws RX7 TX7 18
theorem nmX7 : ∀ a, a < 18 → ∀ b, b < 18 → a ≠ b → (TX7 a).2.1 ≠ (TX7 b).2.1 := by decide +kernel
theorem tyX7_ok : ∀ k, k < 18 → parseFieldDescriptor (TX7 k).2.2.1 = some (tyX7 k) := by decide +kernel
def RX6 : String := "Gearbox$Program"
def TX6 : u_T := fun k => match k with
  | 0 => ("Gearbox$Program", "functions", "I", false)
  | 1 => ("Gearbox$Program", "name", "[J", true)
  | 2 => ("Gearbox$Program", "namePlace", "[I", true)
  | 3 => ("Gearbox$Program", "parameters", "[I", true)
  | 4 => ("Gearbox$Program", "variables", "[I", true)
  | 5 => ("Gearbox$Program", "from", "[I", true)
  | 6 => ("Gearbox$Program", "to", "[I", true)
  | 7 => ("Gearbox$Program", "ops", "I", false)
  | 8 => ("Gearbox$Program", "op", "[I", true)
  | 9 => ("Gearbox$Program", "argument", "[I", true)
  | 10 => ("Gearbox$Program", "ticks", "[I", true)
  | 11 => ("Gearbox$Program", "labels", "I", false)
  | _ => ("Gearbox$Program", "labelAt", "[I", true)
def tyX6 : Nat → FieldType := fun k => match k with
  | 0 => .int
  | 1 => .array .long
  | 2 => .array .int
  | 3 => .array .int
  | 4 => .array .int
  | 5 => .array .int
  | 6 => .array .int
  | 7 => .int
  | 8 => .array .int
  | 9 => .array .int
  | 10 => .array .int
  | 11 => .int
  | _ => .array .int
abbrev wsX60 : List Cond := u_ws RX6 TX6 13
theorem nmX6 : ∀ a, a < 13 → ∀ b, b < 13 → a ≠ b → (TX6 a).2.1 ≠ (TX6 b).2.1 := by decide +kernel
theorem tyX6_ok : ∀ k, k < 13 → parseFieldDescriptor (TX6 k).2.2.1 = some (tyX6 k) := by decide +kernel
def RX9 : String := "Gearbox$Steps"
def TX9 : u_T := fun k => match k with
  | 0 => ("Gearbox$Steps", "count", "I", false)
  | 1 => ("Gearbox$Steps", "kind", "[I", false)
  | 2 => ("Gearbox$Steps", "gives", "[I", false)
  | 3 => ("Gearbox$Steps", "left", "[I", false)
  | 4 => ("Gearbox$Steps", "right", "[I", false)
  | _ => ("Gearbox$Steps", "next", "[I", false)
def tyX9 : Nat → FieldType := fun k => match k with
  | 0 => .int
  | 1 => .array .int
  | 2 => .array .int
  | 3 => .array .int
  | 4 => .array .int
  | _ => .array .int
abbrev wsX90 : List Cond := u_ws RX9 TX9 6
theorem nmX9 : ∀ a, a < 6 → ∀ b, b < 6 → a ≠ b → (TX9 a).2.1 ≠ (TX9 b).2.1 := by decide +kernel
theorem tyX9_ok : ∀ k, k < 6 → parseFieldDescriptor (TX9 k).2.2.1 = some (tyX9 k) := by decide +kernel
def RX1 : String := "Gearbox$Flow"
def TX1 : u_T := fun k => match k with
  | 0 => ("Gearbox$Flow", "blocks", "I", false)
  | 1 => ("Gearbox$Flow", "limit", "I", false)
  | 2 => ("Gearbox$Flow", "steps", "LGearbox$Steps;", true)
  | 3 => ("Gearbox$Flow", "firstStep", "[I", true)
  | 4 => ("Gearbox$Flow", "lastStep", "[I", true)
  | 5 => ("Gearbox$Flow", "firstPhi", "[I", true)
  | 6 => ("Gearbox$Flow", "lastPhi", "[I", true)
  | 7 => ("Gearbox$Flow", "end", "[I", true)
  | 8 => ("Gearbox$Flow", "endValue", "[I", true)
  | 9 => ("Gearbox$Flow", "first", "[I", true)
  | 10 => ("Gearbox$Flow", "second", "[I", true)
  | 11 => ("Gearbox$Flow", "dominator", "[I", true)
  | 12 => ("Gearbox$Flow", "depth", "[I", true)
  | 13 => ("Gearbox$Flow", "waysBegin", "[I", true)
  | 14 => ("Gearbox$Flow", "ways", "[I", true)
  | 15 => ("Gearbox$Flow", "dominators", "[J", true)
  | 16 => ("Gearbox$Flow", "loop", "[J", true)
  | 17 => ("Gearbox$Flow", "phiCount", "I", false)
  | 18 => ("Gearbox$Flow", "phiGives", "[I", false)
  | 19 => ("Gearbox$Flow", "phiNext", "[I", false)
  | _ => ("Gearbox$Flow", "takes", "[I", false)
def tyX1 : Nat → FieldType := fun k => match k with
  | 0 => .int
  | 1 => .int
  | 2 => .object "Gearbox$Steps"
  | 3 => .array .int
  | 4 => .array .int
  | 5 => .array .int
  | 6 => .array .int
  | 7 => .array .int
  | 8 => .array .int
  | 9 => .array .int
  | 10 => .array .int
  | 11 => .array .int
  | 12 => .array .int
  | 13 => .array .int
  | 14 => .array .int
  | 15 => .array .long
  | 16 => .array .long
  | 17 => .int
  | 18 => .array .int
  | 19 => .array .int
  | _ => .array .int
abbrev wsX10 : List Cond := u_ws RX1 TX1 21
theorem nmX1 : ∀ a, a < 21 → ∀ b, b < 21 → a ≠ b → (TX1 a).2.1 ≠ (TX1 b).2.1 := by decide +kernel
theorem tyX1_ok : ∀ k, k < 21 → parseFieldDescriptor (TX1 k).2.2.1 = some (tyX1 k) := by decide +kernel
def RX8 : String := "Gearbox$Shape"
def TX8 : u_T := fun k => match k with
  | 0 => ("Gearbox$Shape", "renamed", "[I", true)
  | 1 => ("Gearbox$Shape", "stage", "[I", true)
  | 2 => ("Gearbox$Shape", "path", "[I", true)
  | 3 => ("Gearbox$Shape", "finished", "[I", true)
  | _ => ("Gearbox$Shape", "row", "[I", true)
def tyX8 : Nat → FieldType := fun k => match k with
  | 0 => .array .int
  | 1 => .array .int
  | 2 => .array .int
  | 3 => .array .int
  | _ => .array .int
abbrev wsX80 : List Cond := u_ws RX8 TX8 5
theorem nmX8 : ∀ a, a < 5 → ∀ b, b < 5 → a ≠ b → (TX8 a).2.1 ≠ (TX8 b).2.1 := by decide +kernel
theorem tyX8_ok : ∀ k, k < 5 → parseFieldDescriptor (TX8 k).2.2.1 = some (tyX8 k) := by decide +kernel
def RX4 : String := "Gearbox$Maker"
def TX4 : u_T := fun k => match k with
  | 0 => ("Gearbox$Maker", "shape", "LGearbox$Shape;", true)
  | 1 => ("Gearbox$Maker", "leftOp", "[I", true)
  | 2 => ("Gearbox$Maker", "rightOp", "[I", true)
  | 3 => ("Gearbox$Maker", "valueOf", "[I", true)
  | 4 => ("Gearbox$Maker", "waiting", "[I", true)
  | 5 => ("Gearbox$Maker", "pieces", "I", false)
  | 6 => ("Gearbox$Maker", "pieceFrom", "[I", true)
  | 7 => ("Gearbox$Maker", "pieceTo", "[I", true)
  | 8 => ("Gearbox$Maker", "pieceFirst", "[I", true)
  | 9 => ("Gearbox$Maker", "pieceSecond", "[I", true)
  | 10 => ("Gearbox$Maker", "pieceWays", "[I", true)
  | 11 => ("Gearbox$Maker", "pieceBlock", "[I", true)
  | 12 => ("Gearbox$Maker", "labelPiece", "[I", true)
  | 13 => ("Gearbox$Maker", "found", "[I", true)
  | 14 => ("Gearbox$Maker", "pieceOf", "[I", true)
  | 15 => ("Gearbox$Maker", "uses", "[J", true)
  | 16 => ("Gearbox$Maker", "assigns", "[J", true)
  | 17 => ("Gearbox$Maker", "border", "[J", true)
  | 18 => ("Gearbox$Maker", "phiVariable", "[I", true)
  | _ => ("Gearbox$Maker", "now", "[I", true)
def tyX4 : Nat → FieldType := fun k => match k with
  | 0 => .object "Gearbox$Shape"
  | 1 => .array .int
  | 2 => .array .int
  | 3 => .array .int
  | 4 => .array .int
  | 5 => .int
  | 6 => .array .int
  | 7 => .array .int
  | 8 => .array .int
  | 9 => .array .int
  | 10 => .array .int
  | 11 => .array .int
  | 12 => .array .int
  | 13 => .array .int
  | 14 => .array .int
  | 15 => .array .long
  | 16 => .array .long
  | 17 => .array .long
  | 18 => .array .int
  | _ => .array .int
abbrev wsX40 : List Cond := u_ws RX4 TX4 20
theorem nmX4 : ∀ a, a < 20 → ∀ b, b < 20 → a ≠ b → (TX4 a).2.1 ≠ (TX4 b).2.1 := by decide +kernel
theorem tyX4_ok : ∀ k, k < 20 → parseFieldDescriptor (TX4 k).2.2.1 = some (tyX4 k) := by decide +kernel
def RX5 : String := "Gearbox$Passes"
def TX5 : u_T := fun k => match k with
  | 0 => ("Gearbox$Passes", "shape", "LGearbox$Shape;", true)
  | 1 => ("Gearbox$Passes", "giver", "[I", true)
  | 2 => ("Gearbox$Passes", "home", "[I", true)
  | 3 => ("Gearbox$Passes", "state", "[I", true)
  | 4 => ("Gearbox$Passes", "number", "[I", true)
  | 5 => ("Gearbox$Passes", "standIn", "[I", true)
  | 6 => ("Gearbox$Passes", "marks", "[I", true)
  | 7 => ("Gearbox$Passes", "reached", "J", false)
  | 8 => ("Gearbox$Passes", "seenStep", "[I", true)
  | 9 => ("Gearbox$Passes", "seenBlock", "[I", true)
  | 10 => ("Gearbox$Passes", "seen", "I", false)
  | _ => ("Gearbox$Passes", "path", "[I", true)
def tyX5 : Nat → FieldType := fun k => match k with
  | 0 => .object "Gearbox$Shape"
  | 1 => .array .int
  | 2 => .array .int
  | 3 => .array .int
  | 4 => .array .int
  | 5 => .array .int
  | 6 => .array .int
  | 7 => .long
  | 8 => .array .int
  | 9 => .array .int
  | 10 => .int
  | _ => .array .int
abbrev wsX50 : List Cond := u_ws RX5 TX5 12
theorem nmX5 : ∀ a, a < 12 → ∀ b, b < 12 → a ≠ b → (TX5 a).2.1 ≠ (TX5 b).2.1 := by decide +kernel
theorem tyX5_ok : ∀ k, k < 12 → parseFieldDescriptor (TX5 k).2.2.1 = some (tyX5 k) := by decide +kernel
def RX0 : String := "Gearbox$Allocator"
def TX0 : u_T := fun k => match k with
  | 0 => ("Gearbox$Allocator", "work", "LGearbox$Flow;", true)
  | 1 => ("Gearbox$Allocator", "code", "[LGearbox$Steps;", true)
  | 2 => ("Gearbox$Allocator", "slotCounts", "[I", true)
  | 3 => ("Gearbox$Allocator", "unitedCounts", "[I", true)
  | 4 => ("Gearbox$Allocator", "roundCounts", "[I", true)
  | 5 => ("Gearbox$Allocator", "hasCode", "Z", false)
  | 6 => ("Gearbox$Allocator", "graph", "LGearbox$Graph;", true)
  | 7 => ("Gearbox$Allocator", "registers", "I", false)
  | 8 => ("Gearbox$Allocator", "values", "I", false)
  | 9 => ("Gearbox$Allocator", "homes", "I", false)
  | 10 => ("Gearbox$Allocator", "slotCount", "I", false)
  | 11 => ("Gearbox$Allocator", "unitedCount", "I", false)
  | 12 => ("Gearbox$Allocator", "slot", "[I", false)
  | 13 => ("Gearbox$Allocator", "number", "[I", false)
  | 14 => ("Gearbox$Allocator", "copyTo", "[I", true)
  | 15 => ("Gearbox$Allocator", "copyFrom", "[I", true)
  | _ => ("Gearbox$Allocator", "lineOf", "[I", true)
def tyX0 : Nat → FieldType := fun k => match k with
  | 0 => .object "Gearbox$Flow"
  | 1 => .array (.object "Gearbox$Steps")
  | 2 => .array .int
  | 3 => .array .int
  | 4 => .array .int
  | 5 => .boolean
  | 6 => .object "Gearbox$Graph"
  | 7 => .int
  | 8 => .int
  | 9 => .int
  | 10 => .int
  | 11 => .int
  | 12 => .array .int
  | 13 => .array .int
  | 14 => .array .int
  | 15 => .array .int
  | _ => .array .int
abbrev wsX00 : List Cond := u_ws RX0 TX0 17
theorem nmX0 : ∀ a, a < 17 → ∀ b, b < 17 → a ≠ b → (TX0 a).2.1 ≠ (TX0 b).2.1 := by decide +kernel
theorem tyX0_ok : ∀ k, k < 17 → parseFieldDescriptor (TX0 k).2.2.1 = some (tyX0 k) := by decide +kernel
def RX2 : String := "Gearbox$Graph"
def TX2 : u_T := fun k => match k with
  | 0 => ("Gearbox$Graph", "homes", "I", false)
  | 1 => ("Gearbox$Graph", "values", "I", false)
  | 2 => ("Gearbox$Graph", "width", "I", false)
  | 3 => ("Gearbox$Graph", "uses", "[J", false)
  | 4 => ("Gearbox$Graph", "givenIn", "[J", false)
  | 5 => ("Gearbox$Graph", "liveIn", "[J", false)
  | 6 => ("Gearbox$Graph", "live", "[J", false)
  | 7 => ("Gearbox$Graph", "liveGuests", "[I", true)
  | 8 => ("Gearbox$Graph", "guests", "I", false)
  | 9 => ("Gearbox$Graph", "chain", "[I", false)
  | 10 => ("Gearbox$Graph", "near", "[J", false)
  | 11 => ("Gearbox$Graph", "mate", "[I", false)
  | 12 => ("Gearbox$Graph", "degree", "[I", false)
  | 13 => ("Gearbox$Graph", "cost", "[J", false)
  | 14 => ("Gearbox$Graph", "givers", "[I", false)
  | 15 => ("Gearbox$Graph", "giver", "[I", false)
  | 16 => ("Gearbox$Graph", "register", "[I", false)
  | 17 => ("Gearbox$Graph", "left", "[I", false)
  | _ => ("Gearbox$Graph", "order", "[I", false)
def tyX2 : Nat → FieldType := fun k => match k with
  | 0 => .int
  | 1 => .int
  | 2 => .int
  | 3 => .array .long
  | 4 => .array .long
  | 5 => .array .long
  | 6 => .array .long
  | 7 => .array .int
  | 8 => .int
  | 9 => .array .int
  | 10 => .array .long
  | 11 => .array .int
  | 12 => .array .int
  | 13 => .array .long
  | 14 => .array .int
  | 15 => .array .int
  | 16 => .array .int
  | 17 => .array .int
  | _ => .array .int
abbrev wsX20 : List Cond := u_ws RX2 TX2 19
theorem nmX2 : ∀ a, a < 19 → ∀ b, b < 19 → a ≠ b → (TX2 a).2.1 ≠ (TX2 b).2.1 := by decide +kernel
theorem tyX2_ok : ∀ k, k < 19 → parseFieldDescriptor (TX2 k).2.2.1 = some (tyX2 k) := by decide +kernel
def RX3 : String := "Gearbox$Machine"
def TX3 : u_T := fun k => match k with
  | 0 => ("Gearbox$Machine", "outcome", "I", false)
  | 1 => ("Gearbox$Machine", "result", "I", false)
  | 2 => ("Gearbox$Machine", "steps", "I", false)
  | 3 => ("Gearbox$Machine", "memory", "[I", true)
  | 4 => ("Gearbox$Machine", "program", "LGearbox$Program;", false)
  | 5 => ("Gearbox$Machine", "flows", "[LGearbox$Flow;", true)
  | 6 => ("Gearbox$Machine", "allocator", "LGearbox$Allocator;", true)
  | 7 => ("Gearbox$Machine", "told", "[I", true)
  | 8 => ("Gearbox$Machine", "isRunning", "Z", false)
  | 9 => ("Gearbox$Machine", "calls", "I", false)
  | 10 => ("Gearbox$Machine", "function", "[I", true)
  | 11 => ("Gearbox$Machine", "at", "[I", true)
  | 12 => ("Gearbox$Machine", "block", "[I", true)
  | 13 => ("Gearbox$Machine", "blockAhead", "[I", true)
  | 14 => ("Gearbox$Machine", "arguments", "[I", true)
  | 15 => ("Gearbox$Machine", "cells", "[I", true)
  | 16 => ("Gearbox$Machine", "slots", "[I", false)
  | 17 => ("Gearbox$Machine", "slotRoom", "I", false)
  | 18 => ("Gearbox$Machine", "waiting", "[I", true)
  | _ => ("Gearbox$Machine", "count", "I", false)
def tyX3 : Nat → FieldType := fun k => match k with
  | 0 => .int
  | 1 => .int
  | 2 => .int
  | 3 => .array .int
  | 4 => .object "Gearbox$Program"
  | 5 => .array (.object "Gearbox$Flow")
  | 6 => .object "Gearbox$Allocator"
  | 7 => .array .int
  | 8 => .boolean
  | 9 => .int
  | 10 => .array .int
  | 11 => .array .int
  | 12 => .array .int
  | 13 => .array .int
  | 14 => .array .int
  | 15 => .array .int
  | 16 => .array .int
  | 17 => .int
  | 18 => .array .int
  | _ => .int
abbrev wsX30 : List Cond := u_ws RX3 TX3 20
theorem nmX3 : ∀ a, a < 20 → ∀ b, b < 20 → a ≠ b → (TX3 a).2.1 ≠ (TX3 b).2.1 := by decide +kernel
theorem tyX3_ok : ∀ k, k < 20 → parseFieldDescriptor (TX3 k).2.2.1 = some (tyX3 k) := by decide +kernel
def RX11 : String := "Gearbox"
def TX11 : u_T := fun k => match k with
  | 0 => ("Gearbox", "tokens", "LGearbox$Tokens;", true)
  | 1 => ("Gearbox", "reader", "LGearbox$Reader;", true)
  | 2 => ("Gearbox", "flows", "[LGearbox$Flow;", true)
  | 3 => ("Gearbox", "maker", "LGearbox$Maker;", true)
  | 4 => ("Gearbox", "passes", "LGearbox$Passes;", true)
  | 5 => ("Gearbox", "allocator", "LGearbox$Allocator;", true)
  | 6 => ("Gearbox", "machine", "LGearbox$Machine;", true)
  | 7 => ("Gearbox", "ends", "[[I", true)
  | 8 => ("Gearbox", "program", "LGearbox$Program;", false)
  | 9 => ("Gearbox", "spare", "LGearbox$Program;", false)
  | _ => ("Gearbox", "errorPlace", "I", false)
def tyX11 : Nat → FieldType := fun k => match k with
  | 0 => .object "Gearbox$Tokens"
  | 1 => .object "Gearbox$Reader"
  | 2 => .array (.object "Gearbox$Flow")
  | 3 => .object "Gearbox$Maker"
  | 4 => .object "Gearbox$Passes"
  | 5 => .object "Gearbox$Allocator"
  | 6 => .object "Gearbox$Machine"
  | 7 => .array (.array .int)
  | 8 => .object "Gearbox$Program"
  | 9 => .object "Gearbox$Program"
  | _ => .int
abbrev wsX110 : List Cond := u_ws RX11 TX11 11
theorem nmX11 : ∀ a, a < 11 → ∀ b, b < 11 → a ≠ b → (TX11 a).2.1 ≠ (TX11 b).2.1 := by decide +kernel
theorem tyX11_ok : ∀ k, k < 11 → parseFieldDescriptor (TX11 k).2.2.1 = some (tyX11 k) := by decide +kernel
def RJ0 : String := "java/lang/String"
def RJ1 : String := "java/lang/StringLatin1"
def RJ3 : String := "jdk/internal/util/Preconditions"
def RX20 : String := "GearboxModel$Row"
def TX20 : u_T := fun k => match k with
  | 0 => ("GearboxModel$Row", "at", "[I", false)
  | _ => ("GearboxModel$Row", "size", "I", false)
def tyX20 : Nat → FieldType := fun k => match k with
  | 0 => .array .int
  | _ => .int
abbrev wsX200 : List Cond := u_ws RX20 TX20 2
theorem nmX20 : ∀ a, a < 2 → ∀ b, b < 2 → a ≠ b → (TX20 a).2.1 ≠ (TX20 b).2.1 := by decide +kernel
theorem tyX20_ok : ∀ k, k < 2 → parseFieldDescriptor (TX20 k).2.2.1 = some (tyX20 k) := by decide +kernel
def RX22 : String := "GearboxModel$Text"
def TX22 : u_T := fun k => match k with
  | 0 => ("GearboxModel$Text", "knots", "I", false)
  | 1 => ("GearboxModel$Text", "sort", "[I", true)
  | 2 => ("GearboxModel$Text", "a", "[I", true)
  | 3 => ("GearboxModel$Text", "b", "[I", true)
  | 4 => ("GearboxModel$Text", "c", "[I", true)
  | 5 => ("GearboxModel$Text", "d", "[I", true)
  | 6 => ("GearboxModel$Text", "next", "[I", true)
  | 7 => ("GearboxModel$Text", "at", "[I", true)
  | 8 => ("GearboxModel$Text", "high", "[I", true)
  | 9 => ("GearboxModel$Text", "functions", "I", false)
  | 10 => ("GearboxModel$Text", "name", "[I", true)
  | 11 => ("GearboxModel$Text", "nameAt", "[I", true)
  | 12 => ("GearboxModel$Text", "parameters", "[I", true)
  | 13 => ("GearboxModel$Text", "variables", "[I", true)
  | _ => ("GearboxModel$Text", "body", "[I", true)
def tyX22 : Nat → FieldType := fun k => match k with
  | 0 => .int
  | 1 => .array .int
  | 2 => .array .int
  | 3 => .array .int
  | 4 => .array .int
  | 5 => .array .int
  | 6 => .array .int
  | 7 => .array .int
  | 8 => .array .int
  | 9 => .int
  | 10 => .array .int
  | 11 => .array .int
  | 12 => .array .int
  | 13 => .array .int
  | _ => .array .int
abbrev wsX220 : List Cond := u_ws RX22 TX22 15
theorem nmX22 : ∀ a, a < 15 → ∀ b, b < 15 → a ≠ b → (TX22 a).2.1 ≠ (TX22 b).2.1 := by decide +kernel
theorem tyX22_ok : ∀ k, k < 15 → parseFieldDescriptor (TX22 k).2.2.1 = some (tyX22 k) := by decide +kernel
def RX21 : String := "GearboxModel$Runner"
def TX21 : u_T := fun k => match k with
  | 0 => ("GearboxModel$Runner", "memory", "[I", true)
  | 1 => ("GearboxModel$Runner", "outcome", "I", false)
  | 2 => ("GearboxModel$Runner", "result", "I", false)
  | 3 => ("GearboxModel$Runner", "steps", "I", false)
  | 4 => ("GearboxModel$Runner", "t", "LGearboxModel$Text;", false)
  | 5 => ("GearboxModel$Runner", "graphs", "[LGearboxModel$Graph;", false)
  | 6 => ("GearboxModel$Runner", "codes", "[LGearboxModel$Code;", false)
  | 7 => ("GearboxModel$Runner", "todo", "LGearboxModel$Row;", false)
  | 8 => ("GearboxModel$Runner", "values", "LGearboxModel$Row;", false)
  | 9 => ("GearboxModel$Runner", "variables", "LGearboxModel$Row;", false)
  | 10 => ("GearboxModel$Runner", "base", "I", false)
  | 11 => ("GearboxModel$Runner", "calls", "I", false)
  | 12 => ("GearboxModel$Runner", "own", "[[I", true)
  | 13 => ("GearboxModel$Runner", "runs", "[I", true)
  | 14 => ("GearboxModel$Runner", "at", "[I", true)
  | 15 => ("GearboxModel$Runner", "block", "[LGearboxModel$Block;", true)
  | 16 => ("GearboxModel$Runner", "given", "LGearboxModel$Row;", true)
  | _ => ("GearboxModel$Runner", "taken", "[I", false)
def tyX21 : Nat → FieldType := fun k => match k with
  | 0 => .array .int
  | 1 => .int
  | 2 => .int
  | 3 => .int
  | 4 => .object "GearboxModel$Text"
  | 5 => .array (.object "GearboxModel$Graph")
  | 6 => .array (.object "GearboxModel$Code")
  | 7 => .object "GearboxModel$Row"
  | 8 => .object "GearboxModel$Row"
  | 9 => .object "GearboxModel$Row"
  | 10 => .int
  | 11 => .int
  | 12 => .array (.array .int)
  | 13 => .array .int
  | 14 => .array .int
  | 15 => .array (.object "GearboxModel$Block")
  | 16 => .object "GearboxModel$Row"
  | _ => .array .int
abbrev wsX210 : List Cond := u_ws RX21 TX21 18
theorem nmX21 : ∀ a, a < 18 → ∀ b, b < 18 → a ≠ b → (TX21 a).2.1 ≠ (TX21 b).2.1 := by decide +kernel
theorem tyX21_ok : ∀ k, k < 18 → parseFieldDescriptor (TX21 k).2.2.1 = some (tyX21 k) := by decide +kernel
def RX24 : String := "GearboxModel"
def TX24 : u_T := fun k => match k with
  | 0 => ("GearboxModel", "tape", "[I", true)
  | 1 => ("GearboxModel", "length", "I", false)
  | 2 => ("GearboxModel", "errorAt", "I", false)
  | 3 => ("GearboxModel", "thrown", "I", false)
  | 4 => ("GearboxModel", "program", "LGearboxModel$Text;", false)
  | 5 => ("GearboxModel", "graphs", "[LGearboxModel$Graph;", false)
  | 6 => ("GearboxModel", "codes", "[LGearboxModel$Code;", false)
  | 7 => ("GearboxModel", "runner", "LGearboxModel$Runner;", true)
  | _ => ("GearboxModel", "trial", "LGearboxModel$Runner;", true)
def tyX24 : Nat → FieldType := fun k => match k with
  | 0 => .array .int
  | 1 => .int
  | 2 => .int
  | 3 => .int
  | 4 => .object "GearboxModel$Text"
  | 5 => .array (.object "GearboxModel$Graph")
  | 6 => .array (.object "GearboxModel$Code")
  | 7 => .object "GearboxModel$Runner"
  | _ => .object "GearboxModel$Runner"
abbrev wsX240 : List Cond := u_ws RX24 TX24 9
theorem nmX24 : ∀ a, a < 9 → ∀ b, b < 9 → a ≠ b → (TX24 a).2.1 ≠ (TX24 b).2.1 := by decide +kernel
theorem tyX24_ok : ∀ k, k < 9 → parseFieldDescriptor (TX24 k).2.2.1 = some (tyX24 k) := by decide +kernel
def RX14 : String := "GearboxModel$Graph"
def RX13 : String := "GearboxModel$Code"
def RX12 : String := "GearboxModel$Block"
def RL : String := "GearboxLaw"
abbrev cX10_init : ByteArray := prog_12_method_1_code
def yX10_init : MethodName := ⟨RX10, "<init>", "()V"⟩
abbrev cX6_init : ByteArray := prog_8_method_1_code
def yX6_init : MethodName := ⟨RX6, "<init>", "()V"⟩
abbrev cX7_init : ByteArray := prog_9_method_1_code
def yX7_init : MethodName := ⟨RX7, "<init>", "(LGearbox$Tokens;)V"⟩
abbrev cX9_init : ByteArray := prog_11_method_1_code
def yX9_init : MethodName := ⟨RX9, "<init>", "(I)V"⟩
abbrev cX1_init : ByteArray := prog_3_method_1_code
def yX1_init : MethodName := ⟨RX1, "<init>", "()V"⟩
abbrev cX8_init : ByteArray := prog_10_method_1_code
def yX8_init : MethodName := ⟨RX8, "<init>", "()V"⟩
abbrev cX4_init : ByteArray := prog_6_method_1_code
def yX4_init : MethodName := ⟨RX4, "<init>", "(LGearbox$Shape;)V"⟩
abbrev cX5_init : ByteArray := prog_7_method_1_code
def yX5_init : MethodName := ⟨RX5, "<init>", "(LGearbox$Shape;)V"⟩
abbrev cX2_init : ByteArray := prog_4_method_1_code
def yX2_init : MethodName := ⟨RX2, "<init>", "()V"⟩
abbrev cX0_init : ByteArray := prog_2_method_1_code
def yX0_init : MethodName := ⟨RX0, "<init>", "()V"⟩
abbrev cX3_init : ByteArray := prog_5_method_1_code
def yX3_init : MethodName := ⟨RX3, "<init>", "(LGearbox$Program;[LGearbox$Flow;LGearbox$Allocator;)V"⟩
abbrev cX11_init : ByteArray := prog_1_method_1_code
def yX11_init : MethodName := ⟨RX11, "<init>", "()V"⟩
abbrev cX11_feed : ByteArray := prog_1_method_2_code
def yX11_feed : MethodName := ⟨RX11, "feed", "(IIIII)I"⟩
abbrev cX10_append : ByteArray := prog_12_method_2_code
def yX10_append : MethodName := ⟨RX10, "append", "(I)V"⟩
abbrev cX11_trim : ByteArray := prog_1_method_3_code
def yX11_trim : MethodName := ⟨RX11, "trim", "(I)I"⟩
abbrev cX11_errorAt : ByteArray := prog_1_method_5_code
def yX11_errorAt : MethodName := ⟨RX11, "errorAt", "()I"⟩
abbrev cX11_restore : ByteArray := prog_1_method_6_code
def yX11_restore : MethodName := ⟨RX11, "restore", "()I"⟩
abbrev cX11_functions : ByteArray := prog_1_method_7_code
def yX11_functions : MethodName := ⟨RX11, "functions", "()I"⟩
abbrev cX11_fold : ByteArray := prog_1_method_27_code
def yX11_fold : MethodName := ⟨RX11, "fold", "()I"⟩
abbrev cX11_same : ByteArray := prog_1_method_28_code
def yX11_same : MethodName := ⟨RX11, "same", "()I"⟩
abbrev cX11_drop : ByteArray := prog_1_method_29_code
def yX11_drop : MethodName := ⟨RX11, "drop", "()I"⟩
abbrev cX11_lift : ByteArray := prog_1_method_30_code
def yX11_lift : MethodName := ⟨RX11, "lift", "()I"⟩
abbrev cX11_merge : ByteArray := prog_1_method_31_code
def yX11_merge : MethodName := ⟨RX11, "merge", "()I"⟩
abbrev cX11_settle : ByteArray := prog_1_method_32_code
def yX11_settle : MethodName := ⟨RX11, "settle", "()I"⟩
abbrev cX11_outcome : ByteArray := prog_1_method_43_code
def yX11_outcome : MethodName := ⟨RX11, "outcome", "()I"⟩
abbrev cX11_result : ByteArray := prog_1_method_44_code
def yX11_result : MethodName := ⟨RX11, "result", "()I"⟩
abbrev cX11_stepsRun : ByteArray := prog_1_method_45_code
def yX11_stepsRun : MethodName := ⟨RX11, "stepsRun", "()I"⟩
abbrev cX11_parametersOf : ByteArray := prog_1_method_8_code
def yX11_parametersOf : MethodName := ⟨RX11, "parametersOf", "(I)I"⟩
abbrev cX11_needFunction : ByteArray := prog_1_method_50_code
def yX11_needFunction : MethodName := ⟨RX11, "needFunction", "(I)V"⟩
abbrev cX11_blocks : ByteArray := prog_1_method_9_code
def yX11_blocks : MethodName := ⟨RX11, "blocks", "(I)I"⟩
abbrev cX11_values : ByteArray := prog_1_method_10_code
def yX11_values : MethodName := ⟨RX11, "values", "(I)I"⟩
abbrev cX11_blockOf : ByteArray := prog_1_method_11_code
def yX11_blockOf : MethodName := ⟨RX11, "blockOf", "(II)I"⟩
abbrev cX11_dominatorOf : ByteArray := prog_1_method_12_code
def yX11_dominatorOf : MethodName := ⟨RX11, "dominatorOf", "(II)I"⟩
abbrev cX11_flowWith : ByteArray := prog_1_method_53_code
def yX11_flowWith : MethodName := ⟨RX11, "flowWith", "(II)LGearbox$Flow;"⟩
abbrev cX11_depthOf : ByteArray := prog_1_method_13_code
def yX11_depthOf : MethodName := ⟨RX11, "depthOf", "(II)I"⟩
abbrev cX11_predecessors : ByteArray := prog_1_method_14_code
def yX11_predecessors : MethodName := ⟨RX11, "predecessors", "(II)I"⟩
abbrev cX11_predecessor : ByteArray := prog_1_method_15_code
def yX11_predecessor : MethodName := ⟨RX11, "predecessor", "(III)I"⟩
abbrev cX11_endOf : ByteArray := prog_1_method_16_code
def yX11_endOf : MethodName := ⟨RX11, "endOf", "(II)I"⟩
abbrev cX11_successor : ByteArray := prog_1_method_17_code
def yX11_successor : MethodName := ⟨RX11, "successor", "(IIZ)I"⟩
abbrev cX11_endValue : ByteArray := prog_1_method_18_code
def yX11_endValue : MethodName := ⟨RX11, "endValue", "(II)I"⟩
abbrev cX11_phis : ByteArray := prog_1_method_19_code
def yX11_phis : MethodName := ⟨RX11, "phis", "(II)I"⟩
abbrev cX11_phiGives : ByteArray := prog_1_method_20_code
def yX11_phiGives : MethodName := ⟨RX11, "phiGives", "(III)I"⟩
abbrev cX11_phiTakes : ByteArray := prog_1_method_21_code
def yX11_phiTakes : MethodName := ⟨RX11, "phiTakes", "(IIII)I"⟩
abbrev cX11_steps : ByteArray := prog_1_method_22_code
def yX11_steps : MethodName := ⟨RX11, "steps", "(II)I"⟩
abbrev cX11_kindOf : ByteArray := prog_1_method_23_code
def yX11_kindOf : MethodName := ⟨RX11, "kindOf", "(III)I"⟩
abbrev cX11_stepAt : ByteArray := prog_1_method_54_code
def yX11_stepAt : MethodName := ⟨RX11, "stepAt", "(III)I"⟩
abbrev cX11_gives : ByteArray := prog_1_method_24_code
def yX11_gives : MethodName := ⟨RX11, "gives", "(III)I"⟩
abbrev cX11_leftOf : ByteArray := prog_1_method_25_code
def yX11_leftOf : MethodName := ⟨RX11, "leftOf", "(III)I"⟩
abbrev cX11_rightOf : ByteArray := prog_1_method_26_code
def yX11_rightOf : MethodName := ⟨RX11, "rightOf", "(III)I"⟩
abbrev cX11_lines : ByteArray := prog_1_method_34_code
def yX11_lines : MethodName := ⟨RX11, "lines", "(I)I"⟩
abbrev cX11_codeKind : ByteArray := prog_1_method_35_code
def yX11_codeKind : MethodName := ⟨RX11, "codeKind", "(II)I"⟩
abbrev cX11_codeWith : ByteArray := prog_1_method_56_code
def yX11_codeWith : MethodName := ⟨RX11, "codeWith", "(II)LGearbox$Steps;"⟩
abbrev cX11_codeGives : ByteArray := prog_1_method_36_code
def yX11_codeGives : MethodName := ⟨RX11, "codeGives", "(II)I"⟩
abbrev cX11_codeLeft : ByteArray := prog_1_method_37_code
def yX11_codeLeft : MethodName := ⟨RX11, "codeLeft", "(II)I"⟩
abbrev cX11_codeRight : ByteArray := prog_1_method_38_code
def yX11_codeRight : MethodName := ⟨RX11, "codeRight", "(II)I"⟩
abbrev cX11_slots : ByteArray := prog_1_method_39_code
def yX11_slots : MethodName := ⟨RX11, "slots", "(I)I"⟩
abbrev cX11_united : ByteArray := prog_1_method_40_code
def yX11_united : MethodName := ⟨RX11, "united", "(I)I"⟩
abbrev cX11_rounds : ByteArray := prog_1_method_41_code
def yX11_rounds : MethodName := ⟨RX11, "rounds", "(I)I"⟩
abbrev cX11_run : ByteArray := prog_1_method_42_code
def yX11_run : MethodName := ⟨RX11, "run", "(IIIIII)I"⟩
abbrev cX11_differences : ByteArray := prog_1_method_47_code
def yX11_differences : MethodName := ⟨RX11, "differences", "(III)I"⟩
abbrev cX11_word : ByteArray := prog_1_method_46_code
def yX11_word : MethodName := ⟨RX11, "word", "(I)I"⟩
abbrev cX11_needPlace : ByteArray := prog_1_method_51_code
def yX11_needPlace : MethodName := ⟨RX11, "needPlace", "(II)V"⟩
abbrev cX11_allocate : ByteArray := prog_1_method_33_code
def yX11_allocate : MethodName := ⟨RX11, "allocate", "(I)I"⟩
abbrev cX11_meanCode : ByteArray := prog_1_method_48_code
def yX11_meanCode : MethodName := ⟨RX11, "meanCode", "()D"⟩
abbrev cX11_digest : ByteArray := prog_1_method_49_code
def yX11_digest : MethodName := ⟨RX11, "digest", "()J"⟩
abbrev cX11_load : ByteArray := prog_1_method_4_code
def yX11_load : MethodName := ⟨RX11, "load", "()I"⟩
abbrev cX7_readProgram : ByteArray := prog_9_method_2_code
def yX7_readProgram : MethodName := ⟨RX7, "readProgram", "(LGearbox$Program;)I"⟩
abbrev cX6_clear : ByteArray := prog_8_method_2_code
def yX6_clear : MethodName := ⟨RX6, "clear", "()V"⟩
abbrev cX10_begin : ByteArray := prog_12_method_3_code
def yX10_begin : MethodName := ⟨RX10, "begin", "()V"⟩
abbrev cX10_advance : ByteArray := prog_12_method_4_code
def yX10_advance : MethodName := ⟨RX10, "advance", "()V"⟩
abbrev cX7_readFunction : ByteArray := prog_9_method_3_code
def yX7_readFunction : MethodName := ⟨RX7, "readFunction", "(I)V"⟩
abbrev cX7_expect : ByteArray := prog_9_method_25_code
def yX7_expect : MethodName := ⟨RX7, "expect", "(I)V"⟩
abbrev cX7_refuse : ByteArray := prog_9_method_26_code
def yX7_refuse : MethodName := ⟨RX7, "refuse", "()V"⟩
abbrev cJ0_length_8abf5 : ByteArray := prog_40_method_54_code
def yJ0_length_8abf5 : MethodName := ⟨RJ0, "length", "()I"⟩
abbrev cJ0_coder_7d493 : ByteArray := prog_40_method_152_code
def yJ0_coder_7d493 : MethodName := ⟨RJ0, "coder", "()B"⟩
abbrev cJ0_charAt_5068e : ByteArray := prog_40_method_56_code
def yJ0_charAt_5068e : MethodName := ⟨RJ0, "charAt", "(I)C"⟩
abbrev cJ0_isLatin1_aae02 : ByteArray := prog_40_method_154_code
def yJ0_isLatin1_aae02 : MethodName := ⟨RJ0, "isLatin1", "()Z"⟩
abbrev cJ1_charAt_3b067 : ByteArray := prog_42_method_2_code
def yJ1_charAt_3b067 : MethodName := ⟨RJ1, "charAt", "([BI)C"⟩
abbrev cJ0_checkIndex_df160 : ByteArray := prog_40_method_155_code
def yJ0_checkIndex_df160 : MethodName := ⟨RJ0, "checkIndex", "(II)V"⟩
abbrev cJ3_checkIndex_8e157 : ByteArray := prog_48_method_11_code
def yJ3_checkIndex_8e157 : MethodName := ⟨RJ3, "checkIndex", "(IILjava/util/function/BiFunction;)I"⟩
abbrev cX20_init : ByteArray := prog_23_method_1_code
def yX20_init : MethodName := ⟨RX20, "<init>", "()V"⟩
abbrev cX22_init : ByteArray := prog_25_method_1_code
def yX22_init : MethodName := ⟨RX22, "<init>", "()V"⟩
abbrev cX21_init : ByteArray := prog_24_method_1_code
def yX21_init : MethodName := ⟨RX21, "<init>", "()V"⟩
abbrev cX24_init : ByteArray := prog_14_method_7_code
def yX24_init : MethodName := ⟨RX24, "<init>", "()V"⟩
abbrev cX24_feed : ByteArray := prog_14_method_12_code
def yX24_feed : MethodName := ⟨RX24, "feed", "(IIIII)I"⟩
abbrev cX24_add : ByteArray := prog_14_method_11_code
def yX24_add : MethodName := ⟨RX24, "add", "(I)V"⟩
abbrev cX24_trim : ByteArray := prog_14_method_13_code
def yX24_trim : MethodName := ⟨RX24, "trim", "(I)I"⟩
abbrev cX24_no : ByteArray := prog_14_method_9_code
def yX24_no : MethodName := ⟨RX24, "no", "(I)I"⟩
abbrev cX24_errorAt : ByteArray := prog_14_method_16_code
def yX24_errorAt : MethodName := ⟨RX24, "errorAt", "()I"⟩
abbrev cX24_ok : ByteArray := prog_14_method_10_code
def yX24_ok : MethodName := ⟨RX24, "ok", "(I)I"⟩
abbrev cX24_restore : ByteArray := prog_14_method_17_code
def yX24_restore : MethodName := ⟨RX24, "restore", "()I"⟩
abbrev cX24_functions : ByteArray := prog_14_method_18_code
def yX24_functions : MethodName := ⟨RX24, "functions", "()I"⟩
abbrev cX24_fold : ByteArray := prog_14_method_49_code
def yX24_fold : MethodName := ⟨RX24, "fold", "()I"⟩
abbrev cX24_passAll : ByteArray := prog_14_method_48_code
def yX24_passAll : MethodName := ⟨RX24, "passAll", "(I)I"⟩
abbrev cX24_same : ByteArray := prog_14_method_50_code
def yX24_same : MethodName := ⟨RX24, "same", "()I"⟩
abbrev cX24_drop : ByteArray := prog_14_method_51_code
def yX24_drop : MethodName := ⟨RX24, "drop", "()I"⟩
abbrev cX24_lift : ByteArray := prog_14_method_52_code
def yX24_lift : MethodName := ⟨RX24, "lift", "()I"⟩
abbrev cX24_merge : ByteArray := prog_14_method_53_code
def yX24_merge : MethodName := ⟨RX24, "merge", "()I"⟩
abbrev cX24_outcome : ByteArray := prog_14_method_68_code
def yX24_outcome : MethodName := ⟨RX24, "outcome", "()I"⟩
abbrev cX24_result : ByteArray := prog_14_method_69_code
def yX24_result : MethodName := ⟨RX24, "result", "()I"⟩
abbrev cX24_stepsRun : ByteArray := prog_14_method_70_code
def yX24_stepsRun : MethodName := ⟨RX24, "stepsRun", "()I"⟩
abbrev cX24_meanCode : ByteArray := prog_14_method_76_code
def yX24_meanCode : MethodName := ⟨RX24, "meanCode", "()D"⟩
abbrev cX24_settle : ByteArray := prog_14_method_54_code
def yX24_settle : MethodName := ⟨RX24, "settle", "()I"⟩
abbrev cX24_parametersOf : ByteArray := prog_14_method_22_code
def yX24_parametersOf : MethodName := ⟨RX24, "parametersOf", "(I)I"⟩
abbrev cX24_isFunction : ByteArray := prog_14_method_19_code
def yX24_isFunction : MethodName := ⟨RX24, "isFunction", "(I)Z"⟩
abbrev cX24_blocks : ByteArray := prog_14_method_23_code
def yX24_blocks : MethodName := ⟨RX24, "blocks", "(I)I"⟩
abbrev cX24_values : ByteArray := prog_14_method_24_code
def yX24_values : MethodName := ⟨RX24, "values", "(I)I"⟩
abbrev cX24_blockOf : ByteArray := prog_14_method_26_code
def yX24_blockOf : MethodName := ⟨RX24, "blockOf", "(II)I"⟩
abbrev cX24_dominatorOf : ByteArray := prog_14_method_27_code
def yX24_dominatorOf : MethodName := ⟨RX24, "dominatorOf", "(II)I"⟩
abbrev cX24_isBlock : ByteArray := prog_14_method_20_code
def yX24_isBlock : MethodName := ⟨RX24, "isBlock", "(II)Z"⟩
abbrev cX24_depthOf : ByteArray := prog_14_method_28_code
def yX24_depthOf : MethodName := ⟨RX24, "depthOf", "(II)I"⟩
abbrev cX24_predecessors : ByteArray := prog_14_method_29_code
def yX24_predecessors : MethodName := ⟨RX24, "predecessors", "(II)I"⟩
abbrev cX24_predecessor : ByteArray := prog_14_method_31_code
def yX24_predecessor : MethodName := ⟨RX24, "predecessor", "(III)I"⟩
abbrev cX24_isAhead : ByteArray := prog_14_method_30_code
def yX24_isAhead : MethodName := ⟨RX24, "isAhead", "(III)Z"⟩
abbrev cX24_endOf : ByteArray := prog_14_method_32_code
def yX24_endOf : MethodName := ⟨RX24, "endOf", "(II)I"⟩
abbrev cX24_successor : ByteArray := prog_14_method_34_code
def yX24_successor : MethodName := ⟨RX24, "successor", "(IIZ)I"⟩
abbrev cX24_endValue : ByteArray := prog_14_method_35_code
def yX24_endValue : MethodName := ⟨RX24, "endValue", "(II)I"⟩
abbrev cX24_phis : ByteArray := prog_14_method_36_code
def yX24_phis : MethodName := ⟨RX24, "phis", "(II)I"⟩
abbrev cX24_phiGives : ByteArray := prog_14_method_38_code
def yX24_phiGives : MethodName := ⟨RX24, "phiGives", "(III)I"⟩
abbrev cX24_isPhi : ByteArray := prog_14_method_37_code
def yX24_isPhi : MethodName := ⟨RX24, "isPhi", "(III)Z"⟩
abbrev cX24_phiTakes : ByteArray := prog_14_method_39_code
def yX24_phiTakes : MethodName := ⟨RX24, "phiTakes", "(IIII)I"⟩
abbrev cX24_steps : ByteArray := prog_14_method_40_code
def yX24_steps : MethodName := ⟨RX24, "steps", "(II)I"⟩
abbrev cX24_kindOf : ByteArray := prog_14_method_42_code
def yX24_kindOf : MethodName := ⟨RX24, "kindOf", "(III)I"⟩
abbrev cX24_inStep : ByteArray := prog_14_method_41_code
def yX24_inStep : MethodName := ⟨RX24, "inStep", "(IIII)I"⟩
abbrev cX24_gives : ByteArray := prog_14_method_44_code
def yX24_gives : MethodName := ⟨RX24, "gives", "(III)I"⟩
abbrev cX24_leftOf : ByteArray := prog_14_method_45_code
def yX24_leftOf : MethodName := ⟨RX24, "leftOf", "(III)I"⟩
abbrev cX24_rightOf : ByteArray := prog_14_method_46_code
def yX24_rightOf : MethodName := ⟨RX24, "rightOf", "(III)I"⟩
abbrev cX24_lines : ByteArray := prog_14_method_57_code
def yX24_lines : MethodName := ⟨RX24, "lines", "(I)I"⟩
abbrev cX24_codeKind : ByteArray := prog_14_method_59_code
def yX24_codeKind : MethodName := ⟨RX24, "codeKind", "(II)I"⟩
abbrev cX24_inLine : ByteArray := prog_14_method_58_code
def yX24_inLine : MethodName := ⟨RX24, "inLine", "(III)I"⟩
abbrev cX24_codeGives : ByteArray := prog_14_method_60_code
def yX24_codeGives : MethodName := ⟨RX24, "codeGives", "(II)I"⟩
abbrev cX24_codeLeft : ByteArray := prog_14_method_61_code
def yX24_codeLeft : MethodName := ⟨RX24, "codeLeft", "(II)I"⟩
abbrev cX24_codeRight : ByteArray := prog_14_method_62_code
def yX24_codeRight : MethodName := ⟨RX24, "codeRight", "(II)I"⟩
abbrev cX24_slots : ByteArray := prog_14_method_63_code
def yX24_slots : MethodName := ⟨RX24, "slots", "(I)I"⟩
abbrev cX24_united : ByteArray := prog_14_method_64_code
def yX24_united : MethodName := ⟨RX24, "united", "(I)I"⟩
abbrev cX24_rounds : ByteArray := prog_14_method_65_code
def yX24_rounds : MethodName := ⟨RX24, "rounds", "(I)I"⟩
abbrev cX24_run_ : ByteArray := prog_14_method_67_code
def yX24_run_ : MethodName := ⟨RX24, "run", "(IIIIII)I"⟩
abbrev cX24_differences : ByteArray := prog_14_method_75_code
def yX24_differences : MethodName := ⟨RX24, "differences", "(III)I"⟩
abbrev cX24_word : ByteArray := prog_14_method_71_code
def yX24_word : MethodName := ⟨RX24, "word", "(I)I"⟩
abbrev cX24_allocate : ByteArray := prog_14_method_55_code
def yX24_allocate : MethodName := ⟨RX24, "allocate", "(I)I"⟩
abbrev cX24_digest : ByteArray := prog_14_method_78_code
def yX24_digest : MethodName := ⟨RX24, "digest", "()J"⟩
abbrev cL_feed : ByteArray := method_3_code
def yL_feed : MethodName := ⟨RL, "feed", "(LGearbox;IIIII[J)I"⟩
abbrev cL_trim : ByteArray := method_4_code
def yL_trim : MethodName := ⟨RL, "trim", "(LGearbox;I[J)I"⟩
abbrev cL_parametersOf : ByteArray := method_5_code
def yL_parametersOf : MethodName := ⟨RL, "parametersOf", "(LGearbox;I[J)I"⟩
abbrev cL_blocks : ByteArray := method_6_code
def yL_blocks : MethodName := ⟨RL, "blocks", "(LGearbox;I[J)I"⟩
abbrev cL_values : ByteArray := method_7_code
def yL_values : MethodName := ⟨RL, "values", "(LGearbox;I[J)I"⟩
abbrev cL_blockOf : ByteArray := method_8_code
def yL_blockOf : MethodName := ⟨RL, "blockOf", "(LGearbox;II[J)I"⟩
abbrev cL_dominatorOf : ByteArray := method_9_code
def yL_dominatorOf : MethodName := ⟨RL, "dominatorOf", "(LGearbox;II[J)I"⟩
abbrev cL_depthOf : ByteArray := method_10_code
def yL_depthOf : MethodName := ⟨RL, "depthOf", "(LGearbox;II[J)I"⟩
abbrev cL_predecessors : ByteArray := method_11_code
def yL_predecessors : MethodName := ⟨RL, "predecessors", "(LGearbox;II[J)I"⟩
abbrev cL_predecessor : ByteArray := method_12_code
def yL_predecessor : MethodName := ⟨RL, "predecessor", "(LGearbox;III[J)I"⟩
abbrev cL_endOf : ByteArray := method_13_code
def yL_endOf : MethodName := ⟨RL, "endOf", "(LGearbox;II[J)I"⟩
abbrev cL_successor : ByteArray := method_14_code
def yL_successor : MethodName := ⟨RL, "successor", "(LGearbox;IIZ[J)I"⟩
abbrev cL_endValue : ByteArray := method_15_code
def yL_endValue : MethodName := ⟨RL, "endValue", "(LGearbox;II[J)I"⟩
abbrev cL_phis : ByteArray := method_16_code
def yL_phis : MethodName := ⟨RL, "phis", "(LGearbox;II[J)I"⟩
abbrev cL_phiGives : ByteArray := method_17_code
def yL_phiGives : MethodName := ⟨RL, "phiGives", "(LGearbox;III[J)I"⟩
abbrev cL_phiTakes : ByteArray := method_18_code
def yL_phiTakes : MethodName := ⟨RL, "phiTakes", "(LGearbox;IIII[J)I"⟩
abbrev cL_steps : ByteArray := method_19_code
def yL_steps : MethodName := ⟨RL, "steps", "(LGearbox;II[J)I"⟩
abbrev cL_kindOf : ByteArray := method_20_code
def yL_kindOf : MethodName := ⟨RL, "kindOf", "(LGearbox;III[J)I"⟩
abbrev cL_gives : ByteArray := method_21_code
def yL_gives : MethodName := ⟨RL, "gives", "(LGearbox;III[J)I"⟩
abbrev cL_leftOf : ByteArray := method_22_code
def yL_leftOf : MethodName := ⟨RL, "leftOf", "(LGearbox;III[J)I"⟩
abbrev cL_rightOf : ByteArray := method_23_code
def yL_rightOf : MethodName := ⟨RL, "rightOf", "(LGearbox;III[J)I"⟩
abbrev cL_lines : ByteArray := method_25_code
def yL_lines : MethodName := ⟨RL, "lines", "(LGearbox;I[J)I"⟩
abbrev cL_codeKind : ByteArray := method_26_code
def yL_codeKind : MethodName := ⟨RL, "codeKind", "(LGearbox;II[J)I"⟩
abbrev cL_codeGives : ByteArray := method_27_code
def yL_codeGives : MethodName := ⟨RL, "codeGives", "(LGearbox;II[J)I"⟩
abbrev cL_codeLeft : ByteArray := method_28_code
def yL_codeLeft : MethodName := ⟨RL, "codeLeft", "(LGearbox;II[J)I"⟩
abbrev cL_codeRight : ByteArray := method_29_code
def yL_codeRight : MethodName := ⟨RL, "codeRight", "(LGearbox;II[J)I"⟩
abbrev cL_slots : ByteArray := method_30_code
def yL_slots : MethodName := ⟨RL, "slots", "(LGearbox;I[J)I"⟩
abbrev cL_united : ByteArray := method_31_code
def yL_united : MethodName := ⟨RL, "united", "(LGearbox;I[J)I"⟩
abbrev cL_rounds : ByteArray := method_32_code
def yL_rounds : MethodName := ⟨RL, "rounds", "(LGearbox;I[J)I"⟩
abbrev cL_run : ByteArray := method_33_code
def yL_run : MethodName := ⟨RL, "run", "(LGearbox;IIIIII[J)I"⟩
abbrev cL_differences : ByteArray := method_35_code
def yL_differences : MethodName := ⟨RL, "differences", "(LGearbox;III[J)I"⟩
abbrev cL_word : ByteArray := method_34_code
def yL_word : MethodName := ⟨RL, "word", "(LGearbox;I[J)I"⟩
abbrev cL_allocate : ByteArray := method_24_code
def yL_allocate : MethodName := ⟨RL, "allocate", "(LGearbox;I[J)I"⟩
abbrev cX24_thrown : ByteArray := prog_14_method_8_code
def yX24_thrown : MethodName := ⟨RX24, "thrown", "()I"⟩
abbrev cL_law : ByteArray := code
theorem dJ0_charAt_5068e_0 : decode cJ0_charAt_5068e 0 = .ok (.aload_n 0, 1) := by decide +kernel
theorem dJ0_charAt_5068e_1 : decode cJ0_charAt_5068e 1 = .ok (.invokevirtual 492, 3) := by decide +kernel
theorem dJ0_charAt_5068e_4 : decode cJ0_charAt_5068e 4 = .ok (.ifCond .eq 12, 3) := by decide +kernel
theorem dJ0_charAt_5068e_7 : decode cJ0_charAt_5068e 7 = .ok (.aload_n 0, 1) := by decide +kernel
theorem dJ0_charAt_5068e_8 : decode cJ0_charAt_5068e 8 = .ok (.getfield 9, 3) := by decide +kernel
theorem dJ0_charAt_5068e_11 : decode cJ0_charAt_5068e 11 = .ok (.iload_n 1, 1) := by decide +kernel
theorem dJ0_charAt_5068e_12 : decode cJ0_charAt_5068e 12 = .ok (.invokestatic 495, 3) := by decide +kernel
theorem dJ0_charAt_5068e_15 : decode cJ0_charAt_5068e 15 = .ok (.ireturn, 1) := by decide +kernel
theorem dJ0_checkIndex_df160_0 : decode cJ0_checkIndex_df160 0 = .ok (.iload_n 0, 1) := by decide +kernel
theorem dJ0_checkIndex_df160_1 : decode cJ0_checkIndex_df160 1 = .ok (.iload_n 1, 1) := by decide +kernel
theorem dJ0_checkIndex_df160_2 : decode cJ0_checkIndex_df160 2 = .ok (.getstatic 1053, 3) := by decide +kernel
theorem dJ0_checkIndex_df160_5 : decode cJ0_checkIndex_df160 5 = .ok (.invokestatic 1059, 3) := by decide +kernel
theorem dJ0_checkIndex_df160_8 : decode cJ0_checkIndex_df160 8 = .ok (.pop, 1) := by decide +kernel
theorem dJ0_checkIndex_df160_9 : decode cJ0_checkIndex_df160 9 = .ok (.return_, 1) := by decide +kernel
theorem dJ0_coder_7d493_0 : decode cJ0_coder_7d493 0 = .ok (.getstatic 38, 3) := by decide +kernel
theorem dJ0_coder_7d493_3 : decode cJ0_coder_7d493 3 = .ok (.ifCond .eq 10, 3) := by decide +kernel
theorem dJ0_coder_7d493_6 : decode cJ0_coder_7d493 6 = .ok (.aload_n 0, 1) := by decide +kernel
theorem dJ0_coder_7d493_7 : decode cJ0_coder_7d493 7 = .ok (.getfield 15, 3) := by decide +kernel
theorem dJ0_coder_7d493_10 : decode cJ0_coder_7d493 10 = .ok (.goto 4, 3) := by decide +kernel
theorem dJ0_coder_7d493_14 : decode cJ0_coder_7d493 14 = .ok (.ireturn, 1) := by decide +kernel
theorem dJ0_isLatin1_aae02_0 : decode cJ0_isLatin1_aae02 0 = .ok (.getstatic 38, 3) := by decide +kernel
theorem dJ0_isLatin1_aae02_3 : decode cJ0_isLatin1_aae02 3 = .ok (.ifCond .eq 14, 3) := by decide +kernel
theorem dJ0_isLatin1_aae02_6 : decode cJ0_isLatin1_aae02 6 = .ok (.aload_n 0, 1) := by decide +kernel
theorem dJ0_isLatin1_aae02_7 : decode cJ0_isLatin1_aae02 7 = .ok (.getfield 15, 3) := by decide +kernel
theorem dJ0_isLatin1_aae02_10 : decode cJ0_isLatin1_aae02 10 = .ok (.ifCond .ne 7, 3) := by decide +kernel
theorem dJ0_isLatin1_aae02_13 : decode cJ0_isLatin1_aae02 13 = .ok (.iconst 1, 1) := by decide +kernel
theorem dJ0_isLatin1_aae02_14 : decode cJ0_isLatin1_aae02 14 = .ok (.goto 4, 3) := by decide +kernel
theorem dJ0_isLatin1_aae02_18 : decode cJ0_isLatin1_aae02 18 = .ok (.ireturn, 1) := by decide +kernel
theorem dJ0_length_8abf5_0 : decode cJ0_length_8abf5 0 = .ok (.aload_n 0, 1) := by decide +kernel
theorem dJ0_length_8abf5_1 : decode cJ0_length_8abf5 1 = .ok (.getfield 9, 3) := by decide +kernel
theorem dJ0_length_8abf5_4 : decode cJ0_length_8abf5 4 = .ok (.arraylength, 1) := by decide +kernel
theorem dJ0_length_8abf5_5 : decode cJ0_length_8abf5 5 = .ok (.aload_n 0, 1) := by decide +kernel
theorem dJ0_length_8abf5_6 : decode cJ0_length_8abf5 6 = .ok (.invokevirtual 335, 3) := by decide +kernel
theorem dJ0_length_8abf5_9 : decode cJ0_length_8abf5 9 = .ok (.ishr, 1) := by decide +kernel
theorem dJ0_length_8abf5_10 : decode cJ0_length_8abf5 10 = .ok (.ireturn, 1) := by decide +kernel
theorem dJ1_charAt_3b067_0 : decode cJ1_charAt_3b067 0 = .ok (.iload_n 1, 1) := by decide +kernel
theorem dJ1_charAt_3b067_1 : decode cJ1_charAt_3b067 1 = .ok (.aload_n 0, 1) := by decide +kernel
theorem dJ1_charAt_3b067_2 : decode cJ1_charAt_3b067 2 = .ok (.arraylength, 1) := by decide +kernel
theorem dJ1_charAt_3b067_3 : decode cJ1_charAt_3b067 3 = .ok (.invokestatic 9, 3) := by decide +kernel
theorem dJ1_charAt_3b067_6 : decode cJ1_charAt_3b067 6 = .ok (.aload_n 0, 1) := by decide +kernel
theorem dJ1_charAt_3b067_7 : decode cJ1_charAt_3b067 7 = .ok (.iload_n 1, 1) := by decide +kernel
theorem dJ1_charAt_3b067_8 : decode cJ1_charAt_3b067 8 = .ok (.baload, 1) := by decide +kernel
theorem dJ1_charAt_3b067_9 : decode cJ1_charAt_3b067 9 = .ok (.sipush 255, 3) := by decide +kernel
theorem dJ1_charAt_3b067_12 : decode cJ1_charAt_3b067 12 = .ok (.iand, 1) := by decide +kernel
theorem dJ1_charAt_3b067_13 : decode cJ1_charAt_3b067 13 = .ok (.i2c, 1) := by decide +kernel
theorem dJ1_charAt_3b067_14 : decode cJ1_charAt_3b067 14 = .ok (.ireturn, 1) := by decide +kernel
theorem dJ3_checkIndex_8e157_0 : decode cJ3_checkIndex_8e157 0 = .ok (.iload_n 0, 1) := by decide +kernel
theorem dJ3_checkIndex_8e157_1 : decode cJ3_checkIndex_8e157 1 = .ok (.ifCond .lt 8, 3) := by decide +kernel
theorem dJ3_checkIndex_8e157_4 : decode cJ3_checkIndex_8e157 4 = .ok (.iload_n 0, 1) := by decide +kernel
theorem dJ3_checkIndex_8e157_5 : decode cJ3_checkIndex_8e157 5 = .ok (.iload_n 1, 1) := by decide +kernel
theorem dJ3_checkIndex_8e157_6 : decode cJ3_checkIndex_8e157 6 = .ok (.if_icmp .lt 10, 3) := by decide +kernel
theorem dJ3_checkIndex_8e157_16 : decode cJ3_checkIndex_8e157 16 = .ok (.iload_n 0, 1) := by decide +kernel
theorem dJ3_checkIndex_8e157_17 : decode cJ3_checkIndex_8e157 17 = .ok (.ireturn, 1) := by decide +kernel
theorem dL_allocate_0 : decode cL_allocate 0 = .ok (.aload_n 2, 1) := by decide +kernel
theorem dL_allocate_1 : decode cL_allocate 1 = .ok (.iconst 0, 1) := by decide +kernel
theorem dL_allocate_2 : decode cL_allocate 2 = .ok (.aload_n 0, 1) := by decide +kernel
theorem dL_allocate_3 : decode cL_allocate 3 = .ok (.iload_n 1, 1) := by decide +kernel
theorem dL_allocate_4 : decode cL_allocate 4 = .ok (.invokevirtual 84, 3) := by decide +kernel
theorem dL_allocate_12 : decode cL_allocate 12 = .ok (.astore_n 3, 1) := by decide +kernel
theorem dL_allocate_13 : decode cL_allocate 13 = .ok (.iconst 1, 1) := by decide +kernel
theorem dL_allocate_14 : decode cL_allocate 14 = .ok (.ireturn, 1) := by decide +kernel
theorem dL_allocate_15 : decode cL_allocate 15 = .ok (.astore_n 3, 1) := by decide +kernel
theorem dL_allocate_16 : decode cL_allocate 16 = .ok (.iconst 2, 1) := by decide +kernel
theorem dL_allocate_17 : decode cL_allocate 17 = .ok (.ireturn, 1) := by decide +kernel
theorem dL_blockOf_0 : decode cL_blockOf 0 = .ok (.aload_n 3, 1) := by decide +kernel
theorem dL_blockOf_1 : decode cL_blockOf 1 = .ok (.iconst 0, 1) := by decide +kernel
theorem dL_blockOf_2 : decode cL_blockOf 2 = .ok (.aload_n 0, 1) := by decide +kernel
theorem dL_blockOf_3 : decode cL_blockOf 3 = .ok (.iload_n 1, 1) := by decide +kernel
theorem dL_blockOf_4 : decode cL_blockOf 4 = .ok (.iload_n 2, 1) := by decide +kernel
theorem dL_blockOf_5 : decode cL_blockOf 5 = .ok (.invokevirtual 32, 3) := by decide +kernel
theorem dL_blockOf_13 : decode cL_blockOf 13 = .ok (.astore 4, 2) := by decide +kernel
theorem dL_blockOf_15 : decode cL_blockOf 15 = .ok (.iconst 1, 1) := by decide +kernel
theorem dL_blockOf_16 : decode cL_blockOf 16 = .ok (.ireturn, 1) := by decide +kernel
theorem dL_blocks_0 : decode cL_blocks 0 = .ok (.aload_n 2, 1) := by decide +kernel
theorem dL_blocks_1 : decode cL_blocks 1 = .ok (.iconst 0, 1) := by decide +kernel
theorem dL_blocks_2 : decode cL_blocks 2 = .ok (.aload_n 0, 1) := by decide +kernel
theorem dL_blocks_3 : decode cL_blocks 3 = .ok (.iload_n 1, 1) := by decide +kernel
theorem dL_blocks_4 : decode cL_blocks 4 = .ok (.invokevirtual 26, 3) := by decide +kernel
theorem dL_blocks_12 : decode cL_blocks 12 = .ok (.astore_n 3, 1) := by decide +kernel
theorem dL_blocks_13 : decode cL_blocks 13 = .ok (.iconst 1, 1) := by decide +kernel
theorem dL_blocks_14 : decode cL_blocks 14 = .ok (.ireturn, 1) := by decide +kernel
theorem dL_codeGives_0 : decode cL_codeGives 0 = .ok (.aload_n 3, 1) := by decide +kernel
theorem dL_codeGives_1 : decode cL_codeGives 1 = .ok (.iconst 0, 1) := by decide +kernel
theorem dL_codeGives_2 : decode cL_codeGives 2 = .ok (.aload_n 0, 1) := by decide +kernel
theorem dL_codeGives_3 : decode cL_codeGives 3 = .ok (.iload_n 1, 1) := by decide +kernel
theorem dL_codeGives_4 : decode cL_codeGives 4 = .ok (.iload_n 2, 1) := by decide +kernel
theorem dL_codeGives_5 : decode cL_codeGives 5 = .ok (.invokevirtual 93, 3) := by decide +kernel
theorem dL_codeGives_13 : decode cL_codeGives 13 = .ok (.astore 4, 2) := by decide +kernel
theorem dL_codeGives_15 : decode cL_codeGives 15 = .ok (.iconst 1, 1) := by decide +kernel
theorem dL_codeGives_16 : decode cL_codeGives 16 = .ok (.ireturn, 1) := by decide +kernel
theorem dL_codeKind_0 : decode cL_codeKind 0 = .ok (.aload_n 3, 1) := by decide +kernel
theorem dL_codeKind_1 : decode cL_codeKind 1 = .ok (.iconst 0, 1) := by decide +kernel
theorem dL_codeKind_2 : decode cL_codeKind 2 = .ok (.aload_n 0, 1) := by decide +kernel
theorem dL_codeKind_3 : decode cL_codeKind 3 = .ok (.iload_n 1, 1) := by decide +kernel
theorem dL_codeKind_4 : decode cL_codeKind 4 = .ok (.iload_n 2, 1) := by decide +kernel
theorem dL_codeKind_5 : decode cL_codeKind 5 = .ok (.invokevirtual 90, 3) := by decide +kernel
theorem dL_codeKind_13 : decode cL_codeKind 13 = .ok (.astore 4, 2) := by decide +kernel
theorem dL_codeKind_15 : decode cL_codeKind 15 = .ok (.iconst 1, 1) := by decide +kernel
theorem dL_codeKind_16 : decode cL_codeKind 16 = .ok (.ireturn, 1) := by decide +kernel
theorem dL_codeLeft_0 : decode cL_codeLeft 0 = .ok (.aload_n 3, 1) := by decide +kernel
theorem dL_codeLeft_1 : decode cL_codeLeft 1 = .ok (.iconst 0, 1) := by decide +kernel
theorem dL_codeLeft_2 : decode cL_codeLeft 2 = .ok (.aload_n 0, 1) := by decide +kernel
theorem dL_codeLeft_3 : decode cL_codeLeft 3 = .ok (.iload_n 1, 1) := by decide +kernel
theorem dL_codeLeft_4 : decode cL_codeLeft 4 = .ok (.iload_n 2, 1) := by decide +kernel
theorem dL_codeLeft_5 : decode cL_codeLeft 5 = .ok (.invokevirtual 96, 3) := by decide +kernel
theorem dL_codeLeft_13 : decode cL_codeLeft 13 = .ok (.astore 4, 2) := by decide +kernel
theorem dL_codeLeft_15 : decode cL_codeLeft 15 = .ok (.iconst 1, 1) := by decide +kernel
theorem dL_codeLeft_16 : decode cL_codeLeft 16 = .ok (.ireturn, 1) := by decide +kernel
theorem dL_codeRight_0 : decode cL_codeRight 0 = .ok (.aload_n 3, 1) := by decide +kernel
theorem dL_codeRight_1 : decode cL_codeRight 1 = .ok (.iconst 0, 1) := by decide +kernel
theorem dL_codeRight_2 : decode cL_codeRight 2 = .ok (.aload_n 0, 1) := by decide +kernel
theorem dL_codeRight_3 : decode cL_codeRight 3 = .ok (.iload_n 1, 1) := by decide +kernel
theorem dL_codeRight_4 : decode cL_codeRight 4 = .ok (.iload_n 2, 1) := by decide +kernel
theorem dL_codeRight_5 : decode cL_codeRight 5 = .ok (.invokevirtual 99, 3) := by decide +kernel
theorem dL_codeRight_13 : decode cL_codeRight 13 = .ok (.astore 4, 2) := by decide +kernel
theorem dL_codeRight_15 : decode cL_codeRight 15 = .ok (.iconst 1, 1) := by decide +kernel
theorem dL_codeRight_16 : decode cL_codeRight 16 = .ok (.ireturn, 1) := by decide +kernel
theorem dL_depthOf_0 : decode cL_depthOf 0 = .ok (.aload_n 3, 1) := by decide +kernel
theorem dL_depthOf_1 : decode cL_depthOf 1 = .ok (.iconst 0, 1) := by decide +kernel
theorem dL_depthOf_2 : decode cL_depthOf 2 = .ok (.aload_n 0, 1) := by decide +kernel
theorem dL_depthOf_3 : decode cL_depthOf 3 = .ok (.iload_n 1, 1) := by decide +kernel
theorem dL_depthOf_4 : decode cL_depthOf 4 = .ok (.iload_n 2, 1) := by decide +kernel
theorem dL_depthOf_5 : decode cL_depthOf 5 = .ok (.invokevirtual 39, 3) := by decide +kernel
theorem dL_depthOf_13 : decode cL_depthOf 13 = .ok (.astore 4, 2) := by decide +kernel
theorem dL_depthOf_15 : decode cL_depthOf 15 = .ok (.iconst 1, 1) := by decide +kernel
theorem dL_depthOf_16 : decode cL_depthOf 16 = .ok (.ireturn, 1) := by decide +kernel
theorem dL_differences_0 : decode cL_differences 0 = .ok (.aload 4, 2) := by decide +kernel
theorem dL_differences_2 : decode cL_differences 2 = .ok (.iconst 0, 1) := by decide +kernel
theorem dL_differences_3 : decode cL_differences 3 = .ok (.aload_n 0, 1) := by decide +kernel
theorem dL_differences_4 : decode cL_differences 4 = .ok (.iload_n 1, 1) := by decide +kernel
theorem dL_differences_5 : decode cL_differences 5 = .ok (.iload_n 2, 1) := by decide +kernel
theorem dL_differences_6 : decode cL_differences 6 = .ok (.iload_n 3, 1) := by decide +kernel
theorem dL_differences_7 : decode cL_differences 7 = .ok (.invokevirtual 118, 3) := by decide +kernel
theorem dL_differences_15 : decode cL_differences 15 = .ok (.astore 5, 2) := by decide +kernel
theorem dL_differences_17 : decode cL_differences 17 = .ok (.iconst 1, 1) := by decide +kernel
theorem dL_differences_18 : decode cL_differences 18 = .ok (.ireturn, 1) := by decide +kernel
theorem dL_dominatorOf_0 : decode cL_dominatorOf 0 = .ok (.aload_n 3, 1) := by decide +kernel
theorem dL_dominatorOf_1 : decode cL_dominatorOf 1 = .ok (.iconst 0, 1) := by decide +kernel
theorem dL_dominatorOf_2 : decode cL_dominatorOf 2 = .ok (.aload_n 0, 1) := by decide +kernel
theorem dL_dominatorOf_3 : decode cL_dominatorOf 3 = .ok (.iload_n 1, 1) := by decide +kernel
theorem dL_dominatorOf_4 : decode cL_dominatorOf 4 = .ok (.iload_n 2, 1) := by decide +kernel
theorem dL_dominatorOf_5 : decode cL_dominatorOf 5 = .ok (.invokevirtual 36, 3) := by decide +kernel
theorem dL_dominatorOf_13 : decode cL_dominatorOf 13 = .ok (.astore 4, 2) := by decide +kernel
theorem dL_dominatorOf_15 : decode cL_dominatorOf 15 = .ok (.iconst 1, 1) := by decide +kernel
theorem dL_dominatorOf_16 : decode cL_dominatorOf 16 = .ok (.ireturn, 1) := by decide +kernel
theorem dL_endOf_0 : decode cL_endOf 0 = .ok (.aload_n 3, 1) := by decide +kernel
theorem dL_endOf_1 : decode cL_endOf 1 = .ok (.iconst 0, 1) := by decide +kernel
theorem dL_endOf_2 : decode cL_endOf 2 = .ok (.aload_n 0, 1) := by decide +kernel
theorem dL_endOf_3 : decode cL_endOf 3 = .ok (.iload_n 1, 1) := by decide +kernel
theorem dL_endOf_4 : decode cL_endOf 4 = .ok (.iload_n 2, 1) := by decide +kernel
theorem dL_endOf_5 : decode cL_endOf 5 = .ok (.invokevirtual 49, 3) := by decide +kernel
theorem dL_endOf_13 : decode cL_endOf 13 = .ok (.astore 4, 2) := by decide +kernel
theorem dL_endOf_15 : decode cL_endOf 15 = .ok (.iconst 1, 1) := by decide +kernel
theorem dL_endOf_16 : decode cL_endOf 16 = .ok (.ireturn, 1) := by decide +kernel
theorem dL_endValue_0 : decode cL_endValue 0 = .ok (.aload_n 3, 1) := by decide +kernel
theorem dL_endValue_1 : decode cL_endValue 1 = .ok (.iconst 0, 1) := by decide +kernel
theorem dL_endValue_2 : decode cL_endValue 2 = .ok (.aload_n 0, 1) := by decide +kernel
theorem dL_endValue_3 : decode cL_endValue 3 = .ok (.iload_n 1, 1) := by decide +kernel
theorem dL_endValue_4 : decode cL_endValue 4 = .ok (.iload_n 2, 1) := by decide +kernel
theorem dL_endValue_5 : decode cL_endValue 5 = .ok (.invokevirtual 56, 3) := by decide +kernel
theorem dL_endValue_13 : decode cL_endValue 13 = .ok (.astore 4, 2) := by decide +kernel
theorem dL_endValue_15 : decode cL_endValue 15 = .ok (.iconst 1, 1) := by decide +kernel
theorem dL_endValue_16 : decode cL_endValue 16 = .ok (.ireturn, 1) := by decide +kernel
theorem dL_feed_0 : decode cL_feed 0 = .ok (.aload 6, 2) := by decide +kernel
theorem dL_feed_2 : decode cL_feed 2 = .ok (.iconst 0, 1) := by decide +kernel
theorem dL_feed_3 : decode cL_feed 3 = .ok (.aload_n 0, 1) := by decide +kernel
theorem dL_feed_4 : decode cL_feed 4 = .ok (.iload_n 1, 1) := by decide +kernel
theorem dL_feed_5 : decode cL_feed 5 = .ok (.iload_n 2, 1) := by decide +kernel
theorem dL_feed_6 : decode cL_feed 6 = .ok (.iload_n 3, 1) := by decide +kernel
theorem dL_feed_7 : decode cL_feed 7 = .ok (.iload 4, 2) := by decide +kernel
theorem dL_feed_9 : decode cL_feed 9 = .ok (.iload 5, 2) := by decide +kernel
theorem dL_feed_11 : decode cL_feed 11 = .ok (.invokevirtual 7, 3) := by decide +kernel
theorem dL_feed_14 : decode cL_feed 14 = .ok (.i2l, 1) := by decide +kernel
theorem dL_feed_15 : decode cL_feed 15 = .ok (.lastore, 1) := by decide +kernel
theorem dL_feed_16 : decode cL_feed 16 = .ok (.goto 7, 3) := by decide +kernel
theorem dL_feed_23 : decode cL_feed 23 = .ok (.iconst 0, 1) := by decide +kernel
theorem dL_feed_24 : decode cL_feed 24 = .ok (.ireturn, 1) := by decide +kernel
theorem dL_gives_0 : decode cL_gives 0 = .ok (.aload 4, 2) := by decide +kernel
theorem dL_gives_2 : decode cL_gives 2 = .ok (.iconst 0, 1) := by decide +kernel
theorem dL_gives_3 : decode cL_gives 3 = .ok (.aload_n 0, 1) := by decide +kernel
theorem dL_gives_4 : decode cL_gives 4 = .ok (.iload_n 1, 1) := by decide +kernel
theorem dL_gives_5 : decode cL_gives 5 = .ok (.iload_n 2, 1) := by decide +kernel
theorem dL_gives_6 : decode cL_gives 6 = .ok (.iload_n 3, 1) := by decide +kernel
theorem dL_gives_7 : decode cL_gives 7 = .ok (.invokevirtual 75, 3) := by decide +kernel
theorem dL_gives_15 : decode cL_gives 15 = .ok (.astore 5, 2) := by decide +kernel
theorem dL_gives_17 : decode cL_gives 17 = .ok (.iconst 1, 1) := by decide +kernel
theorem dL_gives_18 : decode cL_gives 18 = .ok (.ireturn, 1) := by decide +kernel
theorem dL_kindOf_0 : decode cL_kindOf 0 = .ok (.aload 4, 2) := by decide +kernel
theorem dL_kindOf_2 : decode cL_kindOf 2 = .ok (.iconst 0, 1) := by decide +kernel
theorem dL_kindOf_3 : decode cL_kindOf 3 = .ok (.aload_n 0, 1) := by decide +kernel
theorem dL_kindOf_4 : decode cL_kindOf 4 = .ok (.iload_n 1, 1) := by decide +kernel
theorem dL_kindOf_5 : decode cL_kindOf 5 = .ok (.iload_n 2, 1) := by decide +kernel
theorem dL_kindOf_6 : decode cL_kindOf 6 = .ok (.iload_n 3, 1) := by decide +kernel
theorem dL_kindOf_7 : decode cL_kindOf 7 = .ok (.invokevirtual 72, 3) := by decide +kernel
theorem dL_kindOf_15 : decode cL_kindOf 15 = .ok (.astore 5, 2) := by decide +kernel
theorem dL_kindOf_17 : decode cL_kindOf 17 = .ok (.iconst 1, 1) := by decide +kernel
theorem dL_kindOf_18 : decode cL_kindOf 18 = .ok (.ireturn, 1) := by decide +kernel
theorem dL_law_0 : decode cL_law 0 = .ok (.new 8, 3) := by decide +kernel
theorem dL_law_3 : decode cL_law 3 = .ok (.dup, 1) := by decide +kernel
theorem dL_law_4 : decode cL_law 4 = .ok (.invokespecial 121, 3) := by decide +kernel
theorem dL_law_7 : decode cL_law 7 = .ok (.astore_n 1, 1) := by decide +kernel
theorem dL_law_8 : decode cL_law 8 = .ok (.new 122, 3) := by decide +kernel
theorem dL_law_11 : decode cL_law 11 = .ok (.dup, 1) := by decide +kernel
theorem dL_law_12 : decode cL_law 12 = .ok (.invokespecial 124, 3) := by decide +kernel
theorem dL_law_15 : decode cL_law 15 = .ok (.astore_n 2, 1) := by decide +kernel
theorem dL_law_16 : decode cL_law 16 = .ok (.iconst 1, 1) := by decide +kernel
theorem dL_law_17 : decode cL_law 17 = .ok (.newarray .long, 2) := by decide +kernel
theorem dL_law_19 : decode cL_law 19 = .ok (.astore_n 3, 1) := by decide +kernel
theorem dL_law_20 : decode cL_law 20 = .ok (.iconst 0, 1) := by decide +kernel
theorem dL_law_21 : decode cL_law 21 = .ok (.istore 4, 2) := by decide +kernel
theorem dL_law_23 : decode cL_law 23 = .ok (.iload 4, 2) := by decide +kernel
theorem dL_law_25 : decode cL_law 25 = .ok (.aload_n 0, 1) := by decide +kernel
theorem dL_law_26 : decode cL_law 26 = .ok (.arraylength, 1) := by decide +kernel
theorem dL_law_27 : decode cL_law 27 = .ok (.bipush 7, 2) := by decide +kernel
theorem dL_law_29 : decode cL_law 29 = .ok (.isub, 1) := by decide +kernel
theorem dL_law_30 : decode cL_law 30 = .ok (.if_icmp .gt 2794, 3) := by decide +kernel
theorem dL_law_248 : decode cL_law 248 = .ok (.aload_n 1, 1) := by decide +kernel
theorem dL_law_249 : decode cL_law 249 = .ok (.aload_n 0, 1) := by decide +kernel
theorem dL_law_250 : decode cL_law 250 = .ok (.iload 4, 2) := by decide +kernel
theorem dL_law_252 : decode cL_law 252 = .ok (.iconst 1, 1) := by decide +kernel
theorem dL_law_253 : decode cL_law 253 = .ok (.iadd, 1) := by decide +kernel
theorem dL_law_254 : decode cL_law 254 = .ok (.iaload, 1) := by decide +kernel
theorem dL_law_255 : decode cL_law 255 = .ok (.aload_n 0, 1) := by decide +kernel
theorem dL_law_256 : decode cL_law 256 = .ok (.iload 4, 2) := by decide +kernel
theorem dL_law_258 : decode cL_law 258 = .ok (.iconst 2, 1) := by decide +kernel
theorem dL_law_259 : decode cL_law 259 = .ok (.iadd, 1) := by decide +kernel
theorem dL_law_260 : decode cL_law 260 = .ok (.iaload, 1) := by decide +kernel
theorem dL_law_261 : decode cL_law 261 = .ok (.aload_n 0, 1) := by decide +kernel
theorem dL_law_262 : decode cL_law 262 = .ok (.iload 4, 2) := by decide +kernel
theorem dL_law_264 : decode cL_law 264 = .ok (.iconst 3, 1) := by decide +kernel
theorem dL_law_265 : decode cL_law 265 = .ok (.iadd, 1) := by decide +kernel
theorem dL_law_266 : decode cL_law 266 = .ok (.iaload, 1) := by decide +kernel
theorem dL_law_267 : decode cL_law 267 = .ok (.aload_n 0, 1) := by decide +kernel
theorem dL_law_268 : decode cL_law 268 = .ok (.iload 4, 2) := by decide +kernel
theorem dL_law_270 : decode cL_law 270 = .ok (.iconst 4, 1) := by decide +kernel
theorem dL_law_271 : decode cL_law 271 = .ok (.iadd, 1) := by decide +kernel
theorem dL_law_272 : decode cL_law 272 = .ok (.iaload, 1) := by decide +kernel
theorem dL_law_273 : decode cL_law 273 = .ok (.aload_n 0, 1) := by decide +kernel
theorem dL_law_274 : decode cL_law 274 = .ok (.iload 4, 2) := by decide +kernel
theorem dL_law_276 : decode cL_law 276 = .ok (.iconst 5, 1) := by decide +kernel
theorem dL_law_277 : decode cL_law 277 = .ok (.iadd, 1) := by decide +kernel
theorem dL_law_278 : decode cL_law 278 = .ok (.iaload, 1) := by decide +kernel
theorem dL_law_279 : decode cL_law 279 = .ok (.aload_n 3, 1) := by decide +kernel
theorem dL_law_280 : decode cL_law 280 = .ok (.invokestatic 125, 3) := by decide +kernel
theorem dL_law_283 : decode cL_law 283 = .ok (.istore 5, 2) := by decide +kernel
theorem dL_law_285 : decode cL_law 285 = .ok (.aload_n 2, 1) := by decide +kernel
theorem dL_law_286 : decode cL_law 286 = .ok (.aload_n 0, 1) := by decide +kernel
theorem dL_law_287 : decode cL_law 287 = .ok (.iload 4, 2) := by decide +kernel
theorem dL_law_289 : decode cL_law 289 = .ok (.iconst 1, 1) := by decide +kernel
theorem dL_law_290 : decode cL_law 290 = .ok (.iadd, 1) := by decide +kernel
theorem dL_law_291 : decode cL_law 291 = .ok (.iaload, 1) := by decide +kernel
theorem dL_law_292 : decode cL_law 292 = .ok (.aload_n 0, 1) := by decide +kernel
theorem dL_law_293 : decode cL_law 293 = .ok (.iload 4, 2) := by decide +kernel
theorem dL_law_295 : decode cL_law 295 = .ok (.iconst 2, 1) := by decide +kernel
theorem dL_law_296 : decode cL_law 296 = .ok (.iadd, 1) := by decide +kernel
theorem dL_law_297 : decode cL_law 297 = .ok (.iaload, 1) := by decide +kernel
theorem dL_law_298 : decode cL_law 298 = .ok (.aload_n 0, 1) := by decide +kernel
theorem dL_law_299 : decode cL_law 299 = .ok (.iload 4, 2) := by decide +kernel
theorem dL_law_301 : decode cL_law 301 = .ok (.iconst 3, 1) := by decide +kernel
theorem dL_law_302 : decode cL_law 302 = .ok (.iadd, 1) := by decide +kernel
theorem dL_law_303 : decode cL_law 303 = .ok (.iaload, 1) := by decide +kernel
theorem dL_law_304 : decode cL_law 304 = .ok (.aload_n 0, 1) := by decide +kernel
theorem dL_law_305 : decode cL_law 305 = .ok (.iload 4, 2) := by decide +kernel
theorem dL_law_307 : decode cL_law 307 = .ok (.iconst 4, 1) := by decide +kernel
theorem dL_law_308 : decode cL_law 308 = .ok (.iadd, 1) := by decide +kernel
theorem dL_law_309 : decode cL_law 309 = .ok (.iaload, 1) := by decide +kernel
theorem dL_law_310 : decode cL_law 310 = .ok (.aload_n 0, 1) := by decide +kernel
theorem dL_law_311 : decode cL_law 311 = .ok (.iload 4, 2) := by decide +kernel
theorem dL_law_313 : decode cL_law 313 = .ok (.iconst 5, 1) := by decide +kernel
theorem dL_law_314 : decode cL_law 314 = .ok (.iadd, 1) := by decide +kernel
theorem dL_law_315 : decode cL_law 315 = .ok (.iaload, 1) := by decide +kernel
theorem dL_law_316 : decode cL_law 316 = .ok (.invokevirtual 130, 3) := by decide +kernel
theorem dL_law_319 : decode cL_law 319 = .ok (.istore 6, 2) := by decide +kernel
theorem dL_law_321 : decode cL_law 321 = .ok (.aload_n 2, 1) := by decide +kernel
theorem dL_law_322 : decode cL_law 322 = .ok (.invokevirtual 131, 3) := by decide +kernel
theorem dL_law_325 : decode cL_law 325 = .ok (.iload 5, 2) := by decide +kernel
theorem dL_law_327 : decode cL_law 327 = .ok (.if_icmp .eq 5, 3) := by decide +kernel
theorem dL_law_332 : decode cL_law 332 = .ok (.iload 5, 2) := by decide +kernel
theorem dL_law_334 : decode cL_law 334 = .ok (.ifCond .ne 15, 3) := by decide +kernel
theorem dL_law_337 : decode cL_law 337 = .ok (.aload_n 3, 1) := by decide +kernel
theorem dL_law_338 : decode cL_law 338 = .ok (.iconst 0, 1) := by decide +kernel
theorem dL_law_339 : decode cL_law 339 = .ok (.laload, 1) := by decide +kernel
theorem dL_law_340 : decode cL_law 340 = .ok (.iload 6, 2) := by decide +kernel
theorem dL_law_342 : decode cL_law 342 = .ok (.i2l, 1) := by decide +kernel
theorem dL_law_343 : decode cL_law 343 = .ok (.lcmp, 1) := by decide +kernel
theorem dL_law_344 : decode cL_law 344 = .ok (.ifCond .eq 5, 3) := by decide +kernel
theorem dL_law_349 : decode cL_law 349 = .ok (.goto 2469, 3) := by decide +kernel
theorem dL_law_352 : decode cL_law 352 = .ok (.aload_n 1, 1) := by decide +kernel
theorem dL_law_353 : decode cL_law 353 = .ok (.aload_n 0, 1) := by decide +kernel
theorem dL_law_354 : decode cL_law 354 = .ok (.iload 4, 2) := by decide +kernel
theorem dL_law_356 : decode cL_law 356 = .ok (.iconst 1, 1) := by decide +kernel
theorem dL_law_357 : decode cL_law 357 = .ok (.iadd, 1) := by decide +kernel
theorem dL_law_358 : decode cL_law 358 = .ok (.iaload, 1) := by decide +kernel
theorem dL_law_359 : decode cL_law 359 = .ok (.aload_n 3, 1) := by decide +kernel
theorem dL_law_360 : decode cL_law 360 = .ok (.invokestatic 135, 3) := by decide +kernel
theorem dL_law_363 : decode cL_law 363 = .ok (.istore 5, 2) := by decide +kernel
theorem dL_law_365 : decode cL_law 365 = .ok (.aload_n 2, 1) := by decide +kernel
theorem dL_law_366 : decode cL_law 366 = .ok (.aload_n 0, 1) := by decide +kernel
theorem dL_law_367 : decode cL_law 367 = .ok (.iload 4, 2) := by decide +kernel
theorem dL_law_369 : decode cL_law 369 = .ok (.iconst 1, 1) := by decide +kernel
theorem dL_law_370 : decode cL_law 370 = .ok (.iadd, 1) := by decide +kernel
theorem dL_law_371 : decode cL_law 371 = .ok (.iaload, 1) := by decide +kernel
theorem dL_law_372 : decode cL_law 372 = .ok (.invokevirtual 138, 3) := by decide +kernel
theorem dL_law_375 : decode cL_law 375 = .ok (.istore 6, 2) := by decide +kernel
theorem dL_law_377 : decode cL_law 377 = .ok (.aload_n 2, 1) := by decide +kernel
theorem dL_law_378 : decode cL_law 378 = .ok (.invokevirtual 131, 3) := by decide +kernel
theorem dL_law_381 : decode cL_law 381 = .ok (.iload 5, 2) := by decide +kernel
theorem dL_law_383 : decode cL_law 383 = .ok (.if_icmp .eq 5, 3) := by decide +kernel
theorem dL_law_388 : decode cL_law 388 = .ok (.iload 5, 2) := by decide +kernel
theorem dL_law_390 : decode cL_law 390 = .ok (.ifCond .ne 15, 3) := by decide +kernel
theorem dL_law_393 : decode cL_law 393 = .ok (.aload_n 3, 1) := by decide +kernel
theorem dL_law_394 : decode cL_law 394 = .ok (.iconst 0, 1) := by decide +kernel
theorem dL_law_395 : decode cL_law 395 = .ok (.laload, 1) := by decide +kernel
theorem dL_law_396 : decode cL_law 396 = .ok (.iload 6, 2) := by decide +kernel
theorem dL_law_398 : decode cL_law 398 = .ok (.i2l, 1) := by decide +kernel
theorem dL_law_399 : decode cL_law 399 = .ok (.lcmp, 1) := by decide +kernel
theorem dL_law_400 : decode cL_law 400 = .ok (.ifCond .eq 5, 3) := by decide +kernel
theorem dL_law_405 : decode cL_law 405 = .ok (.goto 2413, 3) := by decide +kernel
theorem dL_law_421 : decode cL_law 421 = .ok (.aload_n 1, 1) := by decide +kernel
theorem dL_law_422 : decode cL_law 422 = .ok (.invokevirtual 143, 3) := by decide +kernel
theorem dL_law_425 : decode cL_law 425 = .ok (.aload_n 2, 1) := by decide +kernel
theorem dL_law_426 : decode cL_law 426 = .ok (.invokevirtual 146, 3) := by decide +kernel
theorem dL_law_429 : decode cL_law 429 = .ok (.if_icmp .eq 2389, 3) := by decide +kernel
theorem dL_law_434 : decode cL_law 434 = .ok (.aload_n 1, 1) := by decide +kernel
theorem dL_law_435 : decode cL_law 435 = .ok (.invokevirtual 147, 3) := by decide +kernel
theorem dL_law_438 : decode cL_law 438 = .ok (.aload_n 2, 1) := by decide +kernel
theorem dL_law_439 : decode cL_law 439 = .ok (.invokevirtual 150, 3) := by decide +kernel
theorem dL_law_442 : decode cL_law 442 = .ok (.if_icmp .eq 2376, 3) := by decide +kernel
theorem dL_law_447 : decode cL_law 447 = .ok (.aload_n 1, 1) := by decide +kernel
theorem dL_law_448 : decode cL_law 448 = .ok (.invokevirtual 151, 3) := by decide +kernel
theorem dL_law_451 : decode cL_law 451 = .ok (.aload_n 2, 1) := by decide +kernel
theorem dL_law_452 : decode cL_law 452 = .ok (.invokevirtual 154, 3) := by decide +kernel
theorem dL_law_455 : decode cL_law 455 = .ok (.if_icmp .eq 2363, 3) := by decide +kernel
theorem dL_law_460 : decode cL_law 460 = .ok (.aload_n 1, 1) := by decide +kernel
theorem dL_law_461 : decode cL_law 461 = .ok (.aload_n 0, 1) := by decide +kernel
theorem dL_law_462 : decode cL_law 462 = .ok (.iload 4, 2) := by decide +kernel
theorem dL_law_464 : decode cL_law 464 = .ok (.iconst 1, 1) := by decide +kernel
theorem dL_law_465 : decode cL_law 465 = .ok (.iadd, 1) := by decide +kernel
theorem dL_law_466 : decode cL_law 466 = .ok (.iaload, 1) := by decide +kernel
theorem dL_law_467 : decode cL_law 467 = .ok (.aload_n 3, 1) := by decide +kernel
theorem dL_law_468 : decode cL_law 468 = .ok (.invokestatic 155, 3) := by decide +kernel
theorem dL_law_471 : decode cL_law 471 = .ok (.istore 5, 2) := by decide +kernel
theorem dL_law_473 : decode cL_law 473 = .ok (.aload_n 2, 1) := by decide +kernel
theorem dL_law_474 : decode cL_law 474 = .ok (.aload_n 0, 1) := by decide +kernel
theorem dL_law_475 : decode cL_law 475 = .ok (.iload 4, 2) := by decide +kernel
theorem dL_law_477 : decode cL_law 477 = .ok (.iconst 1, 1) := by decide +kernel
theorem dL_law_478 : decode cL_law 478 = .ok (.iadd, 1) := by decide +kernel
theorem dL_law_479 : decode cL_law 479 = .ok (.iaload, 1) := by decide +kernel
theorem dL_law_480 : decode cL_law 480 = .ok (.invokevirtual 157, 3) := by decide +kernel
theorem dL_law_483 : decode cL_law 483 = .ok (.istore 6, 2) := by decide +kernel
theorem dL_law_485 : decode cL_law 485 = .ok (.aload_n 2, 1) := by decide +kernel
theorem dL_law_486 : decode cL_law 486 = .ok (.invokevirtual 131, 3) := by decide +kernel
theorem dL_law_489 : decode cL_law 489 = .ok (.iload 5, 2) := by decide +kernel
theorem dL_law_491 : decode cL_law 491 = .ok (.if_icmp .eq 5, 3) := by decide +kernel
theorem dL_law_496 : decode cL_law 496 = .ok (.iload 5, 2) := by decide +kernel
theorem dL_law_498 : decode cL_law 498 = .ok (.ifCond .ne 15, 3) := by decide +kernel
theorem dL_law_513 : decode cL_law 513 = .ok (.goto 2305, 3) := by decide +kernel
theorem dL_law_516 : decode cL_law 516 = .ok (.aload_n 1, 1) := by decide +kernel
theorem dL_law_517 : decode cL_law 517 = .ok (.aload_n 0, 1) := by decide +kernel
theorem dL_law_518 : decode cL_law 518 = .ok (.iload 4, 2) := by decide +kernel
theorem dL_law_520 : decode cL_law 520 = .ok (.iconst 1, 1) := by decide +kernel
theorem dL_law_521 : decode cL_law 521 = .ok (.iadd, 1) := by decide +kernel
theorem dL_law_522 : decode cL_law 522 = .ok (.iaload, 1) := by decide +kernel
theorem dL_law_523 : decode cL_law 523 = .ok (.aload_n 3, 1) := by decide +kernel
theorem dL_law_524 : decode cL_law 524 = .ok (.invokestatic 158, 3) := by decide +kernel
theorem dL_law_527 : decode cL_law 527 = .ok (.istore 5, 2) := by decide +kernel
theorem dL_law_529 : decode cL_law 529 = .ok (.aload_n 2, 1) := by decide +kernel
theorem dL_law_530 : decode cL_law 530 = .ok (.aload_n 0, 1) := by decide +kernel
theorem dL_law_531 : decode cL_law 531 = .ok (.iload 4, 2) := by decide +kernel
theorem dL_law_533 : decode cL_law 533 = .ok (.iconst 1, 1) := by decide +kernel
theorem dL_law_534 : decode cL_law 534 = .ok (.iadd, 1) := by decide +kernel
theorem dL_law_535 : decode cL_law 535 = .ok (.iaload, 1) := by decide +kernel
theorem dL_law_536 : decode cL_law 536 = .ok (.invokevirtual 160, 3) := by decide +kernel
theorem dL_law_539 : decode cL_law 539 = .ok (.istore 6, 2) := by decide +kernel
theorem dL_law_541 : decode cL_law 541 = .ok (.aload_n 2, 1) := by decide +kernel
theorem dL_law_542 : decode cL_law 542 = .ok (.invokevirtual 131, 3) := by decide +kernel
theorem dL_law_545 : decode cL_law 545 = .ok (.iload 5, 2) := by decide +kernel
theorem dL_law_547 : decode cL_law 547 = .ok (.if_icmp .eq 5, 3) := by decide +kernel
theorem dL_law_552 : decode cL_law 552 = .ok (.iload 5, 2) := by decide +kernel
theorem dL_law_554 : decode cL_law 554 = .ok (.ifCond .ne 15, 3) := by decide +kernel
theorem dL_law_569 : decode cL_law 569 = .ok (.goto 2249, 3) := by decide +kernel
theorem dL_law_572 : decode cL_law 572 = .ok (.aload_n 1, 1) := by decide +kernel
theorem dL_law_573 : decode cL_law 573 = .ok (.aload_n 0, 1) := by decide +kernel
theorem dL_law_574 : decode cL_law 574 = .ok (.iload 4, 2) := by decide +kernel
theorem dL_law_576 : decode cL_law 576 = .ok (.iconst 1, 1) := by decide +kernel
theorem dL_law_577 : decode cL_law 577 = .ok (.iadd, 1) := by decide +kernel
theorem dL_law_578 : decode cL_law 578 = .ok (.iaload, 1) := by decide +kernel
theorem dL_law_579 : decode cL_law 579 = .ok (.aload_n 3, 1) := by decide +kernel
theorem dL_law_580 : decode cL_law 580 = .ok (.invokestatic 161, 3) := by decide +kernel
theorem dL_law_583 : decode cL_law 583 = .ok (.istore 5, 2) := by decide +kernel
theorem dL_law_585 : decode cL_law 585 = .ok (.aload_n 2, 1) := by decide +kernel
theorem dL_law_586 : decode cL_law 586 = .ok (.aload_n 0, 1) := by decide +kernel
theorem dL_law_587 : decode cL_law 587 = .ok (.iload 4, 2) := by decide +kernel
theorem dL_law_589 : decode cL_law 589 = .ok (.iconst 1, 1) := by decide +kernel
theorem dL_law_590 : decode cL_law 590 = .ok (.iadd, 1) := by decide +kernel
theorem dL_law_591 : decode cL_law 591 = .ok (.iaload, 1) := by decide +kernel
theorem dL_law_592 : decode cL_law 592 = .ok (.invokevirtual 163, 3) := by decide +kernel
theorem dL_law_595 : decode cL_law 595 = .ok (.istore 6, 2) := by decide +kernel
theorem dL_law_597 : decode cL_law 597 = .ok (.aload_n 2, 1) := by decide +kernel
theorem dL_law_598 : decode cL_law 598 = .ok (.invokevirtual 131, 3) := by decide +kernel
theorem dL_law_601 : decode cL_law 601 = .ok (.iload 5, 2) := by decide +kernel
theorem dL_law_603 : decode cL_law 603 = .ok (.if_icmp .eq 5, 3) := by decide +kernel
theorem dL_law_608 : decode cL_law 608 = .ok (.iload 5, 2) := by decide +kernel
theorem dL_law_610 : decode cL_law 610 = .ok (.ifCond .ne 15, 3) := by decide +kernel
theorem dL_law_625 : decode cL_law 625 = .ok (.goto 2193, 3) := by decide +kernel
theorem dL_law_628 : decode cL_law 628 = .ok (.aload_n 1, 1) := by decide +kernel
theorem dL_law_629 : decode cL_law 629 = .ok (.aload_n 0, 1) := by decide +kernel
theorem dL_law_630 : decode cL_law 630 = .ok (.iload 4, 2) := by decide +kernel
theorem dL_law_632 : decode cL_law 632 = .ok (.iconst 1, 1) := by decide +kernel
theorem dL_law_633 : decode cL_law 633 = .ok (.iadd, 1) := by decide +kernel
theorem dL_law_634 : decode cL_law 634 = .ok (.iaload, 1) := by decide +kernel
theorem dL_law_635 : decode cL_law 635 = .ok (.aload_n 0, 1) := by decide +kernel
theorem dL_law_636 : decode cL_law 636 = .ok (.iload 4, 2) := by decide +kernel
theorem dL_law_638 : decode cL_law 638 = .ok (.iconst 2, 1) := by decide +kernel
theorem dL_law_639 : decode cL_law 639 = .ok (.iadd, 1) := by decide +kernel
theorem dL_law_640 : decode cL_law 640 = .ok (.iaload, 1) := by decide +kernel
theorem dL_law_641 : decode cL_law 641 = .ok (.aload_n 3, 1) := by decide +kernel
theorem dL_law_642 : decode cL_law 642 = .ok (.invokestatic 164, 3) := by decide +kernel
theorem dL_law_645 : decode cL_law 645 = .ok (.istore 5, 2) := by decide +kernel
theorem dL_law_647 : decode cL_law 647 = .ok (.aload_n 2, 1) := by decide +kernel
theorem dL_law_648 : decode cL_law 648 = .ok (.aload_n 0, 1) := by decide +kernel
theorem dL_law_649 : decode cL_law 649 = .ok (.iload 4, 2) := by decide +kernel
theorem dL_law_651 : decode cL_law 651 = .ok (.iconst 1, 1) := by decide +kernel
theorem dL_law_652 : decode cL_law 652 = .ok (.iadd, 1) := by decide +kernel
theorem dL_law_653 : decode cL_law 653 = .ok (.iaload, 1) := by decide +kernel
theorem dL_law_654 : decode cL_law 654 = .ok (.aload_n 0, 1) := by decide +kernel
theorem dL_law_655 : decode cL_law 655 = .ok (.iload 4, 2) := by decide +kernel
theorem dL_law_657 : decode cL_law 657 = .ok (.iconst 2, 1) := by decide +kernel
theorem dL_law_658 : decode cL_law 658 = .ok (.iadd, 1) := by decide +kernel
theorem dL_law_659 : decode cL_law 659 = .ok (.iaload, 1) := by decide +kernel
theorem dL_law_660 : decode cL_law 660 = .ok (.invokevirtual 167, 3) := by decide +kernel
theorem dL_law_663 : decode cL_law 663 = .ok (.istore 6, 2) := by decide +kernel
theorem dL_law_665 : decode cL_law 665 = .ok (.aload_n 2, 1) := by decide +kernel
theorem dL_law_666 : decode cL_law 666 = .ok (.invokevirtual 131, 3) := by decide +kernel
theorem dL_law_669 : decode cL_law 669 = .ok (.iload 5, 2) := by decide +kernel
theorem dL_law_671 : decode cL_law 671 = .ok (.if_icmp .eq 5, 3) := by decide +kernel
theorem dL_law_676 : decode cL_law 676 = .ok (.iload 5, 2) := by decide +kernel
theorem dL_law_678 : decode cL_law 678 = .ok (.ifCond .ne 15, 3) := by decide +kernel
theorem dL_law_693 : decode cL_law 693 = .ok (.goto 2125, 3) := by decide +kernel
theorem dL_law_696 : decode cL_law 696 = .ok (.aload_n 1, 1) := by decide +kernel
theorem dL_law_697 : decode cL_law 697 = .ok (.aload_n 0, 1) := by decide +kernel
theorem dL_law_698 : decode cL_law 698 = .ok (.iload 4, 2) := by decide +kernel
theorem dL_law_700 : decode cL_law 700 = .ok (.iconst 1, 1) := by decide +kernel
theorem dL_law_701 : decode cL_law 701 = .ok (.iadd, 1) := by decide +kernel
theorem dL_law_702 : decode cL_law 702 = .ok (.iaload, 1) := by decide +kernel
theorem dL_law_703 : decode cL_law 703 = .ok (.aload_n 0, 1) := by decide +kernel
theorem dL_law_704 : decode cL_law 704 = .ok (.iload 4, 2) := by decide +kernel
theorem dL_law_706 : decode cL_law 706 = .ok (.iconst 2, 1) := by decide +kernel
theorem dL_law_707 : decode cL_law 707 = .ok (.iadd, 1) := by decide +kernel
theorem dL_law_708 : decode cL_law 708 = .ok (.iaload, 1) := by decide +kernel
theorem dL_law_709 : decode cL_law 709 = .ok (.aload_n 3, 1) := by decide +kernel
theorem dL_law_710 : decode cL_law 710 = .ok (.invokestatic 168, 3) := by decide +kernel
theorem dL_law_713 : decode cL_law 713 = .ok (.istore 5, 2) := by decide +kernel
theorem dL_law_715 : decode cL_law 715 = .ok (.aload_n 2, 1) := by decide +kernel
theorem dL_law_716 : decode cL_law 716 = .ok (.aload_n 0, 1) := by decide +kernel
theorem dL_law_717 : decode cL_law 717 = .ok (.iload 4, 2) := by decide +kernel
theorem dL_law_719 : decode cL_law 719 = .ok (.iconst 1, 1) := by decide +kernel
theorem dL_law_720 : decode cL_law 720 = .ok (.iadd, 1) := by decide +kernel
theorem dL_law_721 : decode cL_law 721 = .ok (.iaload, 1) := by decide +kernel
theorem dL_law_722 : decode cL_law 722 = .ok (.aload_n 0, 1) := by decide +kernel
theorem dL_law_723 : decode cL_law 723 = .ok (.iload 4, 2) := by decide +kernel
theorem dL_law_725 : decode cL_law 725 = .ok (.iconst 2, 1) := by decide +kernel
theorem dL_law_726 : decode cL_law 726 = .ok (.iadd, 1) := by decide +kernel
theorem dL_law_727 : decode cL_law 727 = .ok (.iaload, 1) := by decide +kernel
theorem dL_law_728 : decode cL_law 728 = .ok (.invokevirtual 170, 3) := by decide +kernel
theorem dL_law_731 : decode cL_law 731 = .ok (.istore 6, 2) := by decide +kernel
theorem dL_law_733 : decode cL_law 733 = .ok (.aload_n 2, 1) := by decide +kernel
theorem dL_law_734 : decode cL_law 734 = .ok (.invokevirtual 131, 3) := by decide +kernel
theorem dL_law_737 : decode cL_law 737 = .ok (.iload 5, 2) := by decide +kernel
theorem dL_law_739 : decode cL_law 739 = .ok (.if_icmp .eq 5, 3) := by decide +kernel
theorem dL_law_744 : decode cL_law 744 = .ok (.iload 5, 2) := by decide +kernel
theorem dL_law_746 : decode cL_law 746 = .ok (.ifCond .ne 15, 3) := by decide +kernel
theorem dL_law_761 : decode cL_law 761 = .ok (.goto 2057, 3) := by decide +kernel
theorem dL_law_764 : decode cL_law 764 = .ok (.aload_n 1, 1) := by decide +kernel
theorem dL_law_765 : decode cL_law 765 = .ok (.aload_n 0, 1) := by decide +kernel
theorem dL_law_766 : decode cL_law 766 = .ok (.iload 4, 2) := by decide +kernel
theorem dL_law_768 : decode cL_law 768 = .ok (.iconst 1, 1) := by decide +kernel
theorem dL_law_769 : decode cL_law 769 = .ok (.iadd, 1) := by decide +kernel
theorem dL_law_770 : decode cL_law 770 = .ok (.iaload, 1) := by decide +kernel
theorem dL_law_771 : decode cL_law 771 = .ok (.aload_n 0, 1) := by decide +kernel
theorem dL_law_772 : decode cL_law 772 = .ok (.iload 4, 2) := by decide +kernel
theorem dL_law_774 : decode cL_law 774 = .ok (.iconst 2, 1) := by decide +kernel
theorem dL_law_775 : decode cL_law 775 = .ok (.iadd, 1) := by decide +kernel
theorem dL_law_776 : decode cL_law 776 = .ok (.iaload, 1) := by decide +kernel
theorem dL_law_777 : decode cL_law 777 = .ok (.aload_n 3, 1) := by decide +kernel
theorem dL_law_778 : decode cL_law 778 = .ok (.invokestatic 171, 3) := by decide +kernel
theorem dL_law_781 : decode cL_law 781 = .ok (.istore 5, 2) := by decide +kernel
theorem dL_law_783 : decode cL_law 783 = .ok (.aload_n 2, 1) := by decide +kernel
theorem dL_law_784 : decode cL_law 784 = .ok (.aload_n 0, 1) := by decide +kernel
theorem dL_law_785 : decode cL_law 785 = .ok (.iload 4, 2) := by decide +kernel
theorem dL_law_787 : decode cL_law 787 = .ok (.iconst 1, 1) := by decide +kernel
theorem dL_law_788 : decode cL_law 788 = .ok (.iadd, 1) := by decide +kernel
theorem dL_law_789 : decode cL_law 789 = .ok (.iaload, 1) := by decide +kernel
theorem dL_law_790 : decode cL_law 790 = .ok (.aload_n 0, 1) := by decide +kernel
theorem dL_law_791 : decode cL_law 791 = .ok (.iload 4, 2) := by decide +kernel
theorem dL_law_793 : decode cL_law 793 = .ok (.iconst 2, 1) := by decide +kernel
theorem dL_law_794 : decode cL_law 794 = .ok (.iadd, 1) := by decide +kernel
theorem dL_law_795 : decode cL_law 795 = .ok (.iaload, 1) := by decide +kernel
theorem dL_law_796 : decode cL_law 796 = .ok (.invokevirtual 173, 3) := by decide +kernel
theorem dL_law_799 : decode cL_law 799 = .ok (.istore 6, 2) := by decide +kernel
theorem dL_law_801 : decode cL_law 801 = .ok (.aload_n 2, 1) := by decide +kernel
theorem dL_law_802 : decode cL_law 802 = .ok (.invokevirtual 131, 3) := by decide +kernel
theorem dL_law_805 : decode cL_law 805 = .ok (.iload 5, 2) := by decide +kernel
theorem dL_law_807 : decode cL_law 807 = .ok (.if_icmp .eq 5, 3) := by decide +kernel
theorem dL_law_812 : decode cL_law 812 = .ok (.iload 5, 2) := by decide +kernel
theorem dL_law_814 : decode cL_law 814 = .ok (.ifCond .ne 15, 3) := by decide +kernel
theorem dL_law_829 : decode cL_law 829 = .ok (.goto 1989, 3) := by decide +kernel
theorem dL_law_832 : decode cL_law 832 = .ok (.aload_n 1, 1) := by decide +kernel
theorem dL_law_833 : decode cL_law 833 = .ok (.aload_n 0, 1) := by decide +kernel
theorem dL_law_834 : decode cL_law 834 = .ok (.iload 4, 2) := by decide +kernel
theorem dL_law_836 : decode cL_law 836 = .ok (.iconst 1, 1) := by decide +kernel
theorem dL_law_837 : decode cL_law 837 = .ok (.iadd, 1) := by decide +kernel
theorem dL_law_838 : decode cL_law 838 = .ok (.iaload, 1) := by decide +kernel
theorem dL_law_839 : decode cL_law 839 = .ok (.aload_n 0, 1) := by decide +kernel
theorem dL_law_840 : decode cL_law 840 = .ok (.iload 4, 2) := by decide +kernel
theorem dL_law_842 : decode cL_law 842 = .ok (.iconst 2, 1) := by decide +kernel
theorem dL_law_843 : decode cL_law 843 = .ok (.iadd, 1) := by decide +kernel
theorem dL_law_844 : decode cL_law 844 = .ok (.iaload, 1) := by decide +kernel
theorem dL_law_845 : decode cL_law 845 = .ok (.aload_n 3, 1) := by decide +kernel
theorem dL_law_846 : decode cL_law 846 = .ok (.invokestatic 174, 3) := by decide +kernel
theorem dL_law_849 : decode cL_law 849 = .ok (.istore 5, 2) := by decide +kernel
theorem dL_law_851 : decode cL_law 851 = .ok (.aload_n 2, 1) := by decide +kernel
theorem dL_law_852 : decode cL_law 852 = .ok (.aload_n 0, 1) := by decide +kernel
theorem dL_law_853 : decode cL_law 853 = .ok (.iload 4, 2) := by decide +kernel
theorem dL_law_855 : decode cL_law 855 = .ok (.iconst 1, 1) := by decide +kernel
theorem dL_law_856 : decode cL_law 856 = .ok (.iadd, 1) := by decide +kernel
theorem dL_law_857 : decode cL_law 857 = .ok (.iaload, 1) := by decide +kernel
theorem dL_law_858 : decode cL_law 858 = .ok (.aload_n 0, 1) := by decide +kernel
theorem dL_law_859 : decode cL_law 859 = .ok (.iload 4, 2) := by decide +kernel
theorem dL_law_861 : decode cL_law 861 = .ok (.iconst 2, 1) := by decide +kernel
theorem dL_law_862 : decode cL_law 862 = .ok (.iadd, 1) := by decide +kernel
theorem dL_law_863 : decode cL_law 863 = .ok (.iaload, 1) := by decide +kernel
theorem dL_law_864 : decode cL_law 864 = .ok (.invokevirtual 176, 3) := by decide +kernel
theorem dL_law_867 : decode cL_law 867 = .ok (.istore 6, 2) := by decide +kernel
theorem dL_law_869 : decode cL_law 869 = .ok (.aload_n 2, 1) := by decide +kernel
theorem dL_law_870 : decode cL_law 870 = .ok (.invokevirtual 131, 3) := by decide +kernel
theorem dL_law_873 : decode cL_law 873 = .ok (.iload 5, 2) := by decide +kernel
theorem dL_law_875 : decode cL_law 875 = .ok (.if_icmp .eq 5, 3) := by decide +kernel
theorem dL_law_880 : decode cL_law 880 = .ok (.iload 5, 2) := by decide +kernel
theorem dL_law_882 : decode cL_law 882 = .ok (.ifCond .ne 15, 3) := by decide +kernel
theorem dL_law_897 : decode cL_law 897 = .ok (.goto 1921, 3) := by decide +kernel
theorem dL_law_900 : decode cL_law 900 = .ok (.aload_n 1, 1) := by decide +kernel
theorem dL_law_901 : decode cL_law 901 = .ok (.aload_n 0, 1) := by decide +kernel
theorem dL_law_902 : decode cL_law 902 = .ok (.iload 4, 2) := by decide +kernel
theorem dL_law_904 : decode cL_law 904 = .ok (.iconst 1, 1) := by decide +kernel
theorem dL_law_905 : decode cL_law 905 = .ok (.iadd, 1) := by decide +kernel
theorem dL_law_906 : decode cL_law 906 = .ok (.iaload, 1) := by decide +kernel
theorem dL_law_907 : decode cL_law 907 = .ok (.aload_n 0, 1) := by decide +kernel
theorem dL_law_908 : decode cL_law 908 = .ok (.iload 4, 2) := by decide +kernel
theorem dL_law_910 : decode cL_law 910 = .ok (.iconst 2, 1) := by decide +kernel
theorem dL_law_911 : decode cL_law 911 = .ok (.iadd, 1) := by decide +kernel
theorem dL_law_912 : decode cL_law 912 = .ok (.iaload, 1) := by decide +kernel
theorem dL_law_913 : decode cL_law 913 = .ok (.aload_n 0, 1) := by decide +kernel
theorem dL_law_914 : decode cL_law 914 = .ok (.iload 4, 2) := by decide +kernel
theorem dL_law_916 : decode cL_law 916 = .ok (.iconst 3, 1) := by decide +kernel
theorem dL_law_917 : decode cL_law 917 = .ok (.iadd, 1) := by decide +kernel
theorem dL_law_918 : decode cL_law 918 = .ok (.iaload, 1) := by decide +kernel
theorem dL_law_919 : decode cL_law 919 = .ok (.aload_n 3, 1) := by decide +kernel
theorem dL_law_920 : decode cL_law 920 = .ok (.invokestatic 177, 3) := by decide +kernel
theorem dL_law_923 : decode cL_law 923 = .ok (.istore 5, 2) := by decide +kernel
theorem dL_law_925 : decode cL_law 925 = .ok (.aload_n 2, 1) := by decide +kernel
theorem dL_law_926 : decode cL_law 926 = .ok (.aload_n 0, 1) := by decide +kernel
theorem dL_law_927 : decode cL_law 927 = .ok (.iload 4, 2) := by decide +kernel
theorem dL_law_929 : decode cL_law 929 = .ok (.iconst 1, 1) := by decide +kernel
theorem dL_law_930 : decode cL_law 930 = .ok (.iadd, 1) := by decide +kernel
theorem dL_law_931 : decode cL_law 931 = .ok (.iaload, 1) := by decide +kernel
theorem dL_law_932 : decode cL_law 932 = .ok (.aload_n 0, 1) := by decide +kernel
theorem dL_law_933 : decode cL_law 933 = .ok (.iload 4, 2) := by decide +kernel
theorem dL_law_935 : decode cL_law 935 = .ok (.iconst 2, 1) := by decide +kernel
theorem dL_law_936 : decode cL_law 936 = .ok (.iadd, 1) := by decide +kernel
theorem dL_law_937 : decode cL_law 937 = .ok (.iaload, 1) := by decide +kernel
theorem dL_law_938 : decode cL_law 938 = .ok (.aload_n 0, 1) := by decide +kernel
theorem dL_law_939 : decode cL_law 939 = .ok (.iload 4, 2) := by decide +kernel
theorem dL_law_941 : decode cL_law 941 = .ok (.iconst 3, 1) := by decide +kernel
theorem dL_law_942 : decode cL_law 942 = .ok (.iadd, 1) := by decide +kernel
theorem dL_law_943 : decode cL_law 943 = .ok (.iaload, 1) := by decide +kernel
theorem dL_law_944 : decode cL_law 944 = .ok (.invokevirtual 180, 3) := by decide +kernel
theorem dL_law_947 : decode cL_law 947 = .ok (.istore 6, 2) := by decide +kernel
theorem dL_law_949 : decode cL_law 949 = .ok (.aload_n 2, 1) := by decide +kernel
theorem dL_law_950 : decode cL_law 950 = .ok (.invokevirtual 131, 3) := by decide +kernel
theorem dL_law_953 : decode cL_law 953 = .ok (.iload 5, 2) := by decide +kernel
theorem dL_law_955 : decode cL_law 955 = .ok (.if_icmp .eq 5, 3) := by decide +kernel
theorem dL_law_960 : decode cL_law 960 = .ok (.iload 5, 2) := by decide +kernel
theorem dL_law_962 : decode cL_law 962 = .ok (.ifCond .ne 15, 3) := by decide +kernel
theorem dL_law_977 : decode cL_law 977 = .ok (.goto 1841, 3) := by decide +kernel
theorem dL_law_980 : decode cL_law 980 = .ok (.aload_n 1, 1) := by decide +kernel
theorem dL_law_981 : decode cL_law 981 = .ok (.aload_n 0, 1) := by decide +kernel
theorem dL_law_982 : decode cL_law 982 = .ok (.iload 4, 2) := by decide +kernel
theorem dL_law_984 : decode cL_law 984 = .ok (.iconst 1, 1) := by decide +kernel
theorem dL_law_985 : decode cL_law 985 = .ok (.iadd, 1) := by decide +kernel
theorem dL_law_986 : decode cL_law 986 = .ok (.iaload, 1) := by decide +kernel
theorem dL_law_987 : decode cL_law 987 = .ok (.aload_n 0, 1) := by decide +kernel
theorem dL_law_988 : decode cL_law 988 = .ok (.iload 4, 2) := by decide +kernel
theorem dL_law_990 : decode cL_law 990 = .ok (.iconst 2, 1) := by decide +kernel
theorem dL_law_991 : decode cL_law 991 = .ok (.iadd, 1) := by decide +kernel
theorem dL_law_992 : decode cL_law 992 = .ok (.iaload, 1) := by decide +kernel
theorem dL_law_993 : decode cL_law 993 = .ok (.aload_n 3, 1) := by decide +kernel
theorem dL_law_994 : decode cL_law 994 = .ok (.invokestatic 181, 3) := by decide +kernel
theorem dL_law_997 : decode cL_law 997 = .ok (.istore 5, 2) := by decide +kernel
theorem dL_law_999 : decode cL_law 999 = .ok (.aload_n 2, 1) := by decide +kernel
theorem dL_law_1000 : decode cL_law 1000 = .ok (.aload_n 0, 1) := by decide +kernel
theorem dL_law_1001 : decode cL_law 1001 = .ok (.iload 4, 2) := by decide +kernel
theorem dL_law_1003 : decode cL_law 1003 = .ok (.iconst 1, 1) := by decide +kernel
theorem dL_law_1004 : decode cL_law 1004 = .ok (.iadd, 1) := by decide +kernel
theorem dL_law_1005 : decode cL_law 1005 = .ok (.iaload, 1) := by decide +kernel
theorem dL_law_1006 : decode cL_law 1006 = .ok (.aload_n 0, 1) := by decide +kernel
theorem dL_law_1007 : decode cL_law 1007 = .ok (.iload 4, 2) := by decide +kernel
theorem dL_law_1009 : decode cL_law 1009 = .ok (.iconst 2, 1) := by decide +kernel
theorem dL_law_1010 : decode cL_law 1010 = .ok (.iadd, 1) := by decide +kernel
theorem dL_law_1011 : decode cL_law 1011 = .ok (.iaload, 1) := by decide +kernel
theorem dL_law_1012 : decode cL_law 1012 = .ok (.invokevirtual 183, 3) := by decide +kernel
theorem dL_law_1015 : decode cL_law 1015 = .ok (.istore 6, 2) := by decide +kernel
theorem dL_law_1017 : decode cL_law 1017 = .ok (.aload_n 2, 1) := by decide +kernel
theorem dL_law_1018 : decode cL_law 1018 = .ok (.invokevirtual 131, 3) := by decide +kernel
theorem dL_law_1021 : decode cL_law 1021 = .ok (.iload 5, 2) := by decide +kernel
theorem dL_law_1023 : decode cL_law 1023 = .ok (.if_icmp .eq 5, 3) := by decide +kernel
theorem dL_law_1028 : decode cL_law 1028 = .ok (.iload 5, 2) := by decide +kernel
theorem dL_law_1030 : decode cL_law 1030 = .ok (.ifCond .ne 15, 3) := by decide +kernel
theorem dL_law_1045 : decode cL_law 1045 = .ok (.goto 1773, 3) := by decide +kernel
theorem dL_law_1048 : decode cL_law 1048 = .ok (.aload_n 1, 1) := by decide +kernel
theorem dL_law_1049 : decode cL_law 1049 = .ok (.aload_n 0, 1) := by decide +kernel
theorem dL_law_1050 : decode cL_law 1050 = .ok (.iload 4, 2) := by decide +kernel
theorem dL_law_1052 : decode cL_law 1052 = .ok (.iconst 1, 1) := by decide +kernel
theorem dL_law_1053 : decode cL_law 1053 = .ok (.iadd, 1) := by decide +kernel
theorem dL_law_1054 : decode cL_law 1054 = .ok (.iaload, 1) := by decide +kernel
theorem dL_law_1055 : decode cL_law 1055 = .ok (.aload_n 0, 1) := by decide +kernel
theorem dL_law_1056 : decode cL_law 1056 = .ok (.iload 4, 2) := by decide +kernel
theorem dL_law_1058 : decode cL_law 1058 = .ok (.iconst 2, 1) := by decide +kernel
theorem dL_law_1059 : decode cL_law 1059 = .ok (.iadd, 1) := by decide +kernel
theorem dL_law_1060 : decode cL_law 1060 = .ok (.iaload, 1) := by decide +kernel
theorem dL_law_1061 : decode cL_law 1061 = .ok (.aload_n 0, 1) := by decide +kernel
theorem dL_law_1062 : decode cL_law 1062 = .ok (.iload 4, 2) := by decide +kernel
theorem dL_law_1064 : decode cL_law 1064 = .ok (.iconst 3, 1) := by decide +kernel
theorem dL_law_1065 : decode cL_law 1065 = .ok (.iadd, 1) := by decide +kernel
theorem dL_law_1066 : decode cL_law 1066 = .ok (.iaload, 1) := by decide +kernel
theorem dL_law_1067 : decode cL_law 1067 = .ok (.ifCond .eq 7, 3) := by decide +kernel
theorem dL_law_1070 : decode cL_law 1070 = .ok (.iconst 1, 1) := by decide +kernel
theorem dL_law_1071 : decode cL_law 1071 = .ok (.goto 4, 3) := by decide +kernel
theorem dL_law_1074 : decode cL_law 1074 = .ok (.iconst 0, 1) := by decide +kernel
theorem dL_law_1075 : decode cL_law 1075 = .ok (.aload_n 3, 1) := by decide +kernel
theorem dL_law_1076 : decode cL_law 1076 = .ok (.invokestatic 184, 3) := by decide +kernel
theorem dL_law_1079 : decode cL_law 1079 = .ok (.istore 5, 2) := by decide +kernel
theorem dL_law_1081 : decode cL_law 1081 = .ok (.aload_n 2, 1) := by decide +kernel
theorem dL_law_1082 : decode cL_law 1082 = .ok (.aload_n 0, 1) := by decide +kernel
theorem dL_law_1083 : decode cL_law 1083 = .ok (.iload 4, 2) := by decide +kernel
theorem dL_law_1085 : decode cL_law 1085 = .ok (.iconst 1, 1) := by decide +kernel
theorem dL_law_1086 : decode cL_law 1086 = .ok (.iadd, 1) := by decide +kernel
theorem dL_law_1087 : decode cL_law 1087 = .ok (.iaload, 1) := by decide +kernel
theorem dL_law_1088 : decode cL_law 1088 = .ok (.aload_n 0, 1) := by decide +kernel
theorem dL_law_1089 : decode cL_law 1089 = .ok (.iload 4, 2) := by decide +kernel
theorem dL_law_1091 : decode cL_law 1091 = .ok (.iconst 2, 1) := by decide +kernel
theorem dL_law_1092 : decode cL_law 1092 = .ok (.iadd, 1) := by decide +kernel
theorem dL_law_1093 : decode cL_law 1093 = .ok (.iaload, 1) := by decide +kernel
theorem dL_law_1094 : decode cL_law 1094 = .ok (.aload_n 0, 1) := by decide +kernel
theorem dL_law_1095 : decode cL_law 1095 = .ok (.iload 4, 2) := by decide +kernel
theorem dL_law_1097 : decode cL_law 1097 = .ok (.iconst 3, 1) := by decide +kernel
theorem dL_law_1098 : decode cL_law 1098 = .ok (.iadd, 1) := by decide +kernel
theorem dL_law_1099 : decode cL_law 1099 = .ok (.iaload, 1) := by decide +kernel
theorem dL_law_1100 : decode cL_law 1100 = .ok (.ifCond .eq 7, 3) := by decide +kernel
theorem dL_law_1103 : decode cL_law 1103 = .ok (.iconst 1, 1) := by decide +kernel
theorem dL_law_1104 : decode cL_law 1104 = .ok (.goto 4, 3) := by decide +kernel
theorem dL_law_1107 : decode cL_law 1107 = .ok (.iconst 0, 1) := by decide +kernel
theorem dL_law_1108 : decode cL_law 1108 = .ok (.invokevirtual 187, 3) := by decide +kernel
theorem dL_law_1111 : decode cL_law 1111 = .ok (.istore 6, 2) := by decide +kernel
theorem dL_law_1113 : decode cL_law 1113 = .ok (.aload_n 2, 1) := by decide +kernel
theorem dL_law_1114 : decode cL_law 1114 = .ok (.invokevirtual 131, 3) := by decide +kernel
theorem dL_law_1117 : decode cL_law 1117 = .ok (.iload 5, 2) := by decide +kernel
theorem dL_law_1119 : decode cL_law 1119 = .ok (.if_icmp .eq 5, 3) := by decide +kernel
theorem dL_law_1124 : decode cL_law 1124 = .ok (.iload 5, 2) := by decide +kernel
theorem dL_law_1126 : decode cL_law 1126 = .ok (.ifCond .ne 15, 3) := by decide +kernel
theorem dL_law_1141 : decode cL_law 1141 = .ok (.goto 1677, 3) := by decide +kernel
theorem dL_law_1144 : decode cL_law 1144 = .ok (.aload_n 1, 1) := by decide +kernel
theorem dL_law_1145 : decode cL_law 1145 = .ok (.aload_n 0, 1) := by decide +kernel
theorem dL_law_1146 : decode cL_law 1146 = .ok (.iload 4, 2) := by decide +kernel
theorem dL_law_1148 : decode cL_law 1148 = .ok (.iconst 1, 1) := by decide +kernel
theorem dL_law_1149 : decode cL_law 1149 = .ok (.iadd, 1) := by decide +kernel
theorem dL_law_1150 : decode cL_law 1150 = .ok (.iaload, 1) := by decide +kernel
theorem dL_law_1151 : decode cL_law 1151 = .ok (.aload_n 0, 1) := by decide +kernel
theorem dL_law_1152 : decode cL_law 1152 = .ok (.iload 4, 2) := by decide +kernel
theorem dL_law_1154 : decode cL_law 1154 = .ok (.iconst 2, 1) := by decide +kernel
theorem dL_law_1155 : decode cL_law 1155 = .ok (.iadd, 1) := by decide +kernel
theorem dL_law_1156 : decode cL_law 1156 = .ok (.iaload, 1) := by decide +kernel
theorem dL_law_1157 : decode cL_law 1157 = .ok (.aload_n 3, 1) := by decide +kernel
theorem dL_law_1158 : decode cL_law 1158 = .ok (.invokestatic 188, 3) := by decide +kernel
theorem dL_law_1161 : decode cL_law 1161 = .ok (.istore 5, 2) := by decide +kernel
theorem dL_law_1163 : decode cL_law 1163 = .ok (.aload_n 2, 1) := by decide +kernel
theorem dL_law_1164 : decode cL_law 1164 = .ok (.aload_n 0, 1) := by decide +kernel
theorem dL_law_1165 : decode cL_law 1165 = .ok (.iload 4, 2) := by decide +kernel
theorem dL_law_1167 : decode cL_law 1167 = .ok (.iconst 1, 1) := by decide +kernel
theorem dL_law_1168 : decode cL_law 1168 = .ok (.iadd, 1) := by decide +kernel
theorem dL_law_1169 : decode cL_law 1169 = .ok (.iaload, 1) := by decide +kernel
theorem dL_law_1170 : decode cL_law 1170 = .ok (.aload_n 0, 1) := by decide +kernel
theorem dL_law_1171 : decode cL_law 1171 = .ok (.iload 4, 2) := by decide +kernel
theorem dL_law_1173 : decode cL_law 1173 = .ok (.iconst 2, 1) := by decide +kernel
theorem dL_law_1174 : decode cL_law 1174 = .ok (.iadd, 1) := by decide +kernel
theorem dL_law_1175 : decode cL_law 1175 = .ok (.iaload, 1) := by decide +kernel
theorem dL_law_1176 : decode cL_law 1176 = .ok (.invokevirtual 190, 3) := by decide +kernel
theorem dL_law_1179 : decode cL_law 1179 = .ok (.istore 6, 2) := by decide +kernel
theorem dL_law_1181 : decode cL_law 1181 = .ok (.aload_n 2, 1) := by decide +kernel
theorem dL_law_1182 : decode cL_law 1182 = .ok (.invokevirtual 131, 3) := by decide +kernel
theorem dL_law_1185 : decode cL_law 1185 = .ok (.iload 5, 2) := by decide +kernel
theorem dL_law_1187 : decode cL_law 1187 = .ok (.if_icmp .eq 5, 3) := by decide +kernel
theorem dL_law_1192 : decode cL_law 1192 = .ok (.iload 5, 2) := by decide +kernel
theorem dL_law_1194 : decode cL_law 1194 = .ok (.ifCond .ne 15, 3) := by decide +kernel
theorem dL_law_1209 : decode cL_law 1209 = .ok (.goto 1609, 3) := by decide +kernel
theorem dL_law_1212 : decode cL_law 1212 = .ok (.aload_n 1, 1) := by decide +kernel
theorem dL_law_1213 : decode cL_law 1213 = .ok (.aload_n 0, 1) := by decide +kernel
theorem dL_law_1214 : decode cL_law 1214 = .ok (.iload 4, 2) := by decide +kernel
theorem dL_law_1216 : decode cL_law 1216 = .ok (.iconst 1, 1) := by decide +kernel
theorem dL_law_1217 : decode cL_law 1217 = .ok (.iadd, 1) := by decide +kernel
theorem dL_law_1218 : decode cL_law 1218 = .ok (.iaload, 1) := by decide +kernel
theorem dL_law_1219 : decode cL_law 1219 = .ok (.aload_n 0, 1) := by decide +kernel
theorem dL_law_1220 : decode cL_law 1220 = .ok (.iload 4, 2) := by decide +kernel
theorem dL_law_1222 : decode cL_law 1222 = .ok (.iconst 2, 1) := by decide +kernel
theorem dL_law_1223 : decode cL_law 1223 = .ok (.iadd, 1) := by decide +kernel
theorem dL_law_1224 : decode cL_law 1224 = .ok (.iaload, 1) := by decide +kernel
theorem dL_law_1225 : decode cL_law 1225 = .ok (.aload_n 3, 1) := by decide +kernel
theorem dL_law_1226 : decode cL_law 1226 = .ok (.invokestatic 191, 3) := by decide +kernel
theorem dL_law_1229 : decode cL_law 1229 = .ok (.istore 5, 2) := by decide +kernel
theorem dL_law_1231 : decode cL_law 1231 = .ok (.aload_n 2, 1) := by decide +kernel
theorem dL_law_1232 : decode cL_law 1232 = .ok (.aload_n 0, 1) := by decide +kernel
theorem dL_law_1233 : decode cL_law 1233 = .ok (.iload 4, 2) := by decide +kernel
theorem dL_law_1235 : decode cL_law 1235 = .ok (.iconst 1, 1) := by decide +kernel
theorem dL_law_1236 : decode cL_law 1236 = .ok (.iadd, 1) := by decide +kernel
theorem dL_law_1237 : decode cL_law 1237 = .ok (.iaload, 1) := by decide +kernel
theorem dL_law_1238 : decode cL_law 1238 = .ok (.aload_n 0, 1) := by decide +kernel
theorem dL_law_1239 : decode cL_law 1239 = .ok (.iload 4, 2) := by decide +kernel
theorem dL_law_1241 : decode cL_law 1241 = .ok (.iconst 2, 1) := by decide +kernel
theorem dL_law_1242 : decode cL_law 1242 = .ok (.iadd, 1) := by decide +kernel
theorem dL_law_1243 : decode cL_law 1243 = .ok (.iaload, 1) := by decide +kernel
theorem dL_law_1244 : decode cL_law 1244 = .ok (.invokevirtual 193, 3) := by decide +kernel
theorem dL_law_1247 : decode cL_law 1247 = .ok (.istore 6, 2) := by decide +kernel
theorem dL_law_1249 : decode cL_law 1249 = .ok (.aload_n 2, 1) := by decide +kernel
theorem dL_law_1250 : decode cL_law 1250 = .ok (.invokevirtual 131, 3) := by decide +kernel
theorem dL_law_1253 : decode cL_law 1253 = .ok (.iload 5, 2) := by decide +kernel
theorem dL_law_1255 : decode cL_law 1255 = .ok (.if_icmp .eq 5, 3) := by decide +kernel
theorem dL_law_1260 : decode cL_law 1260 = .ok (.iload 5, 2) := by decide +kernel
theorem dL_law_1262 : decode cL_law 1262 = .ok (.ifCond .ne 15, 3) := by decide +kernel
theorem dL_law_1277 : decode cL_law 1277 = .ok (.goto 1541, 3) := by decide +kernel
theorem dL_law_1280 : decode cL_law 1280 = .ok (.aload_n 1, 1) := by decide +kernel
theorem dL_law_1281 : decode cL_law 1281 = .ok (.aload_n 0, 1) := by decide +kernel
theorem dL_law_1282 : decode cL_law 1282 = .ok (.iload 4, 2) := by decide +kernel
theorem dL_law_1284 : decode cL_law 1284 = .ok (.iconst 1, 1) := by decide +kernel
theorem dL_law_1285 : decode cL_law 1285 = .ok (.iadd, 1) := by decide +kernel
theorem dL_law_1286 : decode cL_law 1286 = .ok (.iaload, 1) := by decide +kernel
theorem dL_law_1287 : decode cL_law 1287 = .ok (.aload_n 0, 1) := by decide +kernel
theorem dL_law_1288 : decode cL_law 1288 = .ok (.iload 4, 2) := by decide +kernel
theorem dL_law_1290 : decode cL_law 1290 = .ok (.iconst 2, 1) := by decide +kernel
theorem dL_law_1291 : decode cL_law 1291 = .ok (.iadd, 1) := by decide +kernel
theorem dL_law_1292 : decode cL_law 1292 = .ok (.iaload, 1) := by decide +kernel
theorem dL_law_1293 : decode cL_law 1293 = .ok (.aload_n 0, 1) := by decide +kernel
theorem dL_law_1294 : decode cL_law 1294 = .ok (.iload 4, 2) := by decide +kernel
theorem dL_law_1296 : decode cL_law 1296 = .ok (.iconst 3, 1) := by decide +kernel
theorem dL_law_1297 : decode cL_law 1297 = .ok (.iadd, 1) := by decide +kernel
theorem dL_law_1298 : decode cL_law 1298 = .ok (.iaload, 1) := by decide +kernel
theorem dL_law_1299 : decode cL_law 1299 = .ok (.aload_n 3, 1) := by decide +kernel
theorem dL_law_1300 : decode cL_law 1300 = .ok (.invokestatic 194, 3) := by decide +kernel
theorem dL_law_1303 : decode cL_law 1303 = .ok (.istore 5, 2) := by decide +kernel
theorem dL_law_1305 : decode cL_law 1305 = .ok (.aload_n 2, 1) := by decide +kernel
theorem dL_law_1306 : decode cL_law 1306 = .ok (.aload_n 0, 1) := by decide +kernel
theorem dL_law_1307 : decode cL_law 1307 = .ok (.iload 4, 2) := by decide +kernel
theorem dL_law_1309 : decode cL_law 1309 = .ok (.iconst 1, 1) := by decide +kernel
theorem dL_law_1310 : decode cL_law 1310 = .ok (.iadd, 1) := by decide +kernel
theorem dL_law_1311 : decode cL_law 1311 = .ok (.iaload, 1) := by decide +kernel
theorem dL_law_1312 : decode cL_law 1312 = .ok (.aload_n 0, 1) := by decide +kernel
theorem dL_law_1313 : decode cL_law 1313 = .ok (.iload 4, 2) := by decide +kernel
theorem dL_law_1315 : decode cL_law 1315 = .ok (.iconst 2, 1) := by decide +kernel
theorem dL_law_1316 : decode cL_law 1316 = .ok (.iadd, 1) := by decide +kernel
theorem dL_law_1317 : decode cL_law 1317 = .ok (.iaload, 1) := by decide +kernel
theorem dL_law_1318 : decode cL_law 1318 = .ok (.aload_n 0, 1) := by decide +kernel
theorem dL_law_1319 : decode cL_law 1319 = .ok (.iload 4, 2) := by decide +kernel
theorem dL_law_1321 : decode cL_law 1321 = .ok (.iconst 3, 1) := by decide +kernel
theorem dL_law_1322 : decode cL_law 1322 = .ok (.iadd, 1) := by decide +kernel
theorem dL_law_1323 : decode cL_law 1323 = .ok (.iaload, 1) := by decide +kernel
theorem dL_law_1324 : decode cL_law 1324 = .ok (.invokevirtual 196, 3) := by decide +kernel
theorem dL_law_1327 : decode cL_law 1327 = .ok (.istore 6, 2) := by decide +kernel
theorem dL_law_1329 : decode cL_law 1329 = .ok (.aload_n 2, 1) := by decide +kernel
theorem dL_law_1330 : decode cL_law 1330 = .ok (.invokevirtual 131, 3) := by decide +kernel
theorem dL_law_1333 : decode cL_law 1333 = .ok (.iload 5, 2) := by decide +kernel
theorem dL_law_1335 : decode cL_law 1335 = .ok (.if_icmp .eq 5, 3) := by decide +kernel
theorem dL_law_1340 : decode cL_law 1340 = .ok (.iload 5, 2) := by decide +kernel
theorem dL_law_1342 : decode cL_law 1342 = .ok (.ifCond .ne 15, 3) := by decide +kernel
theorem dL_law_1357 : decode cL_law 1357 = .ok (.goto 1461, 3) := by decide +kernel
theorem dL_law_1360 : decode cL_law 1360 = .ok (.aload_n 1, 1) := by decide +kernel
theorem dL_law_1361 : decode cL_law 1361 = .ok (.aload_n 0, 1) := by decide +kernel
theorem dL_law_1362 : decode cL_law 1362 = .ok (.iload 4, 2) := by decide +kernel
theorem dL_law_1364 : decode cL_law 1364 = .ok (.iconst 1, 1) := by decide +kernel
theorem dL_law_1365 : decode cL_law 1365 = .ok (.iadd, 1) := by decide +kernel
theorem dL_law_1366 : decode cL_law 1366 = .ok (.iaload, 1) := by decide +kernel
theorem dL_law_1367 : decode cL_law 1367 = .ok (.aload_n 0, 1) := by decide +kernel
theorem dL_law_1368 : decode cL_law 1368 = .ok (.iload 4, 2) := by decide +kernel
theorem dL_law_1370 : decode cL_law 1370 = .ok (.iconst 2, 1) := by decide +kernel
theorem dL_law_1371 : decode cL_law 1371 = .ok (.iadd, 1) := by decide +kernel
theorem dL_law_1372 : decode cL_law 1372 = .ok (.iaload, 1) := by decide +kernel
theorem dL_law_1373 : decode cL_law 1373 = .ok (.aload_n 0, 1) := by decide +kernel
theorem dL_law_1374 : decode cL_law 1374 = .ok (.iload 4, 2) := by decide +kernel
theorem dL_law_1376 : decode cL_law 1376 = .ok (.iconst 3, 1) := by decide +kernel
theorem dL_law_1377 : decode cL_law 1377 = .ok (.iadd, 1) := by decide +kernel
theorem dL_law_1378 : decode cL_law 1378 = .ok (.iaload, 1) := by decide +kernel
theorem dL_law_1379 : decode cL_law 1379 = .ok (.aload_n 0, 1) := by decide +kernel
theorem dL_law_1380 : decode cL_law 1380 = .ok (.iload 4, 2) := by decide +kernel
theorem dL_law_1382 : decode cL_law 1382 = .ok (.iconst 4, 1) := by decide +kernel
theorem dL_law_1383 : decode cL_law 1383 = .ok (.iadd, 1) := by decide +kernel
theorem dL_law_1384 : decode cL_law 1384 = .ok (.iaload, 1) := by decide +kernel
theorem dL_law_1385 : decode cL_law 1385 = .ok (.aload_n 3, 1) := by decide +kernel
theorem dL_law_1386 : decode cL_law 1386 = .ok (.invokestatic 197, 3) := by decide +kernel
theorem dL_law_1389 : decode cL_law 1389 = .ok (.istore 5, 2) := by decide +kernel
theorem dL_law_1391 : decode cL_law 1391 = .ok (.aload_n 2, 1) := by decide +kernel
theorem dL_law_1392 : decode cL_law 1392 = .ok (.aload_n 0, 1) := by decide +kernel
theorem dL_law_1393 : decode cL_law 1393 = .ok (.iload 4, 2) := by decide +kernel
theorem dL_law_1395 : decode cL_law 1395 = .ok (.iconst 1, 1) := by decide +kernel
theorem dL_law_1396 : decode cL_law 1396 = .ok (.iadd, 1) := by decide +kernel
theorem dL_law_1397 : decode cL_law 1397 = .ok (.iaload, 1) := by decide +kernel
theorem dL_law_1398 : decode cL_law 1398 = .ok (.aload_n 0, 1) := by decide +kernel
theorem dL_law_1399 : decode cL_law 1399 = .ok (.iload 4, 2) := by decide +kernel
theorem dL_law_1401 : decode cL_law 1401 = .ok (.iconst 2, 1) := by decide +kernel
theorem dL_law_1402 : decode cL_law 1402 = .ok (.iadd, 1) := by decide +kernel
theorem dL_law_1403 : decode cL_law 1403 = .ok (.iaload, 1) := by decide +kernel
theorem dL_law_1404 : decode cL_law 1404 = .ok (.aload_n 0, 1) := by decide +kernel
theorem dL_law_1405 : decode cL_law 1405 = .ok (.iload 4, 2) := by decide +kernel
theorem dL_law_1407 : decode cL_law 1407 = .ok (.iconst 3, 1) := by decide +kernel
theorem dL_law_1408 : decode cL_law 1408 = .ok (.iadd, 1) := by decide +kernel
theorem dL_law_1409 : decode cL_law 1409 = .ok (.iaload, 1) := by decide +kernel
theorem dL_law_1410 : decode cL_law 1410 = .ok (.aload_n 0, 1) := by decide +kernel
theorem dL_law_1411 : decode cL_law 1411 = .ok (.iload 4, 2) := by decide +kernel
theorem dL_law_1413 : decode cL_law 1413 = .ok (.iconst 4, 1) := by decide +kernel
theorem dL_law_1414 : decode cL_law 1414 = .ok (.iadd, 1) := by decide +kernel
theorem dL_law_1415 : decode cL_law 1415 = .ok (.iaload, 1) := by decide +kernel
theorem dL_law_1416 : decode cL_law 1416 = .ok (.invokevirtual 200, 3) := by decide +kernel
theorem dL_law_1419 : decode cL_law 1419 = .ok (.istore 6, 2) := by decide +kernel
theorem dL_law_1421 : decode cL_law 1421 = .ok (.aload_n 2, 1) := by decide +kernel
theorem dL_law_1422 : decode cL_law 1422 = .ok (.invokevirtual 131, 3) := by decide +kernel
theorem dL_law_1425 : decode cL_law 1425 = .ok (.iload 5, 2) := by decide +kernel
theorem dL_law_1427 : decode cL_law 1427 = .ok (.if_icmp .eq 5, 3) := by decide +kernel
theorem dL_law_1432 : decode cL_law 1432 = .ok (.iload 5, 2) := by decide +kernel
theorem dL_law_1434 : decode cL_law 1434 = .ok (.ifCond .ne 15, 3) := by decide +kernel
theorem dL_law_1449 : decode cL_law 1449 = .ok (.goto 1369, 3) := by decide +kernel
theorem dL_law_1452 : decode cL_law 1452 = .ok (.aload_n 1, 1) := by decide +kernel
theorem dL_law_1453 : decode cL_law 1453 = .ok (.aload_n 0, 1) := by decide +kernel
theorem dL_law_1454 : decode cL_law 1454 = .ok (.iload 4, 2) := by decide +kernel
theorem dL_law_1456 : decode cL_law 1456 = .ok (.iconst 1, 1) := by decide +kernel
theorem dL_law_1457 : decode cL_law 1457 = .ok (.iadd, 1) := by decide +kernel
theorem dL_law_1458 : decode cL_law 1458 = .ok (.iaload, 1) := by decide +kernel
theorem dL_law_1459 : decode cL_law 1459 = .ok (.aload_n 0, 1) := by decide +kernel
theorem dL_law_1460 : decode cL_law 1460 = .ok (.iload 4, 2) := by decide +kernel
theorem dL_law_1462 : decode cL_law 1462 = .ok (.iconst 2, 1) := by decide +kernel
theorem dL_law_1463 : decode cL_law 1463 = .ok (.iadd, 1) := by decide +kernel
theorem dL_law_1464 : decode cL_law 1464 = .ok (.iaload, 1) := by decide +kernel
theorem dL_law_1465 : decode cL_law 1465 = .ok (.aload_n 3, 1) := by decide +kernel
theorem dL_law_1466 : decode cL_law 1466 = .ok (.invokestatic 201, 3) := by decide +kernel
theorem dL_law_1469 : decode cL_law 1469 = .ok (.istore 5, 2) := by decide +kernel
theorem dL_law_1471 : decode cL_law 1471 = .ok (.aload_n 2, 1) := by decide +kernel
theorem dL_law_1472 : decode cL_law 1472 = .ok (.aload_n 0, 1) := by decide +kernel
theorem dL_law_1473 : decode cL_law 1473 = .ok (.iload 4, 2) := by decide +kernel
theorem dL_law_1475 : decode cL_law 1475 = .ok (.iconst 1, 1) := by decide +kernel
theorem dL_law_1476 : decode cL_law 1476 = .ok (.iadd, 1) := by decide +kernel
theorem dL_law_1477 : decode cL_law 1477 = .ok (.iaload, 1) := by decide +kernel
theorem dL_law_1478 : decode cL_law 1478 = .ok (.aload_n 0, 1) := by decide +kernel
theorem dL_law_1479 : decode cL_law 1479 = .ok (.iload 4, 2) := by decide +kernel
theorem dL_law_1481 : decode cL_law 1481 = .ok (.iconst 2, 1) := by decide +kernel
theorem dL_law_1482 : decode cL_law 1482 = .ok (.iadd, 1) := by decide +kernel
theorem dL_law_1483 : decode cL_law 1483 = .ok (.iaload, 1) := by decide +kernel
theorem dL_law_1484 : decode cL_law 1484 = .ok (.invokevirtual 203, 3) := by decide +kernel
theorem dL_law_1487 : decode cL_law 1487 = .ok (.istore 6, 2) := by decide +kernel
theorem dL_law_1489 : decode cL_law 1489 = .ok (.aload_n 2, 1) := by decide +kernel
theorem dL_law_1490 : decode cL_law 1490 = .ok (.invokevirtual 131, 3) := by decide +kernel
theorem dL_law_1493 : decode cL_law 1493 = .ok (.iload 5, 2) := by decide +kernel
theorem dL_law_1495 : decode cL_law 1495 = .ok (.if_icmp .eq 5, 3) := by decide +kernel
theorem dL_law_1500 : decode cL_law 1500 = .ok (.iload 5, 2) := by decide +kernel
theorem dL_law_1502 : decode cL_law 1502 = .ok (.ifCond .ne 15, 3) := by decide +kernel
theorem dL_law_1517 : decode cL_law 1517 = .ok (.goto 1301, 3) := by decide +kernel
theorem dL_law_1520 : decode cL_law 1520 = .ok (.aload_n 1, 1) := by decide +kernel
theorem dL_law_1521 : decode cL_law 1521 = .ok (.aload_n 0, 1) := by decide +kernel
theorem dL_law_1522 : decode cL_law 1522 = .ok (.iload 4, 2) := by decide +kernel
theorem dL_law_1524 : decode cL_law 1524 = .ok (.iconst 1, 1) := by decide +kernel
theorem dL_law_1525 : decode cL_law 1525 = .ok (.iadd, 1) := by decide +kernel
theorem dL_law_1526 : decode cL_law 1526 = .ok (.iaload, 1) := by decide +kernel
theorem dL_law_1527 : decode cL_law 1527 = .ok (.aload_n 0, 1) := by decide +kernel
theorem dL_law_1528 : decode cL_law 1528 = .ok (.iload 4, 2) := by decide +kernel
theorem dL_law_1530 : decode cL_law 1530 = .ok (.iconst 2, 1) := by decide +kernel
theorem dL_law_1531 : decode cL_law 1531 = .ok (.iadd, 1) := by decide +kernel
theorem dL_law_1532 : decode cL_law 1532 = .ok (.iaload, 1) := by decide +kernel
theorem dL_law_1533 : decode cL_law 1533 = .ok (.aload_n 0, 1) := by decide +kernel
theorem dL_law_1534 : decode cL_law 1534 = .ok (.iload 4, 2) := by decide +kernel
theorem dL_law_1536 : decode cL_law 1536 = .ok (.iconst 3, 1) := by decide +kernel
theorem dL_law_1537 : decode cL_law 1537 = .ok (.iadd, 1) := by decide +kernel
theorem dL_law_1538 : decode cL_law 1538 = .ok (.iaload, 1) := by decide +kernel
theorem dL_law_1539 : decode cL_law 1539 = .ok (.aload_n 3, 1) := by decide +kernel
theorem dL_law_1540 : decode cL_law 1540 = .ok (.invokestatic 204, 3) := by decide +kernel
theorem dL_law_1543 : decode cL_law 1543 = .ok (.istore 5, 2) := by decide +kernel
theorem dL_law_1545 : decode cL_law 1545 = .ok (.aload_n 2, 1) := by decide +kernel
theorem dL_law_1546 : decode cL_law 1546 = .ok (.aload_n 0, 1) := by decide +kernel
theorem dL_law_1547 : decode cL_law 1547 = .ok (.iload 4, 2) := by decide +kernel
theorem dL_law_1549 : decode cL_law 1549 = .ok (.iconst 1, 1) := by decide +kernel
theorem dL_law_1550 : decode cL_law 1550 = .ok (.iadd, 1) := by decide +kernel
theorem dL_law_1551 : decode cL_law 1551 = .ok (.iaload, 1) := by decide +kernel
theorem dL_law_1552 : decode cL_law 1552 = .ok (.aload_n 0, 1) := by decide +kernel
theorem dL_law_1553 : decode cL_law 1553 = .ok (.iload 4, 2) := by decide +kernel
theorem dL_law_1555 : decode cL_law 1555 = .ok (.iconst 2, 1) := by decide +kernel
theorem dL_law_1556 : decode cL_law 1556 = .ok (.iadd, 1) := by decide +kernel
theorem dL_law_1557 : decode cL_law 1557 = .ok (.iaload, 1) := by decide +kernel
theorem dL_law_1558 : decode cL_law 1558 = .ok (.aload_n 0, 1) := by decide +kernel
theorem dL_law_1559 : decode cL_law 1559 = .ok (.iload 4, 2) := by decide +kernel
theorem dL_law_1561 : decode cL_law 1561 = .ok (.iconst 3, 1) := by decide +kernel
theorem dL_law_1562 : decode cL_law 1562 = .ok (.iadd, 1) := by decide +kernel
theorem dL_law_1563 : decode cL_law 1563 = .ok (.iaload, 1) := by decide +kernel
theorem dL_law_1564 : decode cL_law 1564 = .ok (.invokevirtual 206, 3) := by decide +kernel
theorem dL_law_1567 : decode cL_law 1567 = .ok (.istore 6, 2) := by decide +kernel
theorem dL_law_1569 : decode cL_law 1569 = .ok (.aload_n 2, 1) := by decide +kernel
theorem dL_law_1570 : decode cL_law 1570 = .ok (.invokevirtual 131, 3) := by decide +kernel
theorem dL_law_1573 : decode cL_law 1573 = .ok (.iload 5, 2) := by decide +kernel
theorem dL_law_1575 : decode cL_law 1575 = .ok (.if_icmp .eq 5, 3) := by decide +kernel
theorem dL_law_1580 : decode cL_law 1580 = .ok (.iload 5, 2) := by decide +kernel
theorem dL_law_1582 : decode cL_law 1582 = .ok (.ifCond .ne 15, 3) := by decide +kernel
theorem dL_law_1597 : decode cL_law 1597 = .ok (.goto 1221, 3) := by decide +kernel
theorem dL_law_1600 : decode cL_law 1600 = .ok (.aload_n 1, 1) := by decide +kernel
theorem dL_law_1601 : decode cL_law 1601 = .ok (.aload_n 0, 1) := by decide +kernel
theorem dL_law_1602 : decode cL_law 1602 = .ok (.iload 4, 2) := by decide +kernel
theorem dL_law_1604 : decode cL_law 1604 = .ok (.iconst 1, 1) := by decide +kernel
theorem dL_law_1605 : decode cL_law 1605 = .ok (.iadd, 1) := by decide +kernel
theorem dL_law_1606 : decode cL_law 1606 = .ok (.iaload, 1) := by decide +kernel
theorem dL_law_1607 : decode cL_law 1607 = .ok (.aload_n 0, 1) := by decide +kernel
theorem dL_law_1608 : decode cL_law 1608 = .ok (.iload 4, 2) := by decide +kernel
theorem dL_law_1610 : decode cL_law 1610 = .ok (.iconst 2, 1) := by decide +kernel
theorem dL_law_1611 : decode cL_law 1611 = .ok (.iadd, 1) := by decide +kernel
theorem dL_law_1612 : decode cL_law 1612 = .ok (.iaload, 1) := by decide +kernel
theorem dL_law_1613 : decode cL_law 1613 = .ok (.aload_n 0, 1) := by decide +kernel
theorem dL_law_1614 : decode cL_law 1614 = .ok (.iload 4, 2) := by decide +kernel
theorem dL_law_1616 : decode cL_law 1616 = .ok (.iconst 3, 1) := by decide +kernel
theorem dL_law_1617 : decode cL_law 1617 = .ok (.iadd, 1) := by decide +kernel
theorem dL_law_1618 : decode cL_law 1618 = .ok (.iaload, 1) := by decide +kernel
theorem dL_law_1619 : decode cL_law 1619 = .ok (.aload_n 3, 1) := by decide +kernel
theorem dL_law_1620 : decode cL_law 1620 = .ok (.invokestatic 207, 3) := by decide +kernel
theorem dL_law_1623 : decode cL_law 1623 = .ok (.istore 5, 2) := by decide +kernel
theorem dL_law_1625 : decode cL_law 1625 = .ok (.aload_n 2, 1) := by decide +kernel
theorem dL_law_1626 : decode cL_law 1626 = .ok (.aload_n 0, 1) := by decide +kernel
theorem dL_law_1627 : decode cL_law 1627 = .ok (.iload 4, 2) := by decide +kernel
theorem dL_law_1629 : decode cL_law 1629 = .ok (.iconst 1, 1) := by decide +kernel
theorem dL_law_1630 : decode cL_law 1630 = .ok (.iadd, 1) := by decide +kernel
theorem dL_law_1631 : decode cL_law 1631 = .ok (.iaload, 1) := by decide +kernel
theorem dL_law_1632 : decode cL_law 1632 = .ok (.aload_n 0, 1) := by decide +kernel
theorem dL_law_1633 : decode cL_law 1633 = .ok (.iload 4, 2) := by decide +kernel
theorem dL_law_1635 : decode cL_law 1635 = .ok (.iconst 2, 1) := by decide +kernel
theorem dL_law_1636 : decode cL_law 1636 = .ok (.iadd, 1) := by decide +kernel
theorem dL_law_1637 : decode cL_law 1637 = .ok (.iaload, 1) := by decide +kernel
theorem dL_law_1638 : decode cL_law 1638 = .ok (.aload_n 0, 1) := by decide +kernel
theorem dL_law_1639 : decode cL_law 1639 = .ok (.iload 4, 2) := by decide +kernel
theorem dL_law_1641 : decode cL_law 1641 = .ok (.iconst 3, 1) := by decide +kernel
theorem dL_law_1642 : decode cL_law 1642 = .ok (.iadd, 1) := by decide +kernel
theorem dL_law_1643 : decode cL_law 1643 = .ok (.iaload, 1) := by decide +kernel
theorem dL_law_1644 : decode cL_law 1644 = .ok (.invokevirtual 209, 3) := by decide +kernel
theorem dL_law_1647 : decode cL_law 1647 = .ok (.istore 6, 2) := by decide +kernel
theorem dL_law_1649 : decode cL_law 1649 = .ok (.aload_n 2, 1) := by decide +kernel
theorem dL_law_1650 : decode cL_law 1650 = .ok (.invokevirtual 131, 3) := by decide +kernel
theorem dL_law_1653 : decode cL_law 1653 = .ok (.iload 5, 2) := by decide +kernel
theorem dL_law_1655 : decode cL_law 1655 = .ok (.if_icmp .eq 5, 3) := by decide +kernel
theorem dL_law_1660 : decode cL_law 1660 = .ok (.iload 5, 2) := by decide +kernel
theorem dL_law_1662 : decode cL_law 1662 = .ok (.ifCond .ne 15, 3) := by decide +kernel
theorem dL_law_1677 : decode cL_law 1677 = .ok (.goto 1141, 3) := by decide +kernel
theorem dL_law_1680 : decode cL_law 1680 = .ok (.aload_n 1, 1) := by decide +kernel
theorem dL_law_1681 : decode cL_law 1681 = .ok (.aload_n 0, 1) := by decide +kernel
theorem dL_law_1682 : decode cL_law 1682 = .ok (.iload 4, 2) := by decide +kernel
theorem dL_law_1684 : decode cL_law 1684 = .ok (.iconst 1, 1) := by decide +kernel
theorem dL_law_1685 : decode cL_law 1685 = .ok (.iadd, 1) := by decide +kernel
theorem dL_law_1686 : decode cL_law 1686 = .ok (.iaload, 1) := by decide +kernel
theorem dL_law_1687 : decode cL_law 1687 = .ok (.aload_n 0, 1) := by decide +kernel
theorem dL_law_1688 : decode cL_law 1688 = .ok (.iload 4, 2) := by decide +kernel
theorem dL_law_1690 : decode cL_law 1690 = .ok (.iconst 2, 1) := by decide +kernel
theorem dL_law_1691 : decode cL_law 1691 = .ok (.iadd, 1) := by decide +kernel
theorem dL_law_1692 : decode cL_law 1692 = .ok (.iaload, 1) := by decide +kernel
theorem dL_law_1693 : decode cL_law 1693 = .ok (.aload_n 0, 1) := by decide +kernel
theorem dL_law_1694 : decode cL_law 1694 = .ok (.iload 4, 2) := by decide +kernel
theorem dL_law_1696 : decode cL_law 1696 = .ok (.iconst 3, 1) := by decide +kernel
theorem dL_law_1697 : decode cL_law 1697 = .ok (.iadd, 1) := by decide +kernel
theorem dL_law_1698 : decode cL_law 1698 = .ok (.iaload, 1) := by decide +kernel
theorem dL_law_1699 : decode cL_law 1699 = .ok (.aload_n 3, 1) := by decide +kernel
theorem dL_law_1700 : decode cL_law 1700 = .ok (.invokestatic 210, 3) := by decide +kernel
theorem dL_law_1703 : decode cL_law 1703 = .ok (.istore 5, 2) := by decide +kernel
theorem dL_law_1705 : decode cL_law 1705 = .ok (.aload_n 2, 1) := by decide +kernel
theorem dL_law_1706 : decode cL_law 1706 = .ok (.aload_n 0, 1) := by decide +kernel
theorem dL_law_1707 : decode cL_law 1707 = .ok (.iload 4, 2) := by decide +kernel
theorem dL_law_1709 : decode cL_law 1709 = .ok (.iconst 1, 1) := by decide +kernel
theorem dL_law_1710 : decode cL_law 1710 = .ok (.iadd, 1) := by decide +kernel
theorem dL_law_1711 : decode cL_law 1711 = .ok (.iaload, 1) := by decide +kernel
theorem dL_law_1712 : decode cL_law 1712 = .ok (.aload_n 0, 1) := by decide +kernel
theorem dL_law_1713 : decode cL_law 1713 = .ok (.iload 4, 2) := by decide +kernel
theorem dL_law_1715 : decode cL_law 1715 = .ok (.iconst 2, 1) := by decide +kernel
theorem dL_law_1716 : decode cL_law 1716 = .ok (.iadd, 1) := by decide +kernel
theorem dL_law_1717 : decode cL_law 1717 = .ok (.iaload, 1) := by decide +kernel
theorem dL_law_1718 : decode cL_law 1718 = .ok (.aload_n 0, 1) := by decide +kernel
theorem dL_law_1719 : decode cL_law 1719 = .ok (.iload 4, 2) := by decide +kernel
theorem dL_law_1721 : decode cL_law 1721 = .ok (.iconst 3, 1) := by decide +kernel
theorem dL_law_1722 : decode cL_law 1722 = .ok (.iadd, 1) := by decide +kernel
theorem dL_law_1723 : decode cL_law 1723 = .ok (.iaload, 1) := by decide +kernel
theorem dL_law_1724 : decode cL_law 1724 = .ok (.invokevirtual 212, 3) := by decide +kernel
theorem dL_law_1727 : decode cL_law 1727 = .ok (.istore 6, 2) := by decide +kernel
theorem dL_law_1729 : decode cL_law 1729 = .ok (.aload_n 2, 1) := by decide +kernel
theorem dL_law_1730 : decode cL_law 1730 = .ok (.invokevirtual 131, 3) := by decide +kernel
theorem dL_law_1733 : decode cL_law 1733 = .ok (.iload 5, 2) := by decide +kernel
theorem dL_law_1735 : decode cL_law 1735 = .ok (.if_icmp .eq 5, 3) := by decide +kernel
theorem dL_law_1740 : decode cL_law 1740 = .ok (.iload 5, 2) := by decide +kernel
theorem dL_law_1742 : decode cL_law 1742 = .ok (.ifCond .ne 15, 3) := by decide +kernel
theorem dL_law_1757 : decode cL_law 1757 = .ok (.goto 1061, 3) := by decide +kernel
theorem dL_law_1760 : decode cL_law 1760 = .ok (.aload_n 1, 1) := by decide +kernel
theorem dL_law_1761 : decode cL_law 1761 = .ok (.aload_n 0, 1) := by decide +kernel
theorem dL_law_1762 : decode cL_law 1762 = .ok (.iload 4, 2) := by decide +kernel
theorem dL_law_1764 : decode cL_law 1764 = .ok (.iconst 1, 1) := by decide +kernel
theorem dL_law_1765 : decode cL_law 1765 = .ok (.iadd, 1) := by decide +kernel
theorem dL_law_1766 : decode cL_law 1766 = .ok (.iaload, 1) := by decide +kernel
theorem dL_law_1767 : decode cL_law 1767 = .ok (.aload_n 0, 1) := by decide +kernel
theorem dL_law_1768 : decode cL_law 1768 = .ok (.iload 4, 2) := by decide +kernel
theorem dL_law_1770 : decode cL_law 1770 = .ok (.iconst 2, 1) := by decide +kernel
theorem dL_law_1771 : decode cL_law 1771 = .ok (.iadd, 1) := by decide +kernel
theorem dL_law_1772 : decode cL_law 1772 = .ok (.iaload, 1) := by decide +kernel
theorem dL_law_1773 : decode cL_law 1773 = .ok (.aload_n 0, 1) := by decide +kernel
theorem dL_law_1774 : decode cL_law 1774 = .ok (.iload 4, 2) := by decide +kernel
theorem dL_law_1776 : decode cL_law 1776 = .ok (.iconst 3, 1) := by decide +kernel
theorem dL_law_1777 : decode cL_law 1777 = .ok (.iadd, 1) := by decide +kernel
theorem dL_law_1778 : decode cL_law 1778 = .ok (.iaload, 1) := by decide +kernel
theorem dL_law_1779 : decode cL_law 1779 = .ok (.aload_n 3, 1) := by decide +kernel
theorem dL_law_1780 : decode cL_law 1780 = .ok (.invokestatic 213, 3) := by decide +kernel
theorem dL_law_1783 : decode cL_law 1783 = .ok (.istore 5, 2) := by decide +kernel
theorem dL_law_1785 : decode cL_law 1785 = .ok (.aload_n 2, 1) := by decide +kernel
theorem dL_law_1786 : decode cL_law 1786 = .ok (.aload_n 0, 1) := by decide +kernel
theorem dL_law_1787 : decode cL_law 1787 = .ok (.iload 4, 2) := by decide +kernel
theorem dL_law_1789 : decode cL_law 1789 = .ok (.iconst 1, 1) := by decide +kernel
theorem dL_law_1790 : decode cL_law 1790 = .ok (.iadd, 1) := by decide +kernel
theorem dL_law_1791 : decode cL_law 1791 = .ok (.iaload, 1) := by decide +kernel
theorem dL_law_1792 : decode cL_law 1792 = .ok (.aload_n 0, 1) := by decide +kernel
theorem dL_law_1793 : decode cL_law 1793 = .ok (.iload 4, 2) := by decide +kernel
theorem dL_law_1795 : decode cL_law 1795 = .ok (.iconst 2, 1) := by decide +kernel
theorem dL_law_1796 : decode cL_law 1796 = .ok (.iadd, 1) := by decide +kernel
theorem dL_law_1797 : decode cL_law 1797 = .ok (.iaload, 1) := by decide +kernel
theorem dL_law_1798 : decode cL_law 1798 = .ok (.aload_n 0, 1) := by decide +kernel
theorem dL_law_1799 : decode cL_law 1799 = .ok (.iload 4, 2) := by decide +kernel
theorem dL_law_1801 : decode cL_law 1801 = .ok (.iconst 3, 1) := by decide +kernel
theorem dL_law_1802 : decode cL_law 1802 = .ok (.iadd, 1) := by decide +kernel
theorem dL_law_1803 : decode cL_law 1803 = .ok (.iaload, 1) := by decide +kernel
theorem dL_law_1804 : decode cL_law 1804 = .ok (.invokevirtual 215, 3) := by decide +kernel
theorem dL_law_1807 : decode cL_law 1807 = .ok (.istore 6, 2) := by decide +kernel
theorem dL_law_1809 : decode cL_law 1809 = .ok (.aload_n 2, 1) := by decide +kernel
theorem dL_law_1810 : decode cL_law 1810 = .ok (.invokevirtual 131, 3) := by decide +kernel
theorem dL_law_1813 : decode cL_law 1813 = .ok (.iload 5, 2) := by decide +kernel
theorem dL_law_1815 : decode cL_law 1815 = .ok (.if_icmp .eq 5, 3) := by decide +kernel
theorem dL_law_1820 : decode cL_law 1820 = .ok (.iload 5, 2) := by decide +kernel
theorem dL_law_1822 : decode cL_law 1822 = .ok (.ifCond .ne 15, 3) := by decide +kernel
theorem dL_law_1837 : decode cL_law 1837 = .ok (.goto 981, 3) := by decide +kernel
theorem dL_law_1840 : decode cL_law 1840 = .ok (.aload_n 1, 1) := by decide +kernel
theorem dL_law_1841 : decode cL_law 1841 = .ok (.invokevirtual 216, 3) := by decide +kernel
theorem dL_law_1844 : decode cL_law 1844 = .ok (.aload_n 2, 1) := by decide +kernel
theorem dL_law_1845 : decode cL_law 1845 = .ok (.invokevirtual 219, 3) := by decide +kernel
theorem dL_law_1848 : decode cL_law 1848 = .ok (.if_icmp .eq 970, 3) := by decide +kernel
theorem dL_law_1853 : decode cL_law 1853 = .ok (.aload_n 1, 1) := by decide +kernel
theorem dL_law_1854 : decode cL_law 1854 = .ok (.invokevirtual 220, 3) := by decide +kernel
theorem dL_law_1857 : decode cL_law 1857 = .ok (.aload_n 2, 1) := by decide +kernel
theorem dL_law_1858 : decode cL_law 1858 = .ok (.invokevirtual 223, 3) := by decide +kernel
theorem dL_law_1861 : decode cL_law 1861 = .ok (.if_icmp .eq 957, 3) := by decide +kernel
theorem dL_law_1866 : decode cL_law 1866 = .ok (.aload_n 1, 1) := by decide +kernel
theorem dL_law_1867 : decode cL_law 1867 = .ok (.invokevirtual 224, 3) := by decide +kernel
theorem dL_law_1870 : decode cL_law 1870 = .ok (.aload_n 2, 1) := by decide +kernel
theorem dL_law_1871 : decode cL_law 1871 = .ok (.invokevirtual 227, 3) := by decide +kernel
theorem dL_law_1874 : decode cL_law 1874 = .ok (.if_icmp .eq 944, 3) := by decide +kernel
theorem dL_law_1879 : decode cL_law 1879 = .ok (.aload_n 1, 1) := by decide +kernel
theorem dL_law_1880 : decode cL_law 1880 = .ok (.invokevirtual 228, 3) := by decide +kernel
theorem dL_law_1883 : decode cL_law 1883 = .ok (.aload_n 2, 1) := by decide +kernel
theorem dL_law_1884 : decode cL_law 1884 = .ok (.invokevirtual 231, 3) := by decide +kernel
theorem dL_law_1887 : decode cL_law 1887 = .ok (.if_icmp .eq 931, 3) := by decide +kernel
theorem dL_law_1892 : decode cL_law 1892 = .ok (.aload_n 1, 1) := by decide +kernel
theorem dL_law_1893 : decode cL_law 1893 = .ok (.invokevirtual 232, 3) := by decide +kernel
theorem dL_law_1896 : decode cL_law 1896 = .ok (.aload_n 2, 1) := by decide +kernel
theorem dL_law_1897 : decode cL_law 1897 = .ok (.invokevirtual 235, 3) := by decide +kernel
theorem dL_law_1900 : decode cL_law 1900 = .ok (.if_icmp .eq 918, 3) := by decide +kernel
theorem dL_law_1905 : decode cL_law 1905 = .ok (.aload_n 1, 1) := by decide +kernel
theorem dL_law_1906 : decode cL_law 1906 = .ok (.invokevirtual 236, 3) := by decide +kernel
theorem dL_law_1909 : decode cL_law 1909 = .ok (.aload_n 2, 1) := by decide +kernel
theorem dL_law_1910 : decode cL_law 1910 = .ok (.invokevirtual 239, 3) := by decide +kernel
theorem dL_law_1913 : decode cL_law 1913 = .ok (.if_icmp .eq 905, 3) := by decide +kernel
theorem dL_law_1918 : decode cL_law 1918 = .ok (.aload_n 1, 1) := by decide +kernel
theorem dL_law_1919 : decode cL_law 1919 = .ok (.aload_n 0, 1) := by decide +kernel
theorem dL_law_1920 : decode cL_law 1920 = .ok (.iload 4, 2) := by decide +kernel
theorem dL_law_1922 : decode cL_law 1922 = .ok (.iconst 1, 1) := by decide +kernel
theorem dL_law_1923 : decode cL_law 1923 = .ok (.iadd, 1) := by decide +kernel
theorem dL_law_1924 : decode cL_law 1924 = .ok (.iaload, 1) := by decide +kernel
theorem dL_law_1925 : decode cL_law 1925 = .ok (.aload_n 3, 1) := by decide +kernel
theorem dL_law_1926 : decode cL_law 1926 = .ok (.invokestatic 240, 3) := by decide +kernel
theorem dL_law_1929 : decode cL_law 1929 = .ok (.istore 5, 2) := by decide +kernel
theorem dL_law_1931 : decode cL_law 1931 = .ok (.aload_n 2, 1) := by decide +kernel
theorem dL_law_1932 : decode cL_law 1932 = .ok (.aload_n 0, 1) := by decide +kernel
theorem dL_law_1933 : decode cL_law 1933 = .ok (.iload 4, 2) := by decide +kernel
theorem dL_law_1935 : decode cL_law 1935 = .ok (.iconst 1, 1) := by decide +kernel
theorem dL_law_1936 : decode cL_law 1936 = .ok (.iadd, 1) := by decide +kernel
theorem dL_law_1937 : decode cL_law 1937 = .ok (.iaload, 1) := by decide +kernel
theorem dL_law_1938 : decode cL_law 1938 = .ok (.invokevirtual 242, 3) := by decide +kernel
theorem dL_law_1941 : decode cL_law 1941 = .ok (.istore 6, 2) := by decide +kernel
theorem dL_law_1943 : decode cL_law 1943 = .ok (.aload_n 2, 1) := by decide +kernel
theorem dL_law_1944 : decode cL_law 1944 = .ok (.invokevirtual 131, 3) := by decide +kernel
theorem dL_law_1947 : decode cL_law 1947 = .ok (.iload 5, 2) := by decide +kernel
theorem dL_law_1949 : decode cL_law 1949 = .ok (.if_icmp .eq 5, 3) := by decide +kernel
theorem dL_law_1954 : decode cL_law 1954 = .ok (.iload 5, 2) := by decide +kernel
theorem dL_law_1956 : decode cL_law 1956 = .ok (.ifCond .ne 15, 3) := by decide +kernel
theorem dL_law_1971 : decode cL_law 1971 = .ok (.goto 847, 3) := by decide +kernel
theorem dL_law_1974 : decode cL_law 1974 = .ok (.aload_n 1, 1) := by decide +kernel
theorem dL_law_1975 : decode cL_law 1975 = .ok (.aload_n 0, 1) := by decide +kernel
theorem dL_law_1976 : decode cL_law 1976 = .ok (.iload 4, 2) := by decide +kernel
theorem dL_law_1978 : decode cL_law 1978 = .ok (.iconst 1, 1) := by decide +kernel
theorem dL_law_1979 : decode cL_law 1979 = .ok (.iadd, 1) := by decide +kernel
theorem dL_law_1980 : decode cL_law 1980 = .ok (.iaload, 1) := by decide +kernel
theorem dL_law_1981 : decode cL_law 1981 = .ok (.aload_n 3, 1) := by decide +kernel
theorem dL_law_1982 : decode cL_law 1982 = .ok (.invokestatic 243, 3) := by decide +kernel
theorem dL_law_1985 : decode cL_law 1985 = .ok (.istore 5, 2) := by decide +kernel
theorem dL_law_1987 : decode cL_law 1987 = .ok (.aload_n 2, 1) := by decide +kernel
theorem dL_law_1988 : decode cL_law 1988 = .ok (.aload_n 0, 1) := by decide +kernel
theorem dL_law_1989 : decode cL_law 1989 = .ok (.iload 4, 2) := by decide +kernel
theorem dL_law_1991 : decode cL_law 1991 = .ok (.iconst 1, 1) := by decide +kernel
theorem dL_law_1992 : decode cL_law 1992 = .ok (.iadd, 1) := by decide +kernel
theorem dL_law_1993 : decode cL_law 1993 = .ok (.iaload, 1) := by decide +kernel
theorem dL_law_1994 : decode cL_law 1994 = .ok (.invokevirtual 245, 3) := by decide +kernel
theorem dL_law_1997 : decode cL_law 1997 = .ok (.istore 6, 2) := by decide +kernel
theorem dL_law_1999 : decode cL_law 1999 = .ok (.aload_n 2, 1) := by decide +kernel
theorem dL_law_2000 : decode cL_law 2000 = .ok (.invokevirtual 131, 3) := by decide +kernel
theorem dL_law_2003 : decode cL_law 2003 = .ok (.iload 5, 2) := by decide +kernel
theorem dL_law_2005 : decode cL_law 2005 = .ok (.if_icmp .eq 5, 3) := by decide +kernel
theorem dL_law_2010 : decode cL_law 2010 = .ok (.iload 5, 2) := by decide +kernel
theorem dL_law_2012 : decode cL_law 2012 = .ok (.ifCond .ne 15, 3) := by decide +kernel
theorem dL_law_2027 : decode cL_law 2027 = .ok (.goto 791, 3) := by decide +kernel
theorem dL_law_2030 : decode cL_law 2030 = .ok (.aload_n 1, 1) := by decide +kernel
theorem dL_law_2031 : decode cL_law 2031 = .ok (.aload_n 0, 1) := by decide +kernel
theorem dL_law_2032 : decode cL_law 2032 = .ok (.iload 4, 2) := by decide +kernel
theorem dL_law_2034 : decode cL_law 2034 = .ok (.iconst 1, 1) := by decide +kernel
theorem dL_law_2035 : decode cL_law 2035 = .ok (.iadd, 1) := by decide +kernel
theorem dL_law_2036 : decode cL_law 2036 = .ok (.iaload, 1) := by decide +kernel
theorem dL_law_2037 : decode cL_law 2037 = .ok (.aload_n 0, 1) := by decide +kernel
theorem dL_law_2038 : decode cL_law 2038 = .ok (.iload 4, 2) := by decide +kernel
theorem dL_law_2040 : decode cL_law 2040 = .ok (.iconst 2, 1) := by decide +kernel
theorem dL_law_2041 : decode cL_law 2041 = .ok (.iadd, 1) := by decide +kernel
theorem dL_law_2042 : decode cL_law 2042 = .ok (.iaload, 1) := by decide +kernel
theorem dL_law_2043 : decode cL_law 2043 = .ok (.aload_n 3, 1) := by decide +kernel
theorem dL_law_2044 : decode cL_law 2044 = .ok (.invokestatic 246, 3) := by decide +kernel
theorem dL_law_2047 : decode cL_law 2047 = .ok (.istore 5, 2) := by decide +kernel
theorem dL_law_2049 : decode cL_law 2049 = .ok (.aload_n 2, 1) := by decide +kernel
theorem dL_law_2050 : decode cL_law 2050 = .ok (.aload_n 0, 1) := by decide +kernel
theorem dL_law_2051 : decode cL_law 2051 = .ok (.iload 4, 2) := by decide +kernel
theorem dL_law_2053 : decode cL_law 2053 = .ok (.iconst 1, 1) := by decide +kernel
theorem dL_law_2054 : decode cL_law 2054 = .ok (.iadd, 1) := by decide +kernel
theorem dL_law_2055 : decode cL_law 2055 = .ok (.iaload, 1) := by decide +kernel
theorem dL_law_2056 : decode cL_law 2056 = .ok (.aload_n 0, 1) := by decide +kernel
theorem dL_law_2057 : decode cL_law 2057 = .ok (.iload 4, 2) := by decide +kernel
theorem dL_law_2059 : decode cL_law 2059 = .ok (.iconst 2, 1) := by decide +kernel
theorem dL_law_2060 : decode cL_law 2060 = .ok (.iadd, 1) := by decide +kernel
theorem dL_law_2061 : decode cL_law 2061 = .ok (.iaload, 1) := by decide +kernel
theorem dL_law_2062 : decode cL_law 2062 = .ok (.invokevirtual 248, 3) := by decide +kernel
theorem dL_law_2065 : decode cL_law 2065 = .ok (.istore 6, 2) := by decide +kernel
theorem dL_law_2067 : decode cL_law 2067 = .ok (.aload_n 2, 1) := by decide +kernel
theorem dL_law_2068 : decode cL_law 2068 = .ok (.invokevirtual 131, 3) := by decide +kernel
theorem dL_law_2071 : decode cL_law 2071 = .ok (.iload 5, 2) := by decide +kernel
theorem dL_law_2073 : decode cL_law 2073 = .ok (.if_icmp .eq 5, 3) := by decide +kernel
theorem dL_law_2078 : decode cL_law 2078 = .ok (.iload 5, 2) := by decide +kernel
theorem dL_law_2080 : decode cL_law 2080 = .ok (.ifCond .ne 15, 3) := by decide +kernel
theorem dL_law_2095 : decode cL_law 2095 = .ok (.goto 723, 3) := by decide +kernel
theorem dL_law_2098 : decode cL_law 2098 = .ok (.aload_n 1, 1) := by decide +kernel
theorem dL_law_2099 : decode cL_law 2099 = .ok (.aload_n 0, 1) := by decide +kernel
theorem dL_law_2100 : decode cL_law 2100 = .ok (.iload 4, 2) := by decide +kernel
theorem dL_law_2102 : decode cL_law 2102 = .ok (.iconst 1, 1) := by decide +kernel
theorem dL_law_2103 : decode cL_law 2103 = .ok (.iadd, 1) := by decide +kernel
theorem dL_law_2104 : decode cL_law 2104 = .ok (.iaload, 1) := by decide +kernel
theorem dL_law_2105 : decode cL_law 2105 = .ok (.aload_n 0, 1) := by decide +kernel
theorem dL_law_2106 : decode cL_law 2106 = .ok (.iload 4, 2) := by decide +kernel
theorem dL_law_2108 : decode cL_law 2108 = .ok (.iconst 2, 1) := by decide +kernel
theorem dL_law_2109 : decode cL_law 2109 = .ok (.iadd, 1) := by decide +kernel
theorem dL_law_2110 : decode cL_law 2110 = .ok (.iaload, 1) := by decide +kernel
theorem dL_law_2111 : decode cL_law 2111 = .ok (.aload_n 3, 1) := by decide +kernel
theorem dL_law_2112 : decode cL_law 2112 = .ok (.invokestatic 249, 3) := by decide +kernel
theorem dL_law_2115 : decode cL_law 2115 = .ok (.istore 5, 2) := by decide +kernel
theorem dL_law_2117 : decode cL_law 2117 = .ok (.aload_n 2, 1) := by decide +kernel
theorem dL_law_2118 : decode cL_law 2118 = .ok (.aload_n 0, 1) := by decide +kernel
theorem dL_law_2119 : decode cL_law 2119 = .ok (.iload 4, 2) := by decide +kernel
theorem dL_law_2121 : decode cL_law 2121 = .ok (.iconst 1, 1) := by decide +kernel
theorem dL_law_2122 : decode cL_law 2122 = .ok (.iadd, 1) := by decide +kernel
theorem dL_law_2123 : decode cL_law 2123 = .ok (.iaload, 1) := by decide +kernel
theorem dL_law_2124 : decode cL_law 2124 = .ok (.aload_n 0, 1) := by decide +kernel
theorem dL_law_2125 : decode cL_law 2125 = .ok (.iload 4, 2) := by decide +kernel
theorem dL_law_2127 : decode cL_law 2127 = .ok (.iconst 2, 1) := by decide +kernel
theorem dL_law_2128 : decode cL_law 2128 = .ok (.iadd, 1) := by decide +kernel
theorem dL_law_2129 : decode cL_law 2129 = .ok (.iaload, 1) := by decide +kernel
theorem dL_law_2130 : decode cL_law 2130 = .ok (.invokevirtual 251, 3) := by decide +kernel
theorem dL_law_2133 : decode cL_law 2133 = .ok (.istore 6, 2) := by decide +kernel
theorem dL_law_2135 : decode cL_law 2135 = .ok (.aload_n 2, 1) := by decide +kernel
theorem dL_law_2136 : decode cL_law 2136 = .ok (.invokevirtual 131, 3) := by decide +kernel
theorem dL_law_2139 : decode cL_law 2139 = .ok (.iload 5, 2) := by decide +kernel
theorem dL_law_2141 : decode cL_law 2141 = .ok (.if_icmp .eq 5, 3) := by decide +kernel
theorem dL_law_2146 : decode cL_law 2146 = .ok (.iload 5, 2) := by decide +kernel
theorem dL_law_2148 : decode cL_law 2148 = .ok (.ifCond .ne 15, 3) := by decide +kernel
theorem dL_law_2163 : decode cL_law 2163 = .ok (.goto 655, 3) := by decide +kernel
theorem dL_law_2166 : decode cL_law 2166 = .ok (.aload_n 1, 1) := by decide +kernel
theorem dL_law_2167 : decode cL_law 2167 = .ok (.aload_n 0, 1) := by decide +kernel
theorem dL_law_2168 : decode cL_law 2168 = .ok (.iload 4, 2) := by decide +kernel
theorem dL_law_2170 : decode cL_law 2170 = .ok (.iconst 1, 1) := by decide +kernel
theorem dL_law_2171 : decode cL_law 2171 = .ok (.iadd, 1) := by decide +kernel
theorem dL_law_2172 : decode cL_law 2172 = .ok (.iaload, 1) := by decide +kernel
theorem dL_law_2173 : decode cL_law 2173 = .ok (.aload_n 0, 1) := by decide +kernel
theorem dL_law_2174 : decode cL_law 2174 = .ok (.iload 4, 2) := by decide +kernel
theorem dL_law_2176 : decode cL_law 2176 = .ok (.iconst 2, 1) := by decide +kernel
theorem dL_law_2177 : decode cL_law 2177 = .ok (.iadd, 1) := by decide +kernel
theorem dL_law_2178 : decode cL_law 2178 = .ok (.iaload, 1) := by decide +kernel
theorem dL_law_2179 : decode cL_law 2179 = .ok (.aload_n 3, 1) := by decide +kernel
theorem dL_law_2180 : decode cL_law 2180 = .ok (.invokestatic 252, 3) := by decide +kernel
theorem dL_law_2183 : decode cL_law 2183 = .ok (.istore 5, 2) := by decide +kernel
theorem dL_law_2185 : decode cL_law 2185 = .ok (.aload_n 2, 1) := by decide +kernel
theorem dL_law_2186 : decode cL_law 2186 = .ok (.aload_n 0, 1) := by decide +kernel
theorem dL_law_2187 : decode cL_law 2187 = .ok (.iload 4, 2) := by decide +kernel
theorem dL_law_2189 : decode cL_law 2189 = .ok (.iconst 1, 1) := by decide +kernel
theorem dL_law_2190 : decode cL_law 2190 = .ok (.iadd, 1) := by decide +kernel
theorem dL_law_2191 : decode cL_law 2191 = .ok (.iaload, 1) := by decide +kernel
theorem dL_law_2192 : decode cL_law 2192 = .ok (.aload_n 0, 1) := by decide +kernel
theorem dL_law_2193 : decode cL_law 2193 = .ok (.iload 4, 2) := by decide +kernel
theorem dL_law_2195 : decode cL_law 2195 = .ok (.iconst 2, 1) := by decide +kernel
theorem dL_law_2196 : decode cL_law 2196 = .ok (.iadd, 1) := by decide +kernel
theorem dL_law_2197 : decode cL_law 2197 = .ok (.iaload, 1) := by decide +kernel
theorem dL_law_2198 : decode cL_law 2198 = .ok (.invokevirtual 254, 3) := by decide +kernel
theorem dL_law_2201 : decode cL_law 2201 = .ok (.istore 6, 2) := by decide +kernel
theorem dL_law_2203 : decode cL_law 2203 = .ok (.aload_n 2, 1) := by decide +kernel
theorem dL_law_2204 : decode cL_law 2204 = .ok (.invokevirtual 131, 3) := by decide +kernel
theorem dL_law_2207 : decode cL_law 2207 = .ok (.iload 5, 2) := by decide +kernel
theorem dL_law_2209 : decode cL_law 2209 = .ok (.if_icmp .eq 5, 3) := by decide +kernel
theorem dL_law_2214 : decode cL_law 2214 = .ok (.iload 5, 2) := by decide +kernel
theorem dL_law_2216 : decode cL_law 2216 = .ok (.ifCond .ne 15, 3) := by decide +kernel
theorem dL_law_2231 : decode cL_law 2231 = .ok (.goto 587, 3) := by decide +kernel
theorem dL_law_2234 : decode cL_law 2234 = .ok (.aload_n 1, 1) := by decide +kernel
theorem dL_law_2235 : decode cL_law 2235 = .ok (.aload_n 0, 1) := by decide +kernel
theorem dL_law_2236 : decode cL_law 2236 = .ok (.iload 4, 2) := by decide +kernel
theorem dL_law_2238 : decode cL_law 2238 = .ok (.iconst 1, 1) := by decide +kernel
theorem dL_law_2239 : decode cL_law 2239 = .ok (.iadd, 1) := by decide +kernel
theorem dL_law_2240 : decode cL_law 2240 = .ok (.iaload, 1) := by decide +kernel
theorem dL_law_2241 : decode cL_law 2241 = .ok (.aload_n 0, 1) := by decide +kernel
theorem dL_law_2242 : decode cL_law 2242 = .ok (.iload 4, 2) := by decide +kernel
theorem dL_law_2244 : decode cL_law 2244 = .ok (.iconst 2, 1) := by decide +kernel
theorem dL_law_2245 : decode cL_law 2245 = .ok (.iadd, 1) := by decide +kernel
theorem dL_law_2246 : decode cL_law 2246 = .ok (.iaload, 1) := by decide +kernel
theorem dL_law_2247 : decode cL_law 2247 = .ok (.aload_n 3, 1) := by decide +kernel
theorem dL_law_2248 : decode cL_law 2248 = .ok (.invokestatic 255, 3) := by decide +kernel
theorem dL_law_2251 : decode cL_law 2251 = .ok (.istore 5, 2) := by decide +kernel
theorem dL_law_2253 : decode cL_law 2253 = .ok (.aload_n 2, 1) := by decide +kernel
theorem dL_law_2254 : decode cL_law 2254 = .ok (.aload_n 0, 1) := by decide +kernel
theorem dL_law_2255 : decode cL_law 2255 = .ok (.iload 4, 2) := by decide +kernel
theorem dL_law_2257 : decode cL_law 2257 = .ok (.iconst 1, 1) := by decide +kernel
theorem dL_law_2258 : decode cL_law 2258 = .ok (.iadd, 1) := by decide +kernel
theorem dL_law_2259 : decode cL_law 2259 = .ok (.iaload, 1) := by decide +kernel
theorem dL_law_2260 : decode cL_law 2260 = .ok (.aload_n 0, 1) := by decide +kernel
theorem dL_law_2261 : decode cL_law 2261 = .ok (.iload 4, 2) := by decide +kernel
theorem dL_law_2263 : decode cL_law 2263 = .ok (.iconst 2, 1) := by decide +kernel
theorem dL_law_2264 : decode cL_law 2264 = .ok (.iadd, 1) := by decide +kernel
theorem dL_law_2265 : decode cL_law 2265 = .ok (.iaload, 1) := by decide +kernel
theorem dL_law_2266 : decode cL_law 2266 = .ok (.invokevirtual 257, 3) := by decide +kernel
theorem dL_law_2269 : decode cL_law 2269 = .ok (.istore 6, 2) := by decide +kernel
theorem dL_law_2271 : decode cL_law 2271 = .ok (.aload_n 2, 1) := by decide +kernel
theorem dL_law_2272 : decode cL_law 2272 = .ok (.invokevirtual 131, 3) := by decide +kernel
theorem dL_law_2275 : decode cL_law 2275 = .ok (.iload 5, 2) := by decide +kernel
theorem dL_law_2277 : decode cL_law 2277 = .ok (.if_icmp .eq 5, 3) := by decide +kernel
theorem dL_law_2282 : decode cL_law 2282 = .ok (.iload 5, 2) := by decide +kernel
theorem dL_law_2284 : decode cL_law 2284 = .ok (.ifCond .ne 15, 3) := by decide +kernel
theorem dL_law_2299 : decode cL_law 2299 = .ok (.goto 519, 3) := by decide +kernel
theorem dL_law_2302 : decode cL_law 2302 = .ok (.aload_n 1, 1) := by decide +kernel
theorem dL_law_2303 : decode cL_law 2303 = .ok (.aload_n 0, 1) := by decide +kernel
theorem dL_law_2304 : decode cL_law 2304 = .ok (.iload 4, 2) := by decide +kernel
theorem dL_law_2306 : decode cL_law 2306 = .ok (.iconst 1, 1) := by decide +kernel
theorem dL_law_2307 : decode cL_law 2307 = .ok (.iadd, 1) := by decide +kernel
theorem dL_law_2308 : decode cL_law 2308 = .ok (.iaload, 1) := by decide +kernel
theorem dL_law_2309 : decode cL_law 2309 = .ok (.aload_n 3, 1) := by decide +kernel
theorem dL_law_2310 : decode cL_law 2310 = .ok (.invokestatic 258, 3) := by decide +kernel
theorem dL_law_2313 : decode cL_law 2313 = .ok (.istore 5, 2) := by decide +kernel
theorem dL_law_2315 : decode cL_law 2315 = .ok (.aload_n 2, 1) := by decide +kernel
theorem dL_law_2316 : decode cL_law 2316 = .ok (.aload_n 0, 1) := by decide +kernel
theorem dL_law_2317 : decode cL_law 2317 = .ok (.iload 4, 2) := by decide +kernel
theorem dL_law_2319 : decode cL_law 2319 = .ok (.iconst 1, 1) := by decide +kernel
theorem dL_law_2320 : decode cL_law 2320 = .ok (.iadd, 1) := by decide +kernel
theorem dL_law_2321 : decode cL_law 2321 = .ok (.iaload, 1) := by decide +kernel
theorem dL_law_2322 : decode cL_law 2322 = .ok (.invokevirtual 260, 3) := by decide +kernel
theorem dL_law_2325 : decode cL_law 2325 = .ok (.istore 6, 2) := by decide +kernel
theorem dL_law_2327 : decode cL_law 2327 = .ok (.aload_n 2, 1) := by decide +kernel
theorem dL_law_2328 : decode cL_law 2328 = .ok (.invokevirtual 131, 3) := by decide +kernel
theorem dL_law_2331 : decode cL_law 2331 = .ok (.iload 5, 2) := by decide +kernel
theorem dL_law_2333 : decode cL_law 2333 = .ok (.if_icmp .eq 5, 3) := by decide +kernel
theorem dL_law_2338 : decode cL_law 2338 = .ok (.iload 5, 2) := by decide +kernel
theorem dL_law_2340 : decode cL_law 2340 = .ok (.ifCond .ne 15, 3) := by decide +kernel
theorem dL_law_2355 : decode cL_law 2355 = .ok (.goto 463, 3) := by decide +kernel
theorem dL_law_2358 : decode cL_law 2358 = .ok (.aload_n 1, 1) := by decide +kernel
theorem dL_law_2359 : decode cL_law 2359 = .ok (.aload_n 0, 1) := by decide +kernel
theorem dL_law_2360 : decode cL_law 2360 = .ok (.iload 4, 2) := by decide +kernel
theorem dL_law_2362 : decode cL_law 2362 = .ok (.iconst 1, 1) := by decide +kernel
theorem dL_law_2363 : decode cL_law 2363 = .ok (.iadd, 1) := by decide +kernel
theorem dL_law_2364 : decode cL_law 2364 = .ok (.iaload, 1) := by decide +kernel
theorem dL_law_2365 : decode cL_law 2365 = .ok (.aload_n 3, 1) := by decide +kernel
theorem dL_law_2366 : decode cL_law 2366 = .ok (.invokestatic 261, 3) := by decide +kernel
theorem dL_law_2369 : decode cL_law 2369 = .ok (.istore 5, 2) := by decide +kernel
theorem dL_law_2371 : decode cL_law 2371 = .ok (.aload_n 2, 1) := by decide +kernel
theorem dL_law_2372 : decode cL_law 2372 = .ok (.aload_n 0, 1) := by decide +kernel
theorem dL_law_2373 : decode cL_law 2373 = .ok (.iload 4, 2) := by decide +kernel
theorem dL_law_2375 : decode cL_law 2375 = .ok (.iconst 1, 1) := by decide +kernel
theorem dL_law_2376 : decode cL_law 2376 = .ok (.iadd, 1) := by decide +kernel
theorem dL_law_2377 : decode cL_law 2377 = .ok (.iaload, 1) := by decide +kernel
theorem dL_law_2378 : decode cL_law 2378 = .ok (.invokevirtual 263, 3) := by decide +kernel
theorem dL_law_2381 : decode cL_law 2381 = .ok (.istore 6, 2) := by decide +kernel
theorem dL_law_2383 : decode cL_law 2383 = .ok (.aload_n 2, 1) := by decide +kernel
theorem dL_law_2384 : decode cL_law 2384 = .ok (.invokevirtual 131, 3) := by decide +kernel
theorem dL_law_2387 : decode cL_law 2387 = .ok (.iload 5, 2) := by decide +kernel
theorem dL_law_2389 : decode cL_law 2389 = .ok (.if_icmp .eq 5, 3) := by decide +kernel
theorem dL_law_2394 : decode cL_law 2394 = .ok (.iload 5, 2) := by decide +kernel
theorem dL_law_2396 : decode cL_law 2396 = .ok (.ifCond .ne 15, 3) := by decide +kernel
theorem dL_law_2411 : decode cL_law 2411 = .ok (.goto 407, 3) := by decide +kernel
theorem dL_law_2414 : decode cL_law 2414 = .ok (.aload_n 1, 1) := by decide +kernel
theorem dL_law_2415 : decode cL_law 2415 = .ok (.aload_n 0, 1) := by decide +kernel
theorem dL_law_2416 : decode cL_law 2416 = .ok (.iload 4, 2) := by decide +kernel
theorem dL_law_2418 : decode cL_law 2418 = .ok (.iconst 1, 1) := by decide +kernel
theorem dL_law_2419 : decode cL_law 2419 = .ok (.iadd, 1) := by decide +kernel
theorem dL_law_2420 : decode cL_law 2420 = .ok (.iaload, 1) := by decide +kernel
theorem dL_law_2421 : decode cL_law 2421 = .ok (.aload_n 3, 1) := by decide +kernel
theorem dL_law_2422 : decode cL_law 2422 = .ok (.invokestatic 264, 3) := by decide +kernel
theorem dL_law_2425 : decode cL_law 2425 = .ok (.istore 5, 2) := by decide +kernel
theorem dL_law_2427 : decode cL_law 2427 = .ok (.aload_n 2, 1) := by decide +kernel
theorem dL_law_2428 : decode cL_law 2428 = .ok (.aload_n 0, 1) := by decide +kernel
theorem dL_law_2429 : decode cL_law 2429 = .ok (.iload 4, 2) := by decide +kernel
theorem dL_law_2431 : decode cL_law 2431 = .ok (.iconst 1, 1) := by decide +kernel
theorem dL_law_2432 : decode cL_law 2432 = .ok (.iadd, 1) := by decide +kernel
theorem dL_law_2433 : decode cL_law 2433 = .ok (.iaload, 1) := by decide +kernel
theorem dL_law_2434 : decode cL_law 2434 = .ok (.invokevirtual 266, 3) := by decide +kernel
theorem dL_law_2437 : decode cL_law 2437 = .ok (.istore 6, 2) := by decide +kernel
theorem dL_law_2439 : decode cL_law 2439 = .ok (.aload_n 2, 1) := by decide +kernel
theorem dL_law_2440 : decode cL_law 2440 = .ok (.invokevirtual 131, 3) := by decide +kernel
theorem dL_law_2443 : decode cL_law 2443 = .ok (.iload 5, 2) := by decide +kernel
theorem dL_law_2445 : decode cL_law 2445 = .ok (.if_icmp .eq 5, 3) := by decide +kernel
theorem dL_law_2450 : decode cL_law 2450 = .ok (.iload 5, 2) := by decide +kernel
theorem dL_law_2452 : decode cL_law 2452 = .ok (.ifCond .ne 15, 3) := by decide +kernel
theorem dL_law_2467 : decode cL_law 2467 = .ok (.goto 351, 3) := by decide +kernel
theorem dL_law_2470 : decode cL_law 2470 = .ok (.aload_n 1, 1) := by decide +kernel
theorem dL_law_2471 : decode cL_law 2471 = .ok (.aload_n 0, 1) := by decide +kernel
theorem dL_law_2472 : decode cL_law 2472 = .ok (.iload 4, 2) := by decide +kernel
theorem dL_law_2474 : decode cL_law 2474 = .ok (.iconst 1, 1) := by decide +kernel
theorem dL_law_2475 : decode cL_law 2475 = .ok (.iadd, 1) := by decide +kernel
theorem dL_law_2476 : decode cL_law 2476 = .ok (.iaload, 1) := by decide +kernel
theorem dL_law_2477 : decode cL_law 2477 = .ok (.aload_n 0, 1) := by decide +kernel
theorem dL_law_2478 : decode cL_law 2478 = .ok (.iload 4, 2) := by decide +kernel
theorem dL_law_2480 : decode cL_law 2480 = .ok (.iconst 2, 1) := by decide +kernel
theorem dL_law_2481 : decode cL_law 2481 = .ok (.iadd, 1) := by decide +kernel
theorem dL_law_2482 : decode cL_law 2482 = .ok (.iaload, 1) := by decide +kernel
theorem dL_law_2483 : decode cL_law 2483 = .ok (.aload_n 0, 1) := by decide +kernel
theorem dL_law_2484 : decode cL_law 2484 = .ok (.iload 4, 2) := by decide +kernel
theorem dL_law_2486 : decode cL_law 2486 = .ok (.iconst 3, 1) := by decide +kernel
theorem dL_law_2487 : decode cL_law 2487 = .ok (.iadd, 1) := by decide +kernel
theorem dL_law_2488 : decode cL_law 2488 = .ok (.iaload, 1) := by decide +kernel
theorem dL_law_2489 : decode cL_law 2489 = .ok (.aload_n 0, 1) := by decide +kernel
theorem dL_law_2490 : decode cL_law 2490 = .ok (.iload 4, 2) := by decide +kernel
theorem dL_law_2492 : decode cL_law 2492 = .ok (.iconst 4, 1) := by decide +kernel
theorem dL_law_2493 : decode cL_law 2493 = .ok (.iadd, 1) := by decide +kernel
theorem dL_law_2494 : decode cL_law 2494 = .ok (.iaload, 1) := by decide +kernel
theorem dL_law_2495 : decode cL_law 2495 = .ok (.aload_n 0, 1) := by decide +kernel
theorem dL_law_2496 : decode cL_law 2496 = .ok (.iload 4, 2) := by decide +kernel
theorem dL_law_2498 : decode cL_law 2498 = .ok (.iconst 5, 1) := by decide +kernel
theorem dL_law_2499 : decode cL_law 2499 = .ok (.iadd, 1) := by decide +kernel
theorem dL_law_2500 : decode cL_law 2500 = .ok (.iaload, 1) := by decide +kernel
theorem dL_law_2501 : decode cL_law 2501 = .ok (.aload_n 0, 1) := by decide +kernel
theorem dL_law_2502 : decode cL_law 2502 = .ok (.iload 4, 2) := by decide +kernel
theorem dL_law_2504 : decode cL_law 2504 = .ok (.bipush 6, 2) := by decide +kernel
theorem dL_law_2506 : decode cL_law 2506 = .ok (.iadd, 1) := by decide +kernel
theorem dL_law_2507 : decode cL_law 2507 = .ok (.iaload, 1) := by decide +kernel
theorem dL_law_2508 : decode cL_law 2508 = .ok (.aload_n 3, 1) := by decide +kernel
theorem dL_law_2509 : decode cL_law 2509 = .ok (.invokestatic 267, 3) := by decide +kernel
theorem dL_law_2512 : decode cL_law 2512 = .ok (.istore 5, 2) := by decide +kernel
theorem dL_law_2514 : decode cL_law 2514 = .ok (.aload_n 2, 1) := by decide +kernel
theorem dL_law_2515 : decode cL_law 2515 = .ok (.aload_n 0, 1) := by decide +kernel
theorem dL_law_2516 : decode cL_law 2516 = .ok (.iload 4, 2) := by decide +kernel
theorem dL_law_2518 : decode cL_law 2518 = .ok (.iconst 1, 1) := by decide +kernel
theorem dL_law_2519 : decode cL_law 2519 = .ok (.iadd, 1) := by decide +kernel
theorem dL_law_2520 : decode cL_law 2520 = .ok (.iaload, 1) := by decide +kernel
theorem dL_law_2521 : decode cL_law 2521 = .ok (.aload_n 0, 1) := by decide +kernel
theorem dL_law_2522 : decode cL_law 2522 = .ok (.iload 4, 2) := by decide +kernel
theorem dL_law_2524 : decode cL_law 2524 = .ok (.iconst 2, 1) := by decide +kernel
theorem dL_law_2525 : decode cL_law 2525 = .ok (.iadd, 1) := by decide +kernel
theorem dL_law_2526 : decode cL_law 2526 = .ok (.iaload, 1) := by decide +kernel
theorem dL_law_2527 : decode cL_law 2527 = .ok (.aload_n 0, 1) := by decide +kernel
theorem dL_law_2528 : decode cL_law 2528 = .ok (.iload 4, 2) := by decide +kernel
theorem dL_law_2530 : decode cL_law 2530 = .ok (.iconst 3, 1) := by decide +kernel
theorem dL_law_2531 : decode cL_law 2531 = .ok (.iadd, 1) := by decide +kernel
theorem dL_law_2532 : decode cL_law 2532 = .ok (.iaload, 1) := by decide +kernel
theorem dL_law_2533 : decode cL_law 2533 = .ok (.aload_n 0, 1) := by decide +kernel
theorem dL_law_2534 : decode cL_law 2534 = .ok (.iload 4, 2) := by decide +kernel
theorem dL_law_2536 : decode cL_law 2536 = .ok (.iconst 4, 1) := by decide +kernel
theorem dL_law_2537 : decode cL_law 2537 = .ok (.iadd, 1) := by decide +kernel
theorem dL_law_2538 : decode cL_law 2538 = .ok (.iaload, 1) := by decide +kernel
theorem dL_law_2539 : decode cL_law 2539 = .ok (.aload_n 0, 1) := by decide +kernel
theorem dL_law_2540 : decode cL_law 2540 = .ok (.iload 4, 2) := by decide +kernel
theorem dL_law_2542 : decode cL_law 2542 = .ok (.iconst 5, 1) := by decide +kernel
theorem dL_law_2543 : decode cL_law 2543 = .ok (.iadd, 1) := by decide +kernel
theorem dL_law_2544 : decode cL_law 2544 = .ok (.iaload, 1) := by decide +kernel
theorem dL_law_2545 : decode cL_law 2545 = .ok (.aload_n 0, 1) := by decide +kernel
theorem dL_law_2546 : decode cL_law 2546 = .ok (.iload 4, 2) := by decide +kernel
theorem dL_law_2548 : decode cL_law 2548 = .ok (.bipush 6, 2) := by decide +kernel
theorem dL_law_2550 : decode cL_law 2550 = .ok (.iadd, 1) := by decide +kernel
theorem dL_law_2551 : decode cL_law 2551 = .ok (.iaload, 1) := by decide +kernel
theorem dL_law_2552 : decode cL_law 2552 = .ok (.invokevirtual 270, 3) := by decide +kernel
theorem dL_law_2555 : decode cL_law 2555 = .ok (.istore 6, 2) := by decide +kernel
theorem dL_law_2557 : decode cL_law 2557 = .ok (.aload_n 2, 1) := by decide +kernel
theorem dL_law_2558 : decode cL_law 2558 = .ok (.invokevirtual 131, 3) := by decide +kernel
theorem dL_law_2561 : decode cL_law 2561 = .ok (.iload 5, 2) := by decide +kernel
theorem dL_law_2563 : decode cL_law 2563 = .ok (.if_icmp .eq 5, 3) := by decide +kernel
theorem dL_law_2568 : decode cL_law 2568 = .ok (.iload 5, 2) := by decide +kernel
theorem dL_law_2570 : decode cL_law 2570 = .ok (.ifCond .ne 15, 3) := by decide +kernel
theorem dL_law_2585 : decode cL_law 2585 = .ok (.goto 233, 3) := by decide +kernel
theorem dL_law_2588 : decode cL_law 2588 = .ok (.aload_n 1, 1) := by decide +kernel
theorem dL_law_2589 : decode cL_law 2589 = .ok (.invokevirtual 271, 3) := by decide +kernel
theorem dL_law_2592 : decode cL_law 2592 = .ok (.aload_n 2, 1) := by decide +kernel
theorem dL_law_2593 : decode cL_law 2593 = .ok (.invokevirtual 274, 3) := by decide +kernel
theorem dL_law_2596 : decode cL_law 2596 = .ok (.if_icmp .eq 222, 3) := by decide +kernel
theorem dL_law_2601 : decode cL_law 2601 = .ok (.aload_n 1, 1) := by decide +kernel
theorem dL_law_2602 : decode cL_law 2602 = .ok (.invokevirtual 275, 3) := by decide +kernel
theorem dL_law_2605 : decode cL_law 2605 = .ok (.aload_n 2, 1) := by decide +kernel
theorem dL_law_2606 : decode cL_law 2606 = .ok (.invokevirtual 278, 3) := by decide +kernel
theorem dL_law_2609 : decode cL_law 2609 = .ok (.if_icmp .eq 209, 3) := by decide +kernel
theorem dL_law_2614 : decode cL_law 2614 = .ok (.aload_n 1, 1) := by decide +kernel
theorem dL_law_2615 : decode cL_law 2615 = .ok (.invokevirtual 279, 3) := by decide +kernel
theorem dL_law_2618 : decode cL_law 2618 = .ok (.aload_n 2, 1) := by decide +kernel
theorem dL_law_2619 : decode cL_law 2619 = .ok (.invokevirtual 282, 3) := by decide +kernel
theorem dL_law_2622 : decode cL_law 2622 = .ok (.if_icmp .eq 196, 3) := by decide +kernel
theorem dL_law_2627 : decode cL_law 2627 = .ok (.aload_n 1, 1) := by decide +kernel
theorem dL_law_2628 : decode cL_law 2628 = .ok (.aload_n 0, 1) := by decide +kernel
theorem dL_law_2629 : decode cL_law 2629 = .ok (.iload 4, 2) := by decide +kernel
theorem dL_law_2631 : decode cL_law 2631 = .ok (.iconst 1, 1) := by decide +kernel
theorem dL_law_2632 : decode cL_law 2632 = .ok (.iadd, 1) := by decide +kernel
theorem dL_law_2633 : decode cL_law 2633 = .ok (.iaload, 1) := by decide +kernel
theorem dL_law_2634 : decode cL_law 2634 = .ok (.aload_n 3, 1) := by decide +kernel
theorem dL_law_2635 : decode cL_law 2635 = .ok (.invokestatic 283, 3) := by decide +kernel
theorem dL_law_2638 : decode cL_law 2638 = .ok (.istore 5, 2) := by decide +kernel
theorem dL_law_2640 : decode cL_law 2640 = .ok (.aload_n 2, 1) := by decide +kernel
theorem dL_law_2641 : decode cL_law 2641 = .ok (.aload_n 0, 1) := by decide +kernel
theorem dL_law_2642 : decode cL_law 2642 = .ok (.iload 4, 2) := by decide +kernel
theorem dL_law_2644 : decode cL_law 2644 = .ok (.iconst 1, 1) := by decide +kernel
theorem dL_law_2645 : decode cL_law 2645 = .ok (.iadd, 1) := by decide +kernel
theorem dL_law_2646 : decode cL_law 2646 = .ok (.iaload, 1) := by decide +kernel
theorem dL_law_2647 : decode cL_law 2647 = .ok (.invokevirtual 285, 3) := by decide +kernel
theorem dL_law_2650 : decode cL_law 2650 = .ok (.istore 6, 2) := by decide +kernel
theorem dL_law_2652 : decode cL_law 2652 = .ok (.aload_n 2, 1) := by decide +kernel
theorem dL_law_2653 : decode cL_law 2653 = .ok (.invokevirtual 131, 3) := by decide +kernel
theorem dL_law_2656 : decode cL_law 2656 = .ok (.iload 5, 2) := by decide +kernel
theorem dL_law_2658 : decode cL_law 2658 = .ok (.if_icmp .eq 5, 3) := by decide +kernel
theorem dL_law_2663 : decode cL_law 2663 = .ok (.iload 5, 2) := by decide +kernel
theorem dL_law_2665 : decode cL_law 2665 = .ok (.ifCond .ne 15, 3) := by decide +kernel
theorem dL_law_2668 : decode cL_law 2668 = .ok (.aload_n 3, 1) := by decide +kernel
theorem dL_law_2669 : decode cL_law 2669 = .ok (.iconst 0, 1) := by decide +kernel
theorem dL_law_2670 : decode cL_law 2670 = .ok (.laload, 1) := by decide +kernel
theorem dL_law_2671 : decode cL_law 2671 = .ok (.iload 6, 2) := by decide +kernel
theorem dL_law_2673 : decode cL_law 2673 = .ok (.i2l, 1) := by decide +kernel
theorem dL_law_2674 : decode cL_law 2674 = .ok (.lcmp, 1) := by decide +kernel
theorem dL_law_2675 : decode cL_law 2675 = .ok (.ifCond .eq 5, 3) := by decide +kernel
theorem dL_law_2680 : decode cL_law 2680 = .ok (.goto 138, 3) := by decide +kernel
theorem dL_law_2683 : decode cL_law 2683 = .ok (.aload_n 1, 1) := by decide +kernel
theorem dL_law_2684 : decode cL_law 2684 = .ok (.aload_n 0, 1) := by decide +kernel
theorem dL_law_2685 : decode cL_law 2685 = .ok (.iload 4, 2) := by decide +kernel
theorem dL_law_2687 : decode cL_law 2687 = .ok (.iconst 1, 1) := by decide +kernel
theorem dL_law_2688 : decode cL_law 2688 = .ok (.iadd, 1) := by decide +kernel
theorem dL_law_2689 : decode cL_law 2689 = .ok (.iaload, 1) := by decide +kernel
theorem dL_law_2690 : decode cL_law 2690 = .ok (.aload_n 0, 1) := by decide +kernel
theorem dL_law_2691 : decode cL_law 2691 = .ok (.iload 4, 2) := by decide +kernel
theorem dL_law_2693 : decode cL_law 2693 = .ok (.iconst 2, 1) := by decide +kernel
theorem dL_law_2694 : decode cL_law 2694 = .ok (.iadd, 1) := by decide +kernel
theorem dL_law_2695 : decode cL_law 2695 = .ok (.iaload, 1) := by decide +kernel
theorem dL_law_2696 : decode cL_law 2696 = .ok (.aload_n 0, 1) := by decide +kernel
theorem dL_law_2697 : decode cL_law 2697 = .ok (.iload 4, 2) := by decide +kernel
theorem dL_law_2699 : decode cL_law 2699 = .ok (.iconst 3, 1) := by decide +kernel
theorem dL_law_2700 : decode cL_law 2700 = .ok (.iadd, 1) := by decide +kernel
theorem dL_law_2701 : decode cL_law 2701 = .ok (.iaload, 1) := by decide +kernel
theorem dL_law_2702 : decode cL_law 2702 = .ok (.aload_n 3, 1) := by decide +kernel
theorem dL_law_2703 : decode cL_law 2703 = .ok (.invokestatic 286, 3) := by decide +kernel
theorem dL_law_2706 : decode cL_law 2706 = .ok (.istore 5, 2) := by decide +kernel
theorem dL_law_2708 : decode cL_law 2708 = .ok (.aload_n 2, 1) := by decide +kernel
theorem dL_law_2709 : decode cL_law 2709 = .ok (.aload_n 0, 1) := by decide +kernel
theorem dL_law_2710 : decode cL_law 2710 = .ok (.iload 4, 2) := by decide +kernel
theorem dL_law_2712 : decode cL_law 2712 = .ok (.iconst 1, 1) := by decide +kernel
theorem dL_law_2713 : decode cL_law 2713 = .ok (.iadd, 1) := by decide +kernel
theorem dL_law_2714 : decode cL_law 2714 = .ok (.iaload, 1) := by decide +kernel
theorem dL_law_2715 : decode cL_law 2715 = .ok (.aload_n 0, 1) := by decide +kernel
theorem dL_law_2716 : decode cL_law 2716 = .ok (.iload 4, 2) := by decide +kernel
theorem dL_law_2718 : decode cL_law 2718 = .ok (.iconst 2, 1) := by decide +kernel
theorem dL_law_2719 : decode cL_law 2719 = .ok (.iadd, 1) := by decide +kernel
theorem dL_law_2720 : decode cL_law 2720 = .ok (.iaload, 1) := by decide +kernel
theorem dL_law_2721 : decode cL_law 2721 = .ok (.aload_n 0, 1) := by decide +kernel
theorem dL_law_2722 : decode cL_law 2722 = .ok (.iload 4, 2) := by decide +kernel
theorem dL_law_2724 : decode cL_law 2724 = .ok (.iconst 3, 1) := by decide +kernel
theorem dL_law_2725 : decode cL_law 2725 = .ok (.iadd, 1) := by decide +kernel
theorem dL_law_2726 : decode cL_law 2726 = .ok (.iaload, 1) := by decide +kernel
theorem dL_law_2727 : decode cL_law 2727 = .ok (.invokevirtual 288, 3) := by decide +kernel
theorem dL_law_2730 : decode cL_law 2730 = .ok (.istore 6, 2) := by decide +kernel
theorem dL_law_2732 : decode cL_law 2732 = .ok (.aload_n 2, 1) := by decide +kernel
theorem dL_law_2733 : decode cL_law 2733 = .ok (.invokevirtual 131, 3) := by decide +kernel
theorem dL_law_2736 : decode cL_law 2736 = .ok (.iload 5, 2) := by decide +kernel
theorem dL_law_2738 : decode cL_law 2738 = .ok (.if_icmp .eq 5, 3) := by decide +kernel
theorem dL_law_2743 : decode cL_law 2743 = .ok (.iload 5, 2) := by decide +kernel
theorem dL_law_2745 : decode cL_law 2745 = .ok (.ifCond .ne 15, 3) := by decide +kernel
theorem dL_law_2760 : decode cL_law 2760 = .ok (.goto 58, 3) := by decide +kernel
theorem dL_law_2763 : decode cL_law 2763 = .ok (.aload_n 1, 1) := by decide +kernel
theorem dL_law_2764 : decode cL_law 2764 = .ok (.invokevirtual 289, 3) := by decide +kernel
theorem dL_law_2767 : decode cL_law 2767 = .ok (.dstore 5, 2) := by decide +kernel
theorem dL_law_2769 : decode cL_law 2769 = .ok (.aload_n 2, 1) := by decide +kernel
theorem dL_law_2770 : decode cL_law 2770 = .ok (.invokevirtual 293, 3) := by decide +kernel
theorem dL_law_2773 : decode cL_law 2773 = .ok (.dstore 7, 2) := by decide +kernel
theorem dL_law_2775 : decode cL_law 2775 = .ok (.dload 5, 2) := by decide +kernel
theorem dL_law_2777 : decode cL_law 2777 = .ok (.dload 7, 2) := by decide +kernel
theorem dL_law_2779 : decode cL_law 2779 = .ok (.dcmp .l, 1) := by decide +kernel
theorem dL_law_2780 : decode cL_law 2780 = .ok (.ifCond .eq 21, 3) := by decide +kernel
theorem dL_law_2801 : decode cL_law 2801 = .ok (.goto 17, 3) := by decide +kernel
theorem dL_law_2804 : decode cL_law 2804 = .ok (.aload_n 1, 1) := by decide +kernel
theorem dL_law_2805 : decode cL_law 2805 = .ok (.invokevirtual 294, 3) := by decide +kernel
theorem dL_law_2808 : decode cL_law 2808 = .ok (.aload_n 2, 1) := by decide +kernel
theorem dL_law_2809 : decode cL_law 2809 = .ok (.invokevirtual 298, 3) := by decide +kernel
theorem dL_law_2812 : decode cL_law 2812 = .ok (.lcmp, 1) := by decide +kernel
theorem dL_law_2813 : decode cL_law 2813 = .ok (.ifCond .eq 5, 3) := by decide +kernel
theorem dL_law_2818 : decode cL_law 2818 = .ok (.iinc 4 7, 3) := by decide +kernel
theorem dL_law_2821 : decode cL_law 2821 = .ok (.goto (-2798), 3) := by decide +kernel
theorem dL_law_2824 : decode cL_law 2824 = .ok (.iconst 1, 1) := by decide +kernel
theorem dL_law_2825 : decode cL_law 2825 = .ok (.ireturn, 1) := by decide +kernel
theorem dL_leftOf_0 : decode cL_leftOf 0 = .ok (.aload 4, 2) := by decide +kernel
theorem dL_leftOf_2 : decode cL_leftOf 2 = .ok (.iconst 0, 1) := by decide +kernel
theorem dL_leftOf_3 : decode cL_leftOf 3 = .ok (.aload_n 0, 1) := by decide +kernel
theorem dL_leftOf_4 : decode cL_leftOf 4 = .ok (.iload_n 1, 1) := by decide +kernel
theorem dL_leftOf_5 : decode cL_leftOf 5 = .ok (.iload_n 2, 1) := by decide +kernel
theorem dL_leftOf_6 : decode cL_leftOf 6 = .ok (.iload_n 3, 1) := by decide +kernel
theorem dL_leftOf_7 : decode cL_leftOf 7 = .ok (.invokevirtual 78, 3) := by decide +kernel
theorem dL_leftOf_15 : decode cL_leftOf 15 = .ok (.astore 5, 2) := by decide +kernel
theorem dL_leftOf_17 : decode cL_leftOf 17 = .ok (.iconst 1, 1) := by decide +kernel
theorem dL_leftOf_18 : decode cL_leftOf 18 = .ok (.ireturn, 1) := by decide +kernel
theorem dL_lines_0 : decode cL_lines 0 = .ok (.aload_n 2, 1) := by decide +kernel
theorem dL_lines_1 : decode cL_lines 1 = .ok (.iconst 0, 1) := by decide +kernel
theorem dL_lines_2 : decode cL_lines 2 = .ok (.aload_n 0, 1) := by decide +kernel
theorem dL_lines_3 : decode cL_lines 3 = .ok (.iload_n 1, 1) := by decide +kernel
theorem dL_lines_4 : decode cL_lines 4 = .ok (.invokevirtual 87, 3) := by decide +kernel
theorem dL_lines_12 : decode cL_lines 12 = .ok (.astore_n 3, 1) := by decide +kernel
theorem dL_lines_13 : decode cL_lines 13 = .ok (.iconst 1, 1) := by decide +kernel
theorem dL_lines_14 : decode cL_lines 14 = .ok (.ireturn, 1) := by decide +kernel
theorem dL_parametersOf_0 : decode cL_parametersOf 0 = .ok (.aload_n 2, 1) := by decide +kernel
theorem dL_parametersOf_1 : decode cL_parametersOf 1 = .ok (.iconst 0, 1) := by decide +kernel
theorem dL_parametersOf_2 : decode cL_parametersOf 2 = .ok (.aload_n 0, 1) := by decide +kernel
theorem dL_parametersOf_3 : decode cL_parametersOf 3 = .ok (.iload_n 1, 1) := by decide +kernel
theorem dL_parametersOf_4 : decode cL_parametersOf 4 = .ok (.invokevirtual 21, 3) := by decide +kernel
theorem dL_parametersOf_12 : decode cL_parametersOf 12 = .ok (.astore_n 3, 1) := by decide +kernel
theorem dL_parametersOf_13 : decode cL_parametersOf 13 = .ok (.iconst 1, 1) := by decide +kernel
theorem dL_parametersOf_14 : decode cL_parametersOf 14 = .ok (.ireturn, 1) := by decide +kernel
theorem dL_phiGives_0 : decode cL_phiGives 0 = .ok (.aload 4, 2) := by decide +kernel
theorem dL_phiGives_2 : decode cL_phiGives 2 = .ok (.iconst 0, 1) := by decide +kernel
theorem dL_phiGives_3 : decode cL_phiGives 3 = .ok (.aload_n 0, 1) := by decide +kernel
theorem dL_phiGives_4 : decode cL_phiGives 4 = .ok (.iload_n 1, 1) := by decide +kernel
theorem dL_phiGives_5 : decode cL_phiGives 5 = .ok (.iload_n 2, 1) := by decide +kernel
theorem dL_phiGives_6 : decode cL_phiGives 6 = .ok (.iload_n 3, 1) := by decide +kernel
theorem dL_phiGives_7 : decode cL_phiGives 7 = .ok (.invokevirtual 62, 3) := by decide +kernel
theorem dL_phiGives_15 : decode cL_phiGives 15 = .ok (.astore 5, 2) := by decide +kernel
theorem dL_phiGives_17 : decode cL_phiGives 17 = .ok (.iconst 1, 1) := by decide +kernel
theorem dL_phiGives_18 : decode cL_phiGives 18 = .ok (.ireturn, 1) := by decide +kernel
theorem dL_phiTakes_0 : decode cL_phiTakes 0 = .ok (.aload 5, 2) := by decide +kernel
theorem dL_phiTakes_2 : decode cL_phiTakes 2 = .ok (.iconst 0, 1) := by decide +kernel
theorem dL_phiTakes_3 : decode cL_phiTakes 3 = .ok (.aload_n 0, 1) := by decide +kernel
theorem dL_phiTakes_4 : decode cL_phiTakes 4 = .ok (.iload_n 1, 1) := by decide +kernel
theorem dL_phiTakes_5 : decode cL_phiTakes 5 = .ok (.iload_n 2, 1) := by decide +kernel
theorem dL_phiTakes_6 : decode cL_phiTakes 6 = .ok (.iload_n 3, 1) := by decide +kernel
theorem dL_phiTakes_7 : decode cL_phiTakes 7 = .ok (.iload 4, 2) := by decide +kernel
theorem dL_phiTakes_9 : decode cL_phiTakes 9 = .ok (.invokevirtual 65, 3) := by decide +kernel
theorem dL_phiTakes_17 : decode cL_phiTakes 17 = .ok (.astore 6, 2) := by decide +kernel
theorem dL_phiTakes_19 : decode cL_phiTakes 19 = .ok (.iconst 1, 1) := by decide +kernel
theorem dL_phiTakes_20 : decode cL_phiTakes 20 = .ok (.ireturn, 1) := by decide +kernel
theorem dL_phis_0 : decode cL_phis 0 = .ok (.aload_n 3, 1) := by decide +kernel
theorem dL_phis_1 : decode cL_phis 1 = .ok (.iconst 0, 1) := by decide +kernel
theorem dL_phis_2 : decode cL_phis 2 = .ok (.aload_n 0, 1) := by decide +kernel
theorem dL_phis_3 : decode cL_phis 3 = .ok (.iload_n 1, 1) := by decide +kernel
theorem dL_phis_4 : decode cL_phis 4 = .ok (.iload_n 2, 1) := by decide +kernel
theorem dL_phis_5 : decode cL_phis 5 = .ok (.invokevirtual 59, 3) := by decide +kernel
theorem dL_phis_13 : decode cL_phis 13 = .ok (.astore 4, 2) := by decide +kernel
theorem dL_phis_15 : decode cL_phis 15 = .ok (.iconst 1, 1) := by decide +kernel
theorem dL_phis_16 : decode cL_phis 16 = .ok (.ireturn, 1) := by decide +kernel
theorem dL_predecessor_0 : decode cL_predecessor 0 = .ok (.aload 4, 2) := by decide +kernel
theorem dL_predecessor_2 : decode cL_predecessor 2 = .ok (.iconst 0, 1) := by decide +kernel
theorem dL_predecessor_3 : decode cL_predecessor 3 = .ok (.aload_n 0, 1) := by decide +kernel
theorem dL_predecessor_4 : decode cL_predecessor 4 = .ok (.iload_n 1, 1) := by decide +kernel
theorem dL_predecessor_5 : decode cL_predecessor 5 = .ok (.iload_n 2, 1) := by decide +kernel
theorem dL_predecessor_6 : decode cL_predecessor 6 = .ok (.iload_n 3, 1) := by decide +kernel
theorem dL_predecessor_7 : decode cL_predecessor 7 = .ok (.invokevirtual 45, 3) := by decide +kernel
theorem dL_predecessor_15 : decode cL_predecessor 15 = .ok (.astore 5, 2) := by decide +kernel
theorem dL_predecessor_17 : decode cL_predecessor 17 = .ok (.iconst 1, 1) := by decide +kernel
theorem dL_predecessor_18 : decode cL_predecessor 18 = .ok (.ireturn, 1) := by decide +kernel
theorem dL_predecessors_0 : decode cL_predecessors 0 = .ok (.aload_n 3, 1) := by decide +kernel
theorem dL_predecessors_1 : decode cL_predecessors 1 = .ok (.iconst 0, 1) := by decide +kernel
theorem dL_predecessors_2 : decode cL_predecessors 2 = .ok (.aload_n 0, 1) := by decide +kernel
theorem dL_predecessors_3 : decode cL_predecessors 3 = .ok (.iload_n 1, 1) := by decide +kernel
theorem dL_predecessors_4 : decode cL_predecessors 4 = .ok (.iload_n 2, 1) := by decide +kernel
theorem dL_predecessors_5 : decode cL_predecessors 5 = .ok (.invokevirtual 42, 3) := by decide +kernel
theorem dL_predecessors_13 : decode cL_predecessors 13 = .ok (.astore 4, 2) := by decide +kernel
theorem dL_predecessors_15 : decode cL_predecessors 15 = .ok (.iconst 1, 1) := by decide +kernel
theorem dL_predecessors_16 : decode cL_predecessors 16 = .ok (.ireturn, 1) := by decide +kernel
theorem dL_rightOf_0 : decode cL_rightOf 0 = .ok (.aload 4, 2) := by decide +kernel
theorem dL_rightOf_2 : decode cL_rightOf 2 = .ok (.iconst 0, 1) := by decide +kernel
theorem dL_rightOf_3 : decode cL_rightOf 3 = .ok (.aload_n 0, 1) := by decide +kernel
theorem dL_rightOf_4 : decode cL_rightOf 4 = .ok (.iload_n 1, 1) := by decide +kernel
theorem dL_rightOf_5 : decode cL_rightOf 5 = .ok (.iload_n 2, 1) := by decide +kernel
theorem dL_rightOf_6 : decode cL_rightOf 6 = .ok (.iload_n 3, 1) := by decide +kernel
theorem dL_rightOf_7 : decode cL_rightOf 7 = .ok (.invokevirtual 81, 3) := by decide +kernel
theorem dL_rightOf_15 : decode cL_rightOf 15 = .ok (.astore 5, 2) := by decide +kernel
theorem dL_rightOf_17 : decode cL_rightOf 17 = .ok (.iconst 1, 1) := by decide +kernel
theorem dL_rightOf_18 : decode cL_rightOf 18 = .ok (.ireturn, 1) := by decide +kernel
theorem dL_rounds_0 : decode cL_rounds 0 = .ok (.aload_n 2, 1) := by decide +kernel
theorem dL_rounds_1 : decode cL_rounds 1 = .ok (.iconst 0, 1) := by decide +kernel
theorem dL_rounds_2 : decode cL_rounds 2 = .ok (.aload_n 0, 1) := by decide +kernel
theorem dL_rounds_3 : decode cL_rounds 3 = .ok (.iload_n 1, 1) := by decide +kernel
theorem dL_rounds_4 : decode cL_rounds 4 = .ok (.invokevirtual 108, 3) := by decide +kernel
theorem dL_rounds_12 : decode cL_rounds 12 = .ok (.astore_n 3, 1) := by decide +kernel
theorem dL_rounds_13 : decode cL_rounds 13 = .ok (.iconst 1, 1) := by decide +kernel
theorem dL_rounds_14 : decode cL_rounds 14 = .ok (.ireturn, 1) := by decide +kernel
theorem dL_run_0 : decode cL_run 0 = .ok (.aload 7, 2) := by decide +kernel
theorem dL_run_2 : decode cL_run 2 = .ok (.iconst 0, 1) := by decide +kernel
theorem dL_run_3 : decode cL_run 3 = .ok (.aload_n 0, 1) := by decide +kernel
theorem dL_run_4 : decode cL_run 4 = .ok (.iload_n 1, 1) := by decide +kernel
theorem dL_run_5 : decode cL_run 5 = .ok (.iload_n 2, 1) := by decide +kernel
theorem dL_run_6 : decode cL_run 6 = .ok (.iload_n 3, 1) := by decide +kernel
theorem dL_run_7 : decode cL_run 7 = .ok (.iload 4, 2) := by decide +kernel
theorem dL_run_9 : decode cL_run 9 = .ok (.iload 5, 2) := by decide +kernel
theorem dL_run_11 : decode cL_run 11 = .ok (.iload 6, 2) := by decide +kernel
theorem dL_run_13 : decode cL_run 13 = .ok (.invokevirtual 111, 3) := by decide +kernel
theorem dL_run_21 : decode cL_run 21 = .ok (.astore 8, 2) := by decide +kernel
theorem dL_run_23 : decode cL_run 23 = .ok (.iconst 1, 1) := by decide +kernel
theorem dL_run_24 : decode cL_run 24 = .ok (.ireturn, 1) := by decide +kernel
theorem dL_slots_0 : decode cL_slots 0 = .ok (.aload_n 2, 1) := by decide +kernel
theorem dL_slots_1 : decode cL_slots 1 = .ok (.iconst 0, 1) := by decide +kernel
theorem dL_slots_2 : decode cL_slots 2 = .ok (.aload_n 0, 1) := by decide +kernel
theorem dL_slots_3 : decode cL_slots 3 = .ok (.iload_n 1, 1) := by decide +kernel
theorem dL_slots_4 : decode cL_slots 4 = .ok (.invokevirtual 102, 3) := by decide +kernel
theorem dL_slots_12 : decode cL_slots 12 = .ok (.astore_n 3, 1) := by decide +kernel
theorem dL_slots_13 : decode cL_slots 13 = .ok (.iconst 1, 1) := by decide +kernel
theorem dL_slots_14 : decode cL_slots 14 = .ok (.ireturn, 1) := by decide +kernel
theorem dL_steps_0 : decode cL_steps 0 = .ok (.aload_n 3, 1) := by decide +kernel
theorem dL_steps_1 : decode cL_steps 1 = .ok (.iconst 0, 1) := by decide +kernel
theorem dL_steps_2 : decode cL_steps 2 = .ok (.aload_n 0, 1) := by decide +kernel
theorem dL_steps_3 : decode cL_steps 3 = .ok (.iload_n 1, 1) := by decide +kernel
theorem dL_steps_4 : decode cL_steps 4 = .ok (.iload_n 2, 1) := by decide +kernel
theorem dL_steps_5 : decode cL_steps 5 = .ok (.invokevirtual 69, 3) := by decide +kernel
theorem dL_steps_13 : decode cL_steps 13 = .ok (.astore 4, 2) := by decide +kernel
theorem dL_steps_15 : decode cL_steps 15 = .ok (.iconst 1, 1) := by decide +kernel
theorem dL_steps_16 : decode cL_steps 16 = .ok (.ireturn, 1) := by decide +kernel
theorem dL_successor_0 : decode cL_successor 0 = .ok (.aload 4, 2) := by decide +kernel
theorem dL_successor_2 : decode cL_successor 2 = .ok (.iconst 0, 1) := by decide +kernel
theorem dL_successor_3 : decode cL_successor 3 = .ok (.aload_n 0, 1) := by decide +kernel
theorem dL_successor_4 : decode cL_successor 4 = .ok (.iload_n 1, 1) := by decide +kernel
theorem dL_successor_5 : decode cL_successor 5 = .ok (.iload_n 2, 1) := by decide +kernel
theorem dL_successor_6 : decode cL_successor 6 = .ok (.iload_n 3, 1) := by decide +kernel
theorem dL_successor_7 : decode cL_successor 7 = .ok (.invokevirtual 52, 3) := by decide +kernel
theorem dL_successor_15 : decode cL_successor 15 = .ok (.astore 5, 2) := by decide +kernel
theorem dL_successor_17 : decode cL_successor 17 = .ok (.iconst 1, 1) := by decide +kernel
theorem dL_successor_18 : decode cL_successor 18 = .ok (.ireturn, 1) := by decide +kernel
theorem dL_trim_0 : decode cL_trim 0 = .ok (.aload_n 2, 1) := by decide +kernel
theorem dL_trim_1 : decode cL_trim 1 = .ok (.iconst 0, 1) := by decide +kernel
theorem dL_trim_2 : decode cL_trim 2 = .ok (.aload_n 0, 1) := by decide +kernel
theorem dL_trim_3 : decode cL_trim 3 = .ok (.iload_n 1, 1) := by decide +kernel
theorem dL_trim_4 : decode cL_trim 4 = .ok (.invokevirtual 15, 3) := by decide +kernel
theorem dL_trim_7 : decode cL_trim 7 = .ok (.i2l, 1) := by decide +kernel
theorem dL_trim_8 : decode cL_trim 8 = .ok (.lastore, 1) := by decide +kernel
theorem dL_trim_9 : decode cL_trim 9 = .ok (.goto 6, 3) := by decide +kernel
theorem dL_trim_12 : decode cL_trim 12 = .ok (.astore_n 3, 1) := by decide +kernel
theorem dL_trim_13 : decode cL_trim 13 = .ok (.iconst 1, 1) := by decide +kernel
theorem dL_trim_14 : decode cL_trim 14 = .ok (.ireturn, 1) := by decide +kernel
theorem dL_trim_15 : decode cL_trim 15 = .ok (.iconst 0, 1) := by decide +kernel
theorem dL_trim_16 : decode cL_trim 16 = .ok (.ireturn, 1) := by decide +kernel
theorem dL_united_0 : decode cL_united 0 = .ok (.aload_n 2, 1) := by decide +kernel
theorem dL_united_1 : decode cL_united 1 = .ok (.iconst 0, 1) := by decide +kernel
theorem dL_united_2 : decode cL_united 2 = .ok (.aload_n 0, 1) := by decide +kernel
theorem dL_united_3 : decode cL_united 3 = .ok (.iload_n 1, 1) := by decide +kernel
theorem dL_united_4 : decode cL_united 4 = .ok (.invokevirtual 105, 3) := by decide +kernel
theorem dL_united_12 : decode cL_united 12 = .ok (.astore_n 3, 1) := by decide +kernel
theorem dL_united_13 : decode cL_united 13 = .ok (.iconst 1, 1) := by decide +kernel
theorem dL_united_14 : decode cL_united 14 = .ok (.ireturn, 1) := by decide +kernel
theorem dL_values_0 : decode cL_values 0 = .ok (.aload_n 2, 1) := by decide +kernel
theorem dL_values_1 : decode cL_values 1 = .ok (.iconst 0, 1) := by decide +kernel
theorem dL_values_2 : decode cL_values 2 = .ok (.aload_n 0, 1) := by decide +kernel
theorem dL_values_3 : decode cL_values 3 = .ok (.iload_n 1, 1) := by decide +kernel
theorem dL_values_4 : decode cL_values 4 = .ok (.invokevirtual 29, 3) := by decide +kernel
theorem dL_values_12 : decode cL_values 12 = .ok (.astore_n 3, 1) := by decide +kernel
theorem dL_values_13 : decode cL_values 13 = .ok (.iconst 1, 1) := by decide +kernel
theorem dL_values_14 : decode cL_values 14 = .ok (.ireturn, 1) := by decide +kernel
theorem dL_word_0 : decode cL_word 0 = .ok (.aload_n 2, 1) := by decide +kernel
theorem dL_word_1 : decode cL_word 1 = .ok (.iconst 0, 1) := by decide +kernel
theorem dL_word_2 : decode cL_word 2 = .ok (.aload_n 0, 1) := by decide +kernel
theorem dL_word_3 : decode cL_word 3 = .ok (.iload_n 1, 1) := by decide +kernel
theorem dL_word_4 : decode cL_word 4 = .ok (.invokevirtual 115, 3) := by decide +kernel
theorem dL_word_7 : decode cL_word 7 = .ok (.i2l, 1) := by decide +kernel
theorem dL_word_8 : decode cL_word 8 = .ok (.lastore, 1) := by decide +kernel
theorem dL_word_9 : decode cL_word 9 = .ok (.goto 6, 3) := by decide +kernel
theorem dL_word_12 : decode cL_word 12 = .ok (.astore_n 3, 1) := by decide +kernel
theorem dL_word_13 : decode cL_word 13 = .ok (.iconst 1, 1) := by decide +kernel
theorem dL_word_14 : decode cL_word 14 = .ok (.ireturn, 1) := by decide +kernel
theorem dL_word_15 : decode cL_word 15 = .ok (.iconst 0, 1) := by decide +kernel
theorem dL_word_16 : decode cL_word 16 = .ok (.ireturn, 1) := by decide +kernel
theorem dX0_init_0 : decode cX0_init 0 = .ok (.aload_n 0, 1) := by decide +kernel
theorem dX0_init_1 : decode cX0_init 1 = .ok (.invokespecial 3, 3) := by decide +kernel
theorem dX0_init_4 : decode cX0_init 4 = .ok (.aload_n 0, 1) := by decide +kernel
theorem dX0_init_5 : decode cX0_init 5 = .ok (.new 9, 3) := by decide +kernel
theorem dX0_init_8 : decode cX0_init 8 = .ok (.dup, 1) := by decide +kernel
theorem dX0_init_9 : decode cX0_init 9 = .ok (.invokespecial 11, 3) := by decide +kernel
theorem dX0_init_12 : decode cX0_init 12 = .ok (.putfield 12, 3) := by decide +kernel
theorem dX0_init_15 : decode cX0_init 15 = .ok (.aload_n 0, 1) := by decide +kernel
theorem dX0_init_16 : decode cX0_init 16 = .ok (.bipush 6, 2) := by decide +kernel
theorem dX0_init_18 : decode cX0_init 18 = .ok (.anewarray 18, 3) := by decide +kernel
theorem dX0_init_21 : decode cX0_init 21 = .ok (.putfield 20, 3) := by decide +kernel
theorem dX0_init_24 : decode cX0_init 24 = .ok (.aload_n 0, 1) := by decide +kernel
theorem dX0_init_25 : decode cX0_init 25 = .ok (.bipush 6, 2) := by decide +kernel
theorem dX0_init_27 : decode cX0_init 27 = .ok (.newarray .int, 2) := by decide +kernel
theorem dX0_init_29 : decode cX0_init 29 = .ok (.putfield 24, 3) := by decide +kernel
theorem dX0_init_32 : decode cX0_init 32 = .ok (.aload_n 0, 1) := by decide +kernel
theorem dX0_init_33 : decode cX0_init 33 = .ok (.bipush 6, 2) := by decide +kernel
theorem dX0_init_35 : decode cX0_init 35 = .ok (.newarray .int, 2) := by decide +kernel
theorem dX0_init_37 : decode cX0_init 37 = .ok (.putfield 28, 3) := by decide +kernel
theorem dX0_init_40 : decode cX0_init 40 = .ok (.aload_n 0, 1) := by decide +kernel
theorem dX0_init_41 : decode cX0_init 41 = .ok (.bipush 6, 2) := by decide +kernel
theorem dX0_init_43 : decode cX0_init 43 = .ok (.newarray .int, 2) := by decide +kernel
theorem dX0_init_45 : decode cX0_init 45 = .ok (.putfield 31, 3) := by decide +kernel
theorem dX0_init_48 : decode cX0_init 48 = .ok (.aload_n 0, 1) := by decide +kernel
theorem dX0_init_49 : decode cX0_init 49 = .ok (.new 34, 3) := by decide +kernel
theorem dX0_init_52 : decode cX0_init 52 = .ok (.dup, 1) := by decide +kernel
theorem dX0_init_53 : decode cX0_init 53 = .ok (.invokespecial 36, 3) := by decide +kernel
theorem dX0_init_56 : decode cX0_init 56 = .ok (.putfield 37, 3) := by decide +kernel
theorem dX0_init_59 : decode cX0_init 59 = .ok (.aload_n 0, 1) := by decide +kernel
theorem dX0_init_60 : decode cX0_init 60 = .ok (.sipush 256, 3) := by decide +kernel
theorem dX0_init_63 : decode cX0_init 63 = .ok (.newarray .int, 2) := by decide +kernel
theorem dX0_init_65 : decode cX0_init 65 = .ok (.putfield 41, 3) := by decide +kernel
theorem dX0_init_68 : decode cX0_init 68 = .ok (.aload_n 0, 1) := by decide +kernel
theorem dX0_init_69 : decode cX0_init 69 = .ok (.sipush 256, 3) := by decide +kernel
theorem dX0_init_72 : decode cX0_init 72 = .ok (.newarray .int, 2) := by decide +kernel
theorem dX0_init_74 : decode cX0_init 74 = .ok (.putfield 44, 3) := by decide +kernel
theorem dX0_init_77 : decode cX0_init 77 = .ok (.aload_n 0, 1) := by decide +kernel
theorem dX0_init_78 : decode cX0_init 78 = .ok (.sipush 250, 3) := by decide +kernel
theorem dX0_init_81 : decode cX0_init 81 = .ok (.newarray .int, 2) := by decide +kernel
theorem dX0_init_83 : decode cX0_init 83 = .ok (.putfield 47, 3) := by decide +kernel
theorem dX0_init_86 : decode cX0_init 86 = .ok (.aload_n 0, 1) := by decide +kernel
theorem dX0_init_87 : decode cX0_init 87 = .ok (.sipush 250, 3) := by decide +kernel
theorem dX0_init_90 : decode cX0_init 90 = .ok (.newarray .int, 2) := by decide +kernel
theorem dX0_init_92 : decode cX0_init 92 = .ok (.putfield 50, 3) := by decide +kernel
theorem dX0_init_95 : decode cX0_init 95 = .ok (.aload_n 0, 1) := by decide +kernel
theorem dX0_init_96 : decode cX0_init 96 = .ok (.bipush 61, 2) := by decide +kernel
theorem dX0_init_98 : decode cX0_init 98 = .ok (.newarray .int, 2) := by decide +kernel
theorem dX0_init_100 : decode cX0_init 100 = .ok (.putfield 53, 3) := by decide +kernel
theorem dX0_init_103 : decode cX0_init 103 = .ok (.iconst 0, 1) := by decide +kernel
theorem dX0_init_104 : decode cX0_init 104 = .ok (.istore_n 1, 1) := by decide +kernel
theorem dX0_init_105 : decode cX0_init 105 = .ok (.iload_n 1, 1) := by decide +kernel
theorem dX0_init_106 : decode cX0_init 106 = .ok (.bipush 6, 2) := by decide +kernel
theorem dX0_init_108 : decode cX0_init 108 = .ok (.if_icmp .ge 25, 3) := by decide +kernel
theorem dX0_init_111 : decode cX0_init 111 = .ok (.aload_n 0, 1) := by decide +kernel
theorem dX0_init_112 : decode cX0_init 112 = .ok (.getfield 20, 3) := by decide +kernel
theorem dX0_init_115 : decode cX0_init 115 = .ok (.iload_n 1, 1) := by decide +kernel
theorem dX0_init_116 : decode cX0_init 116 = .ok (.new 18, 3) := by decide +kernel
theorem dX0_init_119 : decode cX0_init 119 = .ok (.dup, 1) := by decide +kernel
theorem dX0_init_120 : decode cX0_init 120 = .ok (.sipush 256, 3) := by decide +kernel
theorem dX0_init_123 : decode cX0_init 123 = .ok (.invokespecial 56, 3) := by decide +kernel
theorem dX0_init_126 : decode cX0_init 126 = .ok (.aastore, 1) := by decide +kernel
theorem dX0_init_127 : decode cX0_init 127 = .ok (.iinc 1 1, 3) := by decide +kernel
theorem dX0_init_130 : decode cX0_init 130 = .ok (.goto (-25), 3) := by decide +kernel
theorem dX0_init_133 : decode cX0_init 133 = .ok (.return_, 1) := by decide +kernel
theorem dX10_advance_0 : decode cX10_advance 0 = .ok (.aload_n 0, 1) := by decide +kernel
theorem dX10_advance_1 : decode cX10_advance 1 = .ok (.getfield 19, 3) := by decide +kernel
theorem dX10_advance_4 : decode cX10_advance 4 = .ok (.aload_n 0, 1) := by decide +kernel
theorem dX10_advance_5 : decode cX10_advance 5 = .ok (.getfield 15, 3) := by decide +kernel
theorem dX10_advance_8 : decode cX10_advance 8 = .ok (.if_icmp .ge 44, 3) := by decide +kernel
theorem dX10_advance_52 : decode cX10_advance 52 = .ok (.aload_n 0, 1) := by decide +kernel
theorem dX10_advance_53 : decode cX10_advance 53 = .ok (.aload_n 0, 1) := by decide +kernel
theorem dX10_advance_54 : decode cX10_advance 54 = .ok (.getfield 19, 3) := by decide +kernel
theorem dX10_advance_57 : decode cX10_advance 57 = .ok (.putfield 28, 3) := by decide +kernel
theorem dX10_advance_60 : decode cX10_advance 60 = .ok (.aload_n 0, 1) := by decide +kernel
theorem dX10_advance_61 : decode cX10_advance 61 = .ok (.getfield 19, 3) := by decide +kernel
theorem dX10_advance_64 : decode cX10_advance 64 = .ok (.aload_n 0, 1) := by decide +kernel
theorem dX10_advance_65 : decode cX10_advance 65 = .ok (.getfield 15, 3) := by decide +kernel
theorem dX10_advance_68 : decode cX10_advance 68 = .ok (.if_icmp .lt 9, 3) := by decide +kernel
theorem dX10_advance_71 : decode cX10_advance 71 = .ok (.aload_n 0, 1) := by decide +kernel
theorem dX10_advance_72 : decode cX10_advance 72 = .ok (.iconst 0, 1) := by decide +kernel
theorem dX10_advance_73 : decode cX10_advance 73 = .ok (.putfield 31, 3) := by decide +kernel
theorem dX10_advance_76 : decode cX10_advance 76 = .ok (.return_, 1) := by decide +kernel
theorem dX10_append_0 : decode cX10_append 0 = .ok (.bipush 24, 2) := by decide +kernel
theorem dX10_append_2 : decode cX10_append 2 = .ok (.istore_n 2, 1) := by decide +kernel
theorem dX10_append_3 : decode cX10_append 3 = .ok (.iload_n 2, 1) := by decide +kernel
theorem dX10_append_4 : decode cX10_append 4 = .ok (.ifCond .lt 45, 3) := by decide +kernel
theorem dX10_append_7 : decode cX10_append 7 = .ok (.aload_n 0, 1) := by decide +kernel
theorem dX10_append_8 : decode cX10_append 8 = .ok (.getfield 15, 3) := by decide +kernel
theorem dX10_append_11 : decode cX10_append 11 = .ok (.sipush 1200, 3) := by decide +kernel
theorem dX10_append_14 : decode cX10_append 14 = .ok (.if_icmp .ge 35, 3) := by decide +kernel
theorem dX10_append_17 : decode cX10_append 17 = .ok (.aload_n 0, 1) := by decide +kernel
theorem dX10_append_18 : decode cX10_append 18 = .ok (.getfield 9, 3) := by decide +kernel
theorem dX10_append_21 : decode cX10_append 21 = .ok (.aload_n 0, 1) := by decide +kernel
theorem dX10_append_22 : decode cX10_append 22 = .ok (.getfield 15, 3) := by decide +kernel
theorem dX10_append_25 : decode cX10_append 25 = .ok (.iload_n 1, 1) := by decide +kernel
theorem dX10_append_26 : decode cX10_append 26 = .ok (.iload_n 2, 1) := by decide +kernel
theorem dX10_append_27 : decode cX10_append 27 = .ok (.iushr, 1) := by decide +kernel
theorem dX10_append_28 : decode cX10_append 28 = .ok (.sipush 255, 3) := by decide +kernel
theorem dX10_append_31 : decode cX10_append 31 = .ok (.iand, 1) := by decide +kernel
theorem dX10_append_32 : decode cX10_append 32 = .ok (.iastore, 1) := by decide +kernel
theorem dX10_append_33 : decode cX10_append 33 = .ok (.aload_n 0, 1) := by decide +kernel
theorem dX10_append_34 : decode cX10_append 34 = .ok (.dup, 1) := by decide +kernel
theorem dX10_append_35 : decode cX10_append 35 = .ok (.getfield 15, 3) := by decide +kernel
theorem dX10_append_38 : decode cX10_append 38 = .ok (.iconst 1, 1) := by decide +kernel
theorem dX10_append_39 : decode cX10_append 39 = .ok (.iadd, 1) := by decide +kernel
theorem dX10_append_40 : decode cX10_append 40 = .ok (.putfield 15, 3) := by decide +kernel
theorem dX10_append_43 : decode cX10_append 43 = .ok (.iinc 2 (-8), 3) := by decide +kernel
theorem dX10_append_46 : decode cX10_append 46 = .ok (.goto (-43), 3) := by decide +kernel
theorem dX10_append_49 : decode cX10_append 49 = .ok (.return_, 1) := by decide +kernel
theorem dX10_begin_0 : decode cX10_begin 0 = .ok (.aload_n 0, 1) := by decide +kernel
theorem dX10_begin_1 : decode cX10_begin 1 = .ok (.iconst 0, 1) := by decide +kernel
theorem dX10_begin_2 : decode cX10_begin 2 = .ok (.putfield 19, 3) := by decide +kernel
theorem dX10_begin_5 : decode cX10_begin 5 = .ok (.aload_n 0, 1) := by decide +kernel
theorem dX10_begin_6 : decode cX10_begin 6 = .ok (.iconst 0, 1) := by decide +kernel
theorem dX10_begin_7 : decode cX10_begin 7 = .ok (.putfield 22, 3) := by decide +kernel
theorem dX10_begin_10 : decode cX10_begin 10 = .ok (.aload_n 0, 1) := by decide +kernel
theorem dX10_begin_11 : decode cX10_begin 11 = .ok (.invokevirtual 25, 3) := by decide +kernel
theorem dX10_begin_14 : decode cX10_begin 14 = .ok (.return_, 1) := by decide +kernel
theorem dX10_init_0 : decode cX10_init 0 = .ok (.aload_n 0, 1) := by decide +kernel
theorem dX10_init_1 : decode cX10_init 1 = .ok (.invokespecial 3, 3) := by decide +kernel
theorem dX10_init_4 : decode cX10_init 4 = .ok (.aload_n 0, 1) := by decide +kernel
theorem dX10_init_5 : decode cX10_init 5 = .ok (.sipush 1200, 3) := by decide +kernel
theorem dX10_init_8 : decode cX10_init 8 = .ok (.newarray .int, 2) := by decide +kernel
theorem dX10_init_10 : decode cX10_init 10 = .ok (.putfield 9, 3) := by decide +kernel
theorem dX10_init_13 : decode cX10_init 13 = .ok (.return_, 1) := by decide +kernel
theorem dX11_allocate_0 : decode cX11_allocate 0 = .ok (.iload_n 1, 1) := by decide +kernel
theorem dX11_allocate_1 : decode cX11_allocate 1 = .ok (.iconst 3, 1) := by decide +kernel
theorem dX11_allocate_2 : decode cX11_allocate 2 = .ok (.if_icmp .lt 9, 3) := by decide +kernel
theorem dX11_allocate_5 : decode cX11_allocate 5 = .ok (.iload_n 1, 1) := by decide +kernel
theorem dX11_allocate_6 : decode cX11_allocate 6 = .ok (.bipush 8, 2) := by decide +kernel
theorem dX11_allocate_8 : decode cX11_allocate 8 = .ok (.if_icmp .le 14, 3) := by decide +kernel
theorem dX11_allocate_11 : decode cX11_allocate 11 = .ok (.new 100, 3) := by decide +kernel
theorem dX11_allocate_14 : decode cX11_allocate 14 = .ok (.dup, 1) := by decide +kernel
theorem dX11_allocate_15 : decode cX11_allocate 15 = .ok (.ldc_w 260, 3) := by decide +kernel
theorem dX11_allocate_18 : decode cX11_allocate 18 = .ok (.invokespecial 104, 3) := by decide +kernel
theorem dX11_allocate_21 : decode cX11_allocate 21 = .ok (.athrow, 1) := by decide +kernel
theorem dX11_allocate_22 : decode cX11_allocate 22 = .ok (.aload_n 0, 1) := by decide +kernel
theorem dX11_allocate_23 : decode cX11_allocate 23 = .ok (.getfield 61, 3) := by decide +kernel
theorem dX11_allocate_26 : decode cX11_allocate 26 = .ok (.getfield 112, 3) := by decide +kernel
theorem dX11_allocate_29 : decode cX11_allocate 29 = .ok (.ifCond .ne 14, 3) := by decide +kernel
theorem dX11_allocate_32 : decode cX11_allocate 32 = .ok (.new 89, 3) := by decide +kernel
theorem dX11_allocate_35 : decode cX11_allocate 35 = .ok (.dup, 1) := by decide +kernel
theorem dX11_allocate_36 : decode cX11_allocate 36 = .ok (.ldc_w 262, 3) := by decide +kernel
theorem dX11_allocate_39 : decode cX11_allocate 39 = .ok (.invokespecial 93, 3) := by decide +kernel
theorem dX11_allocate_42 : decode cX11_allocate 42 = .ok (.athrow, 1) := by decide +kernel
theorem dX11_blockOf_0 : decode cX11_blockOf 0 = .ok (.aload_n 0, 1) := by decide +kernel
theorem dX11_blockOf_1 : decode cX11_blockOf 1 = .ok (.iload_n 1, 1) := by decide +kernel
theorem dX11_blockOf_2 : decode cX11_blockOf 2 = .ok (.invokevirtual 142, 3) := by decide +kernel
theorem dX11_blocks_0 : decode cX11_blocks 0 = .ok (.aload_n 0, 1) := by decide +kernel
theorem dX11_blocks_1 : decode cX11_blocks 1 = .ok (.iload_n 1, 1) := by decide +kernel
theorem dX11_blocks_2 : decode cX11_blocks 2 = .ok (.invokevirtual 142, 3) := by decide +kernel
theorem dX11_codeGives_0 : decode cX11_codeGives 0 = .ok (.aload_n 0, 1) := by decide +kernel
theorem dX11_codeGives_1 : decode cX11_codeGives 1 = .ok (.iload_n 1, 1) := by decide +kernel
theorem dX11_codeGives_2 : decode cX11_codeGives 2 = .ok (.iload_n 2, 1) := by decide +kernel
theorem dX11_codeGives_3 : decode cX11_codeGives 3 = .ok (.invokevirtual 271, 3) := by decide +kernel
theorem dX11_codeKind_0 : decode cX11_codeKind 0 = .ok (.aload_n 0, 1) := by decide +kernel
theorem dX11_codeKind_1 : decode cX11_codeKind 1 = .ok (.iload_n 1, 1) := by decide +kernel
theorem dX11_codeKind_2 : decode cX11_codeKind 2 = .ok (.iload_n 2, 1) := by decide +kernel
theorem dX11_codeKind_3 : decode cX11_codeKind 3 = .ok (.invokevirtual 271, 3) := by decide +kernel
theorem dX11_codeLeft_0 : decode cX11_codeLeft 0 = .ok (.aload_n 0, 1) := by decide +kernel
theorem dX11_codeLeft_1 : decode cX11_codeLeft 1 = .ok (.iload_n 1, 1) := by decide +kernel
theorem dX11_codeLeft_2 : decode cX11_codeLeft 2 = .ok (.iload_n 2, 1) := by decide +kernel
theorem dX11_codeLeft_3 : decode cX11_codeLeft 3 = .ok (.invokevirtual 271, 3) := by decide +kernel
theorem dX11_codeRight_0 : decode cX11_codeRight 0 = .ok (.aload_n 0, 1) := by decide +kernel
theorem dX11_codeRight_1 : decode cX11_codeRight 1 = .ok (.iload_n 1, 1) := by decide +kernel
theorem dX11_codeRight_2 : decode cX11_codeRight 2 = .ok (.iload_n 2, 1) := by decide +kernel
theorem dX11_codeRight_3 : decode cX11_codeRight 3 = .ok (.invokevirtual 271, 3) := by decide +kernel
theorem dX11_codeWith_0 : decode cX11_codeWith 0 = .ok (.aload_n 0, 1) := by decide +kernel
theorem dX11_codeWith_1 : decode cX11_codeWith 1 = .ok (.iload_n 1, 1) := by decide +kernel
theorem dX11_codeWith_2 : decode cX11_codeWith 2 = .ok (.invokevirtual 142, 3) := by decide +kernel
theorem dX11_depthOf_0 : decode cX11_depthOf 0 = .ok (.aload_n 0, 1) := by decide +kernel
theorem dX11_depthOf_1 : decode cX11_depthOf 1 = .ok (.iload_n 1, 1) := by decide +kernel
theorem dX11_depthOf_2 : decode cX11_depthOf 2 = .ok (.iload_n 2, 1) := by decide +kernel
theorem dX11_depthOf_3 : decode cX11_depthOf 3 = .ok (.invokevirtual 155, 3) := by decide +kernel
theorem dX11_differences_0 : decode cX11_differences 0 = .ok (.aload_n 0, 1) := by decide +kernel
theorem dX11_differences_1 : decode cX11_differences 1 = .ok (.iload_n 1, 1) := by decide +kernel
theorem dX11_differences_2 : decode cX11_differences 2 = .ok (.invokevirtual 142, 3) := by decide +kernel
theorem dX11_digest_0 : decode cX11_digest 0 = .ok (.ldc2_w 321, 3) := by decide +kernel
theorem dX11_digest_3 : decode cX11_digest 3 = .ok (.lstore_n 1, 1) := by decide +kernel
theorem dX11_digest_4 : decode cX11_digest 4 = .ok (.lload_n 1, 1) := by decide +kernel
theorem dX11_digest_5 : decode cX11_digest 5 = .ok (.ldc2_w 323, 3) := by decide +kernel
theorem dX11_digest_8 : decode cX11_digest 8 = .ok (.lmul, 1) := by decide +kernel
theorem dX11_digest_9 : decode cX11_digest 9 = .ok (.aload_n 0, 1) := by decide +kernel
theorem dX11_digest_10 : decode cX11_digest 10 = .ok (.getfield 61, 3) := by decide +kernel
theorem dX11_digest_13 : decode cX11_digest 13 = .ok (.getfield 112, 3) := by decide +kernel
theorem dX11_digest_16 : decode cX11_digest 16 = .ok (.i2l, 1) := by decide +kernel
theorem dX11_digest_17 : decode cX11_digest 17 = .ok (.ladd, 1) := by decide +kernel
theorem dX11_digest_18 : decode cX11_digest 18 = .ok (.lstore_n 1, 1) := by decide +kernel
theorem dX11_digest_19 : decode cX11_digest 19 = .ok (.lload_n 1, 1) := by decide +kernel
theorem dX11_digest_20 : decode cX11_digest 20 = .ok (.ldc2_w 323, 3) := by decide +kernel
theorem dX11_digest_23 : decode cX11_digest 23 = .ok (.lmul, 1) := by decide +kernel
theorem dX11_digest_24 : decode cX11_digest 24 = .ok (.aload_n 0, 1) := by decide +kernel
theorem dX11_digest_25 : decode cX11_digest 25 = .ok (.getfield 82, 3) := by decide +kernel
theorem dX11_digest_28 : decode cX11_digest 28 = .ok (.i2l, 1) := by decide +kernel
theorem dX11_digest_29 : decode cX11_digest 29 = .ok (.ladd, 1) := by decide +kernel
theorem dX11_digest_30 : decode cX11_digest 30 = .ok (.lstore_n 1, 1) := by decide +kernel
theorem dX11_digest_31 : decode cX11_digest 31 = .ok (.lload_n 1, 1) := by decide +kernel
theorem dX11_digest_32 : decode cX11_digest 32 = .ok (.ldc2_w 323, 3) := by decide +kernel
theorem dX11_digest_35 : decode cX11_digest 35 = .ok (.lmul, 1) := by decide +kernel
theorem dX11_digest_36 : decode cX11_digest 36 = .ok (.aload_n 0, 1) := by decide +kernel
theorem dX11_digest_37 : decode cX11_digest 37 = .ok (.getfield 73, 3) := by decide +kernel
theorem dX11_digest_40 : decode cX11_digest 40 = .ok (.getfield 295, 3) := by decide +kernel
theorem dX11_digest_43 : decode cX11_digest 43 = .ok (.i2l, 1) := by decide +kernel
theorem dX11_digest_44 : decode cX11_digest 44 = .ok (.ladd, 1) := by decide +kernel
theorem dX11_digest_45 : decode cX11_digest 45 = .ok (.lstore_n 1, 1) := by decide +kernel
theorem dX11_digest_46 : decode cX11_digest 46 = .ok (.lload_n 1, 1) := by decide +kernel
theorem dX11_digest_47 : decode cX11_digest 47 = .ok (.ldc2_w 323, 3) := by decide +kernel
theorem dX11_digest_50 : decode cX11_digest 50 = .ok (.lmul, 1) := by decide +kernel
theorem dX11_digest_51 : decode cX11_digest 51 = .ok (.aload_n 0, 1) := by decide +kernel
theorem dX11_digest_52 : decode cX11_digest 52 = .ok (.getfield 73, 3) := by decide +kernel
theorem dX11_digest_55 : decode cX11_digest 55 = .ok (.getfield 298, 3) := by decide +kernel
theorem dX11_digest_58 : decode cX11_digest 58 = .ok (.i2l, 1) := by decide +kernel
theorem dX11_digest_59 : decode cX11_digest 59 = .ok (.ladd, 1) := by decide +kernel
theorem dX11_digest_60 : decode cX11_digest 60 = .ok (.lstore_n 1, 1) := by decide +kernel
theorem dX11_digest_61 : decode cX11_digest 61 = .ok (.lload_n 1, 1) := by decide +kernel
theorem dX11_digest_62 : decode cX11_digest 62 = .ok (.ldc2_w 323, 3) := by decide +kernel
theorem dX11_digest_65 : decode cX11_digest 65 = .ok (.lmul, 1) := by decide +kernel
theorem dX11_digest_66 : decode cX11_digest 66 = .ok (.aload_n 0, 1) := by decide +kernel
theorem dX11_digest_67 : decode cX11_digest 67 = .ok (.getfield 73, 3) := by decide +kernel
theorem dX11_digest_70 : decode cX11_digest 70 = .ok (.getfield 301, 3) := by decide +kernel
theorem dX11_digest_73 : decode cX11_digest 73 = .ok (.i2l, 1) := by decide +kernel
theorem dX11_digest_74 : decode cX11_digest 74 = .ok (.ladd, 1) := by decide +kernel
theorem dX11_digest_75 : decode cX11_digest 75 = .ok (.lstore_n 1, 1) := by decide +kernel
theorem dX11_digest_76 : decode cX11_digest 76 = .ok (.iconst 0, 1) := by decide +kernel
theorem dX11_digest_77 : decode cX11_digest 77 = .ok (.istore_n 3, 1) := by decide +kernel
theorem dX11_digest_78 : decode cX11_digest 78 = .ok (.iload_n 3, 1) := by decide +kernel
theorem dX11_digest_79 : decode cX11_digest 79 = .ok (.bipush 16, 2) := by decide +kernel
theorem dX11_digest_81 : decode cX11_digest 81 = .ok (.if_icmp .ge 26, 3) := by decide +kernel
theorem dX11_digest_84 : decode cX11_digest 84 = .ok (.lload_n 1, 1) := by decide +kernel
theorem dX11_digest_85 : decode cX11_digest 85 = .ok (.ldc2_w 323, 3) := by decide +kernel
theorem dX11_digest_88 : decode cX11_digest 88 = .ok (.lmul, 1) := by decide +kernel
theorem dX11_digest_89 : decode cX11_digest 89 = .ok (.aload_n 0, 1) := by decide +kernel
theorem dX11_digest_90 : decode cX11_digest 90 = .ok (.getfield 73, 3) := by decide +kernel
theorem dX11_digest_93 : decode cX11_digest 93 = .ok (.getfield 303, 3) := by decide +kernel
theorem dX11_digest_96 : decode cX11_digest 96 = .ok (.iload_n 3, 1) := by decide +kernel
theorem dX11_digest_97 : decode cX11_digest 97 = .ok (.iaload, 1) := by decide +kernel
theorem dX11_digest_98 : decode cX11_digest 98 = .ok (.i2l, 1) := by decide +kernel
theorem dX11_digest_99 : decode cX11_digest 99 = .ok (.ladd, 1) := by decide +kernel
theorem dX11_digest_100 : decode cX11_digest 100 = .ok (.lstore_n 1, 1) := by decide +kernel
theorem dX11_digest_101 : decode cX11_digest 101 = .ok (.iinc 3 1, 3) := by decide +kernel
theorem dX11_digest_104 : decode cX11_digest 104 = .ok (.goto (-26), 3) := by decide +kernel
theorem dX11_digest_107 : decode cX11_digest 107 = .ok (.iconst 0, 1) := by decide +kernel
theorem dX11_digest_108 : decode cX11_digest 108 = .ok (.istore_n 3, 1) := by decide +kernel
theorem dX11_digest_109 : decode cX11_digest 109 = .ok (.iload_n 3, 1) := by decide +kernel
theorem dX11_digest_110 : decode cX11_digest 110 = .ok (.aload_n 0, 1) := by decide +kernel
theorem dX11_digest_111 : decode cX11_digest 111 = .ok (.getfield 61, 3) := by decide +kernel
theorem dX11_digest_114 : decode cX11_digest 114 = .ok (.getfield 112, 3) := by decide +kernel
theorem dX11_digest_117 : decode cX11_digest 117 = .ok (.if_icmp .ge 16, 3) := by decide +kernel
theorem dX11_digest_133 : decode cX11_digest 133 = .ok (.lload_n 1, 1) := by decide +kernel
theorem dX11_digest_134 : decode cX11_digest 134 = .ok (.lreturn, 1) := by decide +kernel
theorem dX11_dominatorOf_0 : decode cX11_dominatorOf 0 = .ok (.aload_n 0, 1) := by decide +kernel
theorem dX11_dominatorOf_1 : decode cX11_dominatorOf 1 = .ok (.iload_n 1, 1) := by decide +kernel
theorem dX11_dominatorOf_2 : decode cX11_dominatorOf 2 = .ok (.iload_n 2, 1) := by decide +kernel
theorem dX11_dominatorOf_3 : decode cX11_dominatorOf 3 = .ok (.invokevirtual 155, 3) := by decide +kernel
theorem dX11_drop_0 : decode cX11_drop 0 = .ok (.iconst 0, 1) := by decide +kernel
theorem dX11_drop_1 : decode cX11_drop 1 = .ok (.istore_n 1, 1) := by decide +kernel
theorem dX11_drop_2 : decode cX11_drop 2 = .ok (.iconst 0, 1) := by decide +kernel
theorem dX11_drop_3 : decode cX11_drop 3 = .ok (.istore_n 2, 1) := by decide +kernel
theorem dX11_drop_4 : decode cX11_drop 4 = .ok (.iload_n 2, 1) := by decide +kernel
theorem dX11_drop_5 : decode cX11_drop 5 = .ok (.aload_n 0, 1) := by decide +kernel
theorem dX11_drop_6 : decode cX11_drop 6 = .ok (.getfield 61, 3) := by decide +kernel
theorem dX11_drop_9 : decode cX11_drop 9 = .ok (.getfield 112, 3) := by decide +kernel
theorem dX11_drop_12 : decode cX11_drop 12 = .ok (.if_icmp .ge 25, 3) := by decide +kernel
theorem dX11_drop_37 : decode cX11_drop 37 = .ok (.iload_n 1, 1) := by decide +kernel
theorem dX11_drop_38 : decode cX11_drop 38 = .ok (.ireturn, 1) := by decide +kernel
theorem dX11_endOf_0 : decode cX11_endOf 0 = .ok (.aload_n 0, 1) := by decide +kernel
theorem dX11_endOf_1 : decode cX11_endOf 1 = .ok (.iload_n 1, 1) := by decide +kernel
theorem dX11_endOf_2 : decode cX11_endOf 2 = .ok (.iload_n 2, 1) := by decide +kernel
theorem dX11_endOf_3 : decode cX11_endOf 3 = .ok (.invokevirtual 155, 3) := by decide +kernel
theorem dX11_endValue_0 : decode cX11_endValue 0 = .ok (.aload_n 0, 1) := by decide +kernel
theorem dX11_endValue_1 : decode cX11_endValue 1 = .ok (.iload_n 1, 1) := by decide +kernel
theorem dX11_endValue_2 : decode cX11_endValue 2 = .ok (.iload_n 2, 1) := by decide +kernel
theorem dX11_endValue_3 : decode cX11_endValue 3 = .ok (.invokevirtual 155, 3) := by decide +kernel
theorem dX11_errorAt_0 : decode cX11_errorAt 0 = .ok (.aload_n 0, 1) := by decide +kernel
theorem dX11_errorAt_1 : decode cX11_errorAt 1 = .ok (.getfield 82, 3) := by decide +kernel
theorem dX11_errorAt_4 : decode cX11_errorAt 4 = .ok (.ireturn, 1) := by decide +kernel
theorem dX11_feed_0 : decode cX11_feed 0 = .ok (.aload_n 0, 1) := by decide +kernel
theorem dX11_feed_1 : decode cX11_feed 1 = .ok (.getfield 10, 3) := by decide +kernel
theorem dX11_feed_4 : decode cX11_feed 4 = .ok (.getfield 86, 3) := by decide +kernel
theorem dX11_feed_7 : decode cX11_feed 7 = .ok (.bipush 20, 2) := by decide +kernel
theorem dX11_feed_9 : decode cX11_feed 9 = .ok (.iadd, 1) := by decide +kernel
theorem dX11_feed_10 : decode cX11_feed 10 = .ok (.sipush 1200, 3) := by decide +kernel
theorem dX11_feed_13 : decode cX11_feed 13 = .ok (.if_icmp .le 13, 3) := by decide +kernel
theorem dX11_feed_26 : decode cX11_feed 26 = .ok (.aload_n 0, 1) := by decide +kernel
theorem dX11_feed_27 : decode cX11_feed 27 = .ok (.getfield 10, 3) := by decide +kernel
theorem dX11_feed_30 : decode cX11_feed 30 = .ok (.iload_n 1, 1) := by decide +kernel
theorem dX11_feed_31 : decode cX11_feed 31 = .ok (.invokevirtual 96, 3) := by decide +kernel
theorem dX11_feed_34 : decode cX11_feed 34 = .ok (.aload_n 0, 1) := by decide +kernel
theorem dX11_feed_35 : decode cX11_feed 35 = .ok (.getfield 10, 3) := by decide +kernel
theorem dX11_feed_38 : decode cX11_feed 38 = .ok (.iload_n 2, 1) := by decide +kernel
theorem dX11_feed_39 : decode cX11_feed 39 = .ok (.invokevirtual 96, 3) := by decide +kernel
theorem dX11_feed_42 : decode cX11_feed 42 = .ok (.aload_n 0, 1) := by decide +kernel
theorem dX11_feed_43 : decode cX11_feed 43 = .ok (.getfield 10, 3) := by decide +kernel
theorem dX11_feed_46 : decode cX11_feed 46 = .ok (.iload_n 3, 1) := by decide +kernel
theorem dX11_feed_47 : decode cX11_feed 47 = .ok (.invokevirtual 96, 3) := by decide +kernel
theorem dX11_feed_50 : decode cX11_feed 50 = .ok (.aload_n 0, 1) := by decide +kernel
theorem dX11_feed_51 : decode cX11_feed 51 = .ok (.getfield 10, 3) := by decide +kernel
theorem dX11_feed_54 : decode cX11_feed 54 = .ok (.iload 4, 2) := by decide +kernel
theorem dX11_feed_56 : decode cX11_feed 56 = .ok (.invokevirtual 96, 3) := by decide +kernel
theorem dX11_feed_59 : decode cX11_feed 59 = .ok (.aload_n 0, 1) := by decide +kernel
theorem dX11_feed_60 : decode cX11_feed 60 = .ok (.getfield 10, 3) := by decide +kernel
theorem dX11_feed_63 : decode cX11_feed 63 = .ok (.iload 5, 2) := by decide +kernel
theorem dX11_feed_65 : decode cX11_feed 65 = .ok (.invokevirtual 96, 3) := by decide +kernel
theorem dX11_feed_68 : decode cX11_feed 68 = .ok (.aload_n 0, 1) := by decide +kernel
theorem dX11_feed_69 : decode cX11_feed 69 = .ok (.getfield 10, 3) := by decide +kernel
theorem dX11_feed_72 : decode cX11_feed 72 = .ok (.getfield 86, 3) := by decide +kernel
theorem dX11_feed_75 : decode cX11_feed 75 = .ok (.ireturn, 1) := by decide +kernel
theorem dX11_flowWith_0 : decode cX11_flowWith 0 = .ok (.aload_n 0, 1) := by decide +kernel
theorem dX11_flowWith_1 : decode cX11_flowWith 1 = .ok (.iload_n 1, 1) := by decide +kernel
theorem dX11_flowWith_2 : decode cX11_flowWith 2 = .ok (.invokevirtual 142, 3) := by decide +kernel
theorem dX11_fold_0 : decode cX11_fold 0 = .ok (.iconst 0, 1) := by decide +kernel
theorem dX11_fold_1 : decode cX11_fold 1 = .ok (.istore_n 1, 1) := by decide +kernel
theorem dX11_fold_2 : decode cX11_fold 2 = .ok (.iconst 0, 1) := by decide +kernel
theorem dX11_fold_3 : decode cX11_fold 3 = .ok (.istore_n 2, 1) := by decide +kernel
theorem dX11_fold_4 : decode cX11_fold 4 = .ok (.iload_n 2, 1) := by decide +kernel
theorem dX11_fold_5 : decode cX11_fold 5 = .ok (.aload_n 0, 1) := by decide +kernel
theorem dX11_fold_6 : decode cX11_fold 6 = .ok (.getfield 61, 3) := by decide +kernel
theorem dX11_fold_9 : decode cX11_fold 9 = .ok (.getfield 112, 3) := by decide +kernel
theorem dX11_fold_12 : decode cX11_fold 12 = .ok (.if_icmp .ge 25, 3) := by decide +kernel
theorem dX11_fold_37 : decode cX11_fold 37 = .ok (.iload_n 1, 1) := by decide +kernel
theorem dX11_fold_38 : decode cX11_fold 38 = .ok (.ireturn, 1) := by decide +kernel
theorem dX11_functions_0 : decode cX11_functions 0 = .ok (.aload_n 0, 1) := by decide +kernel
theorem dX11_functions_1 : decode cX11_functions 1 = .ok (.getfield 61, 3) := by decide +kernel
theorem dX11_functions_4 : decode cX11_functions 4 = .ok (.getfield 112, 3) := by decide +kernel
theorem dX11_functions_7 : decode cX11_functions 7 = .ok (.ireturn, 1) := by decide +kernel
theorem dX11_gives_0 : decode cX11_gives 0 = .ok (.aload_n 0, 1) := by decide +kernel
theorem dX11_gives_1 : decode cX11_gives 1 = .ok (.iload_n 1, 1) := by decide +kernel
theorem dX11_gives_2 : decode cX11_gives 2 = .ok (.iload_n 2, 1) := by decide +kernel
theorem dX11_gives_3 : decode cX11_gives 3 = .ok (.iload_n 3, 1) := by decide +kernel
theorem dX11_gives_4 : decode cX11_gives 4 = .ok (.invokevirtual 206, 3) := by decide +kernel
theorem dX11_init_0 : decode cX11_init 0 = .ok (.aload_n 0, 1) := by decide +kernel
theorem dX11_init_1 : decode cX11_init 1 = .ok (.invokespecial 1, 3) := by decide +kernel
theorem dX11_init_4 : decode cX11_init 4 = .ok (.aload_n 0, 1) := by decide +kernel
theorem dX11_init_5 : decode cX11_init 5 = .ok (.new 7, 3) := by decide +kernel
theorem dX11_init_8 : decode cX11_init 8 = .ok (.dup, 1) := by decide +kernel
theorem dX11_init_9 : decode cX11_init 9 = .ok (.invokespecial 9, 3) := by decide +kernel
theorem dX11_init_12 : decode cX11_init 12 = .ok (.putfield 10, 3) := by decide +kernel
theorem dX11_init_15 : decode cX11_init 15 = .ok (.aload_n 0, 1) := by decide +kernel
theorem dX11_init_16 : decode cX11_init 16 = .ok (.new 16, 3) := by decide +kernel
theorem dX11_init_19 : decode cX11_init 19 = .ok (.dup, 1) := by decide +kernel
theorem dX11_init_20 : decode cX11_init 20 = .ok (.aload_n 0, 1) := by decide +kernel
theorem dX11_init_21 : decode cX11_init 21 = .ok (.getfield 10, 3) := by decide +kernel
theorem dX11_init_24 : decode cX11_init 24 = .ok (.invokespecial 18, 3) := by decide +kernel
theorem dX11_init_27 : decode cX11_init 27 = .ok (.putfield 21, 3) := by decide +kernel
theorem dX11_init_30 : decode cX11_init 30 = .ok (.aload_n 0, 1) := by decide +kernel
theorem dX11_init_31 : decode cX11_init 31 = .ok (.bipush 6, 2) := by decide +kernel
theorem dX11_init_33 : decode cX11_init 33 = .ok (.anewarray 25, 3) := by decide +kernel
theorem dX11_init_36 : decode cX11_init 36 = .ok (.putfield 27, 3) := by decide +kernel
theorem dX11_init_39 : decode cX11_init 39 = .ok (.iconst 0, 1) := by decide +kernel
theorem dX11_init_40 : decode cX11_init 40 = .ok (.istore_n 1, 1) := by decide +kernel
theorem dX11_init_41 : decode cX11_init 41 = .ok (.iload_n 1, 1) := by decide +kernel
theorem dX11_init_42 : decode cX11_init 42 = .ok (.bipush 6, 2) := by decide +kernel
theorem dX11_init_44 : decode cX11_init 44 = .ok (.if_icmp .ge 22, 3) := by decide +kernel
theorem dX11_init_47 : decode cX11_init 47 = .ok (.aload_n 0, 1) := by decide +kernel
theorem dX11_init_48 : decode cX11_init 48 = .ok (.getfield 27, 3) := by decide +kernel
theorem dX11_init_51 : decode cX11_init 51 = .ok (.iload_n 1, 1) := by decide +kernel
theorem dX11_init_52 : decode cX11_init 52 = .ok (.new 25, 3) := by decide +kernel
theorem dX11_init_55 : decode cX11_init 55 = .ok (.dup, 1) := by decide +kernel
theorem dX11_init_56 : decode cX11_init 56 = .ok (.invokespecial 31, 3) := by decide +kernel
theorem dX11_init_59 : decode cX11_init 59 = .ok (.aastore, 1) := by decide +kernel
theorem dX11_init_60 : decode cX11_init 60 = .ok (.iinc 1 1, 3) := by decide +kernel
theorem dX11_init_63 : decode cX11_init 63 = .ok (.goto (-22), 3) := by decide +kernel
theorem dX11_init_66 : decode cX11_init 66 = .ok (.new 32, 3) := by decide +kernel
theorem dX11_init_69 : decode cX11_init 69 = .ok (.dup, 1) := by decide +kernel
theorem dX11_init_70 : decode cX11_init 70 = .ok (.invokespecial 34, 3) := by decide +kernel
theorem dX11_init_73 : decode cX11_init 73 = .ok (.astore_n 1, 1) := by decide +kernel
theorem dX11_init_74 : decode cX11_init 74 = .ok (.aload_n 0, 1) := by decide +kernel
theorem dX11_init_75 : decode cX11_init 75 = .ok (.new 35, 3) := by decide +kernel
theorem dX11_init_78 : decode cX11_init 78 = .ok (.dup, 1) := by decide +kernel
theorem dX11_init_79 : decode cX11_init 79 = .ok (.aload_n 1, 1) := by decide +kernel
theorem dX11_init_80 : decode cX11_init 80 = .ok (.invokespecial 37, 3) := by decide +kernel
theorem dX11_init_83 : decode cX11_init 83 = .ok (.putfield 40, 3) := by decide +kernel
theorem dX11_init_86 : decode cX11_init 86 = .ok (.aload_n 0, 1) := by decide +kernel
theorem dX11_init_87 : decode cX11_init 87 = .ok (.new 44, 3) := by decide +kernel
theorem dX11_init_90 : decode cX11_init 90 = .ok (.dup, 1) := by decide +kernel
theorem dX11_init_91 : decode cX11_init 91 = .ok (.aload_n 1, 1) := by decide +kernel
theorem dX11_init_92 : decode cX11_init 92 = .ok (.invokespecial 46, 3) := by decide +kernel
theorem dX11_init_95 : decode cX11_init 95 = .ok (.putfield 47, 3) := by decide +kernel
theorem dX11_init_98 : decode cX11_init 98 = .ok (.aload_n 0, 1) := by decide +kernel
theorem dX11_init_99 : decode cX11_init 99 = .ok (.new 51, 3) := by decide +kernel
theorem dX11_init_102 : decode cX11_init 102 = .ok (.dup, 1) := by decide +kernel
theorem dX11_init_103 : decode cX11_init 103 = .ok (.invokespecial 53, 3) := by decide +kernel
theorem dX11_init_106 : decode cX11_init 106 = .ok (.putfield 54, 3) := by decide +kernel
theorem dX11_init_109 : decode cX11_init 109 = .ok (.aload_n 0, 1) := by decide +kernel
theorem dX11_init_110 : decode cX11_init 110 = .ok (.new 58, 3) := by decide +kernel
theorem dX11_init_113 : decode cX11_init 113 = .ok (.dup, 1) := by decide +kernel
theorem dX11_init_114 : decode cX11_init 114 = .ok (.invokespecial 60, 3) := by decide +kernel
theorem dX11_init_117 : decode cX11_init 117 = .ok (.putfield 61, 3) := by decide +kernel
theorem dX11_init_120 : decode cX11_init 120 = .ok (.aload_n 0, 1) := by decide +kernel
theorem dX11_init_121 : decode cX11_init 121 = .ok (.new 58, 3) := by decide +kernel
theorem dX11_init_124 : decode cX11_init 124 = .ok (.dup, 1) := by decide +kernel
theorem dX11_init_125 : decode cX11_init 125 = .ok (.invokespecial 60, 3) := by decide +kernel
theorem dX11_init_128 : decode cX11_init 128 = .ok (.putfield 65, 3) := by decide +kernel
theorem dX11_init_131 : decode cX11_init 131 = .ok (.aload_n 0, 1) := by decide +kernel
theorem dX11_init_132 : decode cX11_init 132 = .ok (.new 68, 3) := by decide +kernel
theorem dX11_init_135 : decode cX11_init 135 = .ok (.dup, 1) := by decide +kernel
theorem dX11_init_136 : decode cX11_init 136 = .ok (.aload_n 0, 1) := by decide +kernel
theorem dX11_init_137 : decode cX11_init 137 = .ok (.getfield 61, 3) := by decide +kernel
theorem dX11_init_140 : decode cX11_init 140 = .ok (.aload_n 0, 1) := by decide +kernel
theorem dX11_init_141 : decode cX11_init 141 = .ok (.getfield 27, 3) := by decide +kernel
theorem dX11_init_144 : decode cX11_init 144 = .ok (.aload_n 0, 1) := by decide +kernel
theorem dX11_init_145 : decode cX11_init 145 = .ok (.getfield 54, 3) := by decide +kernel
theorem dX11_init_148 : decode cX11_init 148 = .ok (.invokespecial 70, 3) := by decide +kernel
theorem dX11_init_151 : decode cX11_init 151 = .ok (.putfield 73, 3) := by decide +kernel
theorem dX11_init_154 : decode cX11_init 154 = .ok (.aload_n 0, 1) := by decide +kernel
theorem dX11_init_155 : decode cX11_init 155 = .ok (.iconst 4, 1) := by decide +kernel
theorem dX11_init_156 : decode cX11_init 156 = .ok (.bipush 19, 2) := by decide +kernel
theorem dX11_init_158 : decode cX11_init 158 = .ok (.multianewarray 77 2, 4) := by decide +kernel
theorem dX11_init_162 : decode cX11_init 162 = .ok (.putfield 79, 3) := by decide +kernel
theorem dX11_init_165 : decode cX11_init 165 = .ok (.aload_n 0, 1) := by decide +kernel
theorem dX11_init_166 : decode cX11_init 166 = .ok (.iconst (-1), 1) := by decide +kernel
theorem dX11_init_167 : decode cX11_init 167 = .ok (.putfield 82, 3) := by decide +kernel
theorem dX11_init_170 : decode cX11_init 170 = .ok (.return_, 1) := by decide +kernel
theorem dX11_kindOf_0 : decode cX11_kindOf 0 = .ok (.aload_n 0, 1) := by decide +kernel
theorem dX11_kindOf_1 : decode cX11_kindOf 1 = .ok (.iload_n 1, 1) := by decide +kernel
theorem dX11_kindOf_2 : decode cX11_kindOf 2 = .ok (.iload_n 2, 1) := by decide +kernel
theorem dX11_kindOf_3 : decode cX11_kindOf 3 = .ok (.iload_n 3, 1) := by decide +kernel
theorem dX11_kindOf_4 : decode cX11_kindOf 4 = .ok (.invokevirtual 206, 3) := by decide +kernel
theorem dX11_leftOf_0 : decode cX11_leftOf 0 = .ok (.aload_n 0, 1) := by decide +kernel
theorem dX11_leftOf_1 : decode cX11_leftOf 1 = .ok (.iload_n 1, 1) := by decide +kernel
theorem dX11_leftOf_2 : decode cX11_leftOf 2 = .ok (.iload_n 2, 1) := by decide +kernel
theorem dX11_leftOf_3 : decode cX11_leftOf 3 = .ok (.iload_n 3, 1) := by decide +kernel
theorem dX11_leftOf_4 : decode cX11_leftOf 4 = .ok (.invokevirtual 206, 3) := by decide +kernel
theorem dX11_lift_0 : decode cX11_lift 0 = .ok (.iconst 0, 1) := by decide +kernel
theorem dX11_lift_1 : decode cX11_lift 1 = .ok (.istore_n 1, 1) := by decide +kernel
theorem dX11_lift_2 : decode cX11_lift 2 = .ok (.iconst 0, 1) := by decide +kernel
theorem dX11_lift_3 : decode cX11_lift 3 = .ok (.istore_n 2, 1) := by decide +kernel
theorem dX11_lift_4 : decode cX11_lift 4 = .ok (.iload_n 2, 1) := by decide +kernel
theorem dX11_lift_5 : decode cX11_lift 5 = .ok (.aload_n 0, 1) := by decide +kernel
theorem dX11_lift_6 : decode cX11_lift 6 = .ok (.getfield 61, 3) := by decide +kernel
theorem dX11_lift_9 : decode cX11_lift 9 = .ok (.getfield 112, 3) := by decide +kernel
theorem dX11_lift_12 : decode cX11_lift 12 = .ok (.if_icmp .ge 25, 3) := by decide +kernel
theorem dX11_lift_37 : decode cX11_lift 37 = .ok (.iload_n 1, 1) := by decide +kernel
theorem dX11_lift_38 : decode cX11_lift 38 = .ok (.ireturn, 1) := by decide +kernel
theorem dX11_lines_0 : decode cX11_lines 0 = .ok (.aload_n 0, 1) := by decide +kernel
theorem dX11_lines_1 : decode cX11_lines 1 = .ok (.iload_n 1, 1) := by decide +kernel
theorem dX11_lines_2 : decode cX11_lines 2 = .ok (.invokevirtual 142, 3) := by decide +kernel
theorem dX11_load_0 : decode cX11_load 0 = .ok (.aload_n 0, 1) := by decide +kernel
theorem dX11_load_1 : decode cX11_load 1 = .ok (.getfield 21, 3) := by decide +kernel
theorem dX11_load_4 : decode cX11_load 4 = .ok (.aload_n 0, 1) := by decide +kernel
theorem dX11_load_5 : decode cX11_load 5 = .ok (.getfield 65, 3) := by decide +kernel
theorem dX11_load_8 : decode cX11_load 8 = .ok (.invokevirtual 105, 3) := by decide +kernel
theorem dX11_load_11 : decode cX11_load 11 = .ok (.istore_n 1, 1) := by decide +kernel
theorem dX11_load_12 : decode cX11_load 12 = .ok (.aload_n 0, 1) := by decide +kernel
theorem dX11_load_13 : decode cX11_load 13 = .ok (.getfield 21, 3) := by decide +kernel
theorem dX11_load_16 : decode cX11_load 16 = .ok (.getfield 109, 3) := by decide +kernel
theorem dX11_load_19 : decode cX11_load 19 = .ok (.istore_n 2, 1) := by decide +kernel
theorem dX11_load_20 : decode cX11_load 20 = .ok (.aload_n 0, 1) := by decide +kernel
theorem dX11_load_21 : decode cX11_load 21 = .ok (.getfield 10, 3) := by decide +kernel
theorem dX11_load_24 : decode cX11_load 24 = .ok (.iconst 0, 1) := by decide +kernel
theorem dX11_load_25 : decode cX11_load 25 = .ok (.putfield 86, 3) := by decide +kernel
theorem dX11_load_28 : decode cX11_load 28 = .ok (.iconst 0, 1) := by decide +kernel
theorem dX11_load_29 : decode cX11_load 29 = .ok (.istore_n 3, 1) := by decide +kernel
theorem dX11_load_30 : decode cX11_load 30 = .ok (.iload_n 1, 1) := by decide +kernel
theorem dX11_load_31 : decode cX11_load 31 = .ok (.ifCond .ne 55, 3) := by decide +kernel
theorem dX11_load_86 : decode cX11_load 86 = .ok (.aload_n 0, 1) := by decide +kernel
theorem dX11_load_87 : decode cX11_load 87 = .ok (.iload_n 1, 1) := by decide +kernel
theorem dX11_load_88 : decode cX11_load 88 = .ok (.ifCond .ne 7, 3) := by decide +kernel
theorem dX11_load_95 : decode cX11_load 95 = .ok (.iload_n 2, 1) := by decide +kernel
theorem dX11_load_96 : decode cX11_load 96 = .ok (.putfield 82, 3) := by decide +kernel
theorem dX11_load_99 : decode cX11_load 99 = .ok (.iload_n 1, 1) := by decide +kernel
theorem dX11_load_100 : decode cX11_load 100 = .ok (.ifCond .ne 37, 3) := by decide +kernel
theorem dX11_load_137 : decode cX11_load 137 = .ok (.iload_n 1, 1) := by decide +kernel
theorem dX11_load_138 : decode cX11_load 138 = .ok (.ireturn, 1) := by decide +kernel
theorem dX11_meanCode_0 : decode cX11_meanCode 0 = .ok (.aload_n 0, 1) := by decide +kernel
theorem dX11_meanCode_1 : decode cX11_meanCode 1 = .ok (.getfield 54, 3) := by decide +kernel
theorem dX11_meanCode_4 : decode cX11_meanCode 4 = .ok (.getfield 138, 3) := by decide +kernel
theorem dX11_meanCode_7 : decode cX11_meanCode 7 = .ok (.ifCond .eq 13, 3) := by decide +kernel
theorem dX11_meanCode_20 : decode cX11_meanCode 20 = .ok (.dconst 0, 1) := by decide +kernel
theorem dX11_meanCode_21 : decode cX11_meanCode 21 = .ok (.dreturn, 1) := by decide +kernel
theorem dX11_merge_0 : decode cX11_merge 0 = .ok (.iconst 0, 1) := by decide +kernel
theorem dX11_merge_1 : decode cX11_merge 1 = .ok (.istore_n 1, 1) := by decide +kernel
theorem dX11_merge_2 : decode cX11_merge 2 = .ok (.iconst 0, 1) := by decide +kernel
theorem dX11_merge_3 : decode cX11_merge 3 = .ok (.istore_n 2, 1) := by decide +kernel
theorem dX11_merge_4 : decode cX11_merge 4 = .ok (.iload_n 2, 1) := by decide +kernel
theorem dX11_merge_5 : decode cX11_merge 5 = .ok (.aload_n 0, 1) := by decide +kernel
theorem dX11_merge_6 : decode cX11_merge 6 = .ok (.getfield 61, 3) := by decide +kernel
theorem dX11_merge_9 : decode cX11_merge 9 = .ok (.getfield 112, 3) := by decide +kernel
theorem dX11_merge_12 : decode cX11_merge 12 = .ok (.if_icmp .ge 25, 3) := by decide +kernel
theorem dX11_merge_37 : decode cX11_merge 37 = .ok (.iload_n 1, 1) := by decide +kernel
theorem dX11_merge_38 : decode cX11_merge 38 = .ok (.ireturn, 1) := by decide +kernel
theorem dX11_needFunction_0 : decode cX11_needFunction 0 = .ok (.iload_n 1, 1) := by decide +kernel
theorem dX11_needFunction_1 : decode cX11_needFunction 1 = .ok (.ifCond .lt 14, 3) := by decide +kernel
theorem dX11_needFunction_4 : decode cX11_needFunction 4 = .ok (.iload_n 1, 1) := by decide +kernel
theorem dX11_needFunction_5 : decode cX11_needFunction 5 = .ok (.aload_n 0, 1) := by decide +kernel
theorem dX11_needFunction_6 : decode cX11_needFunction 6 = .ok (.getfield 61, 3) := by decide +kernel
theorem dX11_needFunction_9 : decode cX11_needFunction 9 = .ok (.getfield 112, 3) := by decide +kernel
theorem dX11_needFunction_12 : decode cX11_needFunction 12 = .ok (.if_icmp .lt 14, 3) := by decide +kernel
theorem dX11_needFunction_15 : decode cX11_needFunction 15 = .ok (.new 329, 3) := by decide +kernel
theorem dX11_needFunction_18 : decode cX11_needFunction 18 = .ok (.dup, 1) := by decide +kernel
theorem dX11_needFunction_19 : decode cX11_needFunction 19 = .ok (.ldc_w 331, 3) := by decide +kernel
theorem dX11_needFunction_22 : decode cX11_needFunction 22 = .ok (.invokespecial 333, 3) := by decide +kernel
theorem dX11_needFunction_25 : decode cX11_needFunction 25 = .ok (.athrow, 1) := by decide +kernel
theorem dX11_needPlace_0 : decode cX11_needPlace 0 = .ok (.iload_n 1, 1) := by decide +kernel
theorem dX11_needPlace_1 : decode cX11_needPlace 1 = .ok (.ifCond .lt 8, 3) := by decide +kernel
theorem dX11_needPlace_4 : decode cX11_needPlace 4 = .ok (.iload_n 1, 1) := by decide +kernel
theorem dX11_needPlace_5 : decode cX11_needPlace 5 = .ok (.iload_n 2, 1) := by decide +kernel
theorem dX11_needPlace_6 : decode cX11_needPlace 6 = .ok (.if_icmp .lt 14, 3) := by decide +kernel
theorem dX11_needPlace_9 : decode cX11_needPlace 9 = .ok (.new 329, 3) := by decide +kernel
theorem dX11_needPlace_12 : decode cX11_needPlace 12 = .ok (.dup, 1) := by decide +kernel
theorem dX11_needPlace_13 : decode cX11_needPlace 13 = .ok (.ldc_w 334, 3) := by decide +kernel
theorem dX11_needPlace_16 : decode cX11_needPlace 16 = .ok (.invokespecial 333, 3) := by decide +kernel
theorem dX11_needPlace_19 : decode cX11_needPlace 19 = .ok (.athrow, 1) := by decide +kernel
theorem dX11_needPlace_20 : decode cX11_needPlace 20 = .ok (.return_, 1) := by decide +kernel
theorem dX11_outcome_0 : decode cX11_outcome 0 = .ok (.aload_n 0, 1) := by decide +kernel
theorem dX11_outcome_1 : decode cX11_outcome 1 = .ok (.getfield 73, 3) := by decide +kernel
theorem dX11_outcome_4 : decode cX11_outcome 4 = .ok (.getfield 295, 3) := by decide +kernel
theorem dX11_outcome_7 : decode cX11_outcome 7 = .ok (.ireturn, 1) := by decide +kernel
theorem dX11_parametersOf_0 : decode cX11_parametersOf 0 = .ok (.aload_n 0, 1) := by decide +kernel
theorem dX11_parametersOf_1 : decode cX11_parametersOf 1 = .ok (.iload_n 1, 1) := by decide +kernel
theorem dX11_parametersOf_2 : decode cX11_parametersOf 2 = .ok (.invokevirtual 142, 3) := by decide +kernel
theorem dX11_phiGives_0 : decode cX11_phiGives 0 = .ok (.aload_n 0, 1) := by decide +kernel
theorem dX11_phiGives_1 : decode cX11_phiGives 1 = .ok (.iload_n 1, 1) := by decide +kernel
theorem dX11_phiGives_2 : decode cX11_phiGives 2 = .ok (.iload_n 2, 1) := by decide +kernel
theorem dX11_phiGives_3 : decode cX11_phiGives 3 = .ok (.invokevirtual 155, 3) := by decide +kernel
theorem dX11_phiTakes_0 : decode cX11_phiTakes 0 = .ok (.aload_n 0, 1) := by decide +kernel
theorem dX11_phiTakes_1 : decode cX11_phiTakes 1 = .ok (.iload_n 1, 1) := by decide +kernel
theorem dX11_phiTakes_2 : decode cX11_phiTakes 2 = .ok (.iload_n 2, 1) := by decide +kernel
theorem dX11_phiTakes_3 : decode cX11_phiTakes 3 = .ok (.invokevirtual 155, 3) := by decide +kernel
theorem dX11_phis_0 : decode cX11_phis 0 = .ok (.aload_n 0, 1) := by decide +kernel
theorem dX11_phis_1 : decode cX11_phis 1 = .ok (.iload_n 1, 1) := by decide +kernel
theorem dX11_phis_2 : decode cX11_phis 2 = .ok (.iload_n 2, 1) := by decide +kernel
theorem dX11_phis_3 : decode cX11_phis 3 = .ok (.invokevirtual 155, 3) := by decide +kernel
theorem dX11_predecessor_0 : decode cX11_predecessor 0 = .ok (.aload_n 0, 1) := by decide +kernel
theorem dX11_predecessor_1 : decode cX11_predecessor 1 = .ok (.iload_n 1, 1) := by decide +kernel
theorem dX11_predecessor_2 : decode cX11_predecessor 2 = .ok (.iload_n 2, 1) := by decide +kernel
theorem dX11_predecessor_3 : decode cX11_predecessor 3 = .ok (.invokevirtual 155, 3) := by decide +kernel
theorem dX11_predecessors_0 : decode cX11_predecessors 0 = .ok (.aload_n 0, 1) := by decide +kernel
theorem dX11_predecessors_1 : decode cX11_predecessors 1 = .ok (.iload_n 1, 1) := by decide +kernel
theorem dX11_predecessors_2 : decode cX11_predecessors 2 = .ok (.iload_n 2, 1) := by decide +kernel
theorem dX11_predecessors_3 : decode cX11_predecessors 3 = .ok (.invokevirtual 155, 3) := by decide +kernel
theorem dX11_restore_0 : decode cX11_restore 0 = .ok (.iconst 0, 1) := by decide +kernel
theorem dX11_restore_1 : decode cX11_restore 1 = .ok (.istore_n 1, 1) := by decide +kernel
theorem dX11_restore_2 : decode cX11_restore 2 = .ok (.iconst 0, 1) := by decide +kernel
theorem dX11_restore_3 : decode cX11_restore 3 = .ok (.istore_n 2, 1) := by decide +kernel
theorem dX11_restore_4 : decode cX11_restore 4 = .ok (.iload_n 2, 1) := by decide +kernel
theorem dX11_restore_5 : decode cX11_restore 5 = .ok (.aload_n 0, 1) := by decide +kernel
theorem dX11_restore_6 : decode cX11_restore 6 = .ok (.getfield 61, 3) := by decide +kernel
theorem dX11_restore_9 : decode cX11_restore 9 = .ok (.getfield 112, 3) := by decide +kernel
theorem dX11_restore_12 : decode cX11_restore 12 = .ok (.if_icmp .ge 40, 3) := by decide +kernel
theorem dX11_restore_52 : decode cX11_restore 52 = .ok (.aload_n 0, 1) := by decide +kernel
theorem dX11_restore_53 : decode cX11_restore 53 = .ok (.getfield 54, 3) := by decide +kernel
theorem dX11_restore_56 : decode cX11_restore 56 = .ok (.iconst 0, 1) := by decide +kernel
theorem dX11_restore_57 : decode cX11_restore 57 = .ok (.putfield 138, 3) := by decide +kernel
theorem dX11_restore_60 : decode cX11_restore 60 = .ok (.iload_n 1, 1) := by decide +kernel
theorem dX11_restore_61 : decode cX11_restore 61 = .ok (.ireturn, 1) := by decide +kernel
theorem dX11_result_0 : decode cX11_result 0 = .ok (.aload_n 0, 1) := by decide +kernel
theorem dX11_result_1 : decode cX11_result 1 = .ok (.getfield 73, 3) := by decide +kernel
theorem dX11_result_4 : decode cX11_result 4 = .ok (.getfield 298, 3) := by decide +kernel
theorem dX11_result_7 : decode cX11_result 7 = .ok (.ireturn, 1) := by decide +kernel
theorem dX11_rightOf_0 : decode cX11_rightOf 0 = .ok (.aload_n 0, 1) := by decide +kernel
theorem dX11_rightOf_1 : decode cX11_rightOf 1 = .ok (.iload_n 1, 1) := by decide +kernel
theorem dX11_rightOf_2 : decode cX11_rightOf 2 = .ok (.iload_n 2, 1) := by decide +kernel
theorem dX11_rightOf_3 : decode cX11_rightOf 3 = .ok (.iload_n 3, 1) := by decide +kernel
theorem dX11_rightOf_4 : decode cX11_rightOf 4 = .ok (.invokevirtual 206, 3) := by decide +kernel
theorem dX11_rounds_0 : decode cX11_rounds 0 = .ok (.aload_n 0, 1) := by decide +kernel
theorem dX11_rounds_1 : decode cX11_rounds 1 = .ok (.iload_n 1, 1) := by decide +kernel
theorem dX11_rounds_2 : decode cX11_rounds 2 = .ok (.invokevirtual 142, 3) := by decide +kernel
theorem dX11_run_0 : decode cX11_run 0 = .ok (.aload_n 0, 1) := by decide +kernel
theorem dX11_run_1 : decode cX11_run 1 = .ok (.iload_n 2, 1) := by decide +kernel
theorem dX11_run_2 : decode cX11_run 2 = .ok (.invokevirtual 142, 3) := by decide +kernel
theorem dX11_same_0 : decode cX11_same 0 = .ok (.iconst 0, 1) := by decide +kernel
theorem dX11_same_1 : decode cX11_same 1 = .ok (.istore_n 1, 1) := by decide +kernel
theorem dX11_same_2 : decode cX11_same 2 = .ok (.iconst 0, 1) := by decide +kernel
theorem dX11_same_3 : decode cX11_same 3 = .ok (.istore_n 2, 1) := by decide +kernel
theorem dX11_same_4 : decode cX11_same 4 = .ok (.iload_n 2, 1) := by decide +kernel
theorem dX11_same_5 : decode cX11_same 5 = .ok (.aload_n 0, 1) := by decide +kernel
theorem dX11_same_6 : decode cX11_same 6 = .ok (.getfield 61, 3) := by decide +kernel
theorem dX11_same_9 : decode cX11_same 9 = .ok (.getfield 112, 3) := by decide +kernel
theorem dX11_same_12 : decode cX11_same 12 = .ok (.if_icmp .ge 25, 3) := by decide +kernel
theorem dX11_same_37 : decode cX11_same 37 = .ok (.iload_n 1, 1) := by decide +kernel
theorem dX11_same_38 : decode cX11_same 38 = .ok (.ireturn, 1) := by decide +kernel
theorem dX11_settle_0 : decode cX11_settle 0 = .ok (.iconst 0, 1) := by decide +kernel
theorem dX11_settle_1 : decode cX11_settle 1 = .ok (.istore_n 1, 1) := by decide +kernel
theorem dX11_settle_2 : decode cX11_settle 2 = .ok (.iconst 1, 1) := by decide +kernel
theorem dX11_settle_3 : decode cX11_settle 3 = .ok (.istore_n 2, 1) := by decide +kernel
theorem dX11_settle_4 : decode cX11_settle 4 = .ok (.iconst 0, 1) := by decide +kernel
theorem dX11_settle_5 : decode cX11_settle 5 = .ok (.istore_n 3, 1) := by decide +kernel
theorem dX11_settle_6 : decode cX11_settle 6 = .ok (.iload_n 2, 1) := by decide +kernel
theorem dX11_settle_7 : decode cX11_settle 7 = .ok (.ifCond .eq 71, 3) := by decide +kernel
theorem dX11_settle_10 : decode cX11_settle 10 = .ok (.iload_n 3, 1) := by decide +kernel
theorem dX11_settle_11 : decode cX11_settle 11 = .ok (.ldc 244, 2) := by decide +kernel
theorem dX11_settle_13 : decode cX11_settle 13 = .ok (.if_icmp .ge 65, 3) := by decide +kernel
theorem dX11_settle_16 : decode cX11_settle 16 = .ok (.aload_n 0, 1) := by decide +kernel
theorem dX11_settle_17 : decode cX11_settle 17 = .ok (.invokevirtual 245, 3) := by decide +kernel
theorem dX11_settle_20 : decode cX11_settle 20 = .ok (.istore 4, 2) := by decide +kernel
theorem dX11_settle_22 : decode cX11_settle 22 = .ok (.iload 4, 2) := by decide +kernel
theorem dX11_settle_24 : decode cX11_settle 24 = .ok (.aload_n 0, 1) := by decide +kernel
theorem dX11_settle_25 : decode cX11_settle 25 = .ok (.invokevirtual 248, 3) := by decide +kernel
theorem dX11_settle_28 : decode cX11_settle 28 = .ok (.iadd, 1) := by decide +kernel
theorem dX11_settle_29 : decode cX11_settle 29 = .ok (.istore 4, 2) := by decide +kernel
theorem dX11_settle_31 : decode cX11_settle 31 = .ok (.iload 4, 2) := by decide +kernel
theorem dX11_settle_33 : decode cX11_settle 33 = .ok (.aload_n 0, 1) := by decide +kernel
theorem dX11_settle_34 : decode cX11_settle 34 = .ok (.invokevirtual 251, 3) := by decide +kernel
theorem dX11_settle_37 : decode cX11_settle 37 = .ok (.iadd, 1) := by decide +kernel
theorem dX11_settle_38 : decode cX11_settle 38 = .ok (.istore 4, 2) := by decide +kernel
theorem dX11_settle_40 : decode cX11_settle 40 = .ok (.iload 4, 2) := by decide +kernel
theorem dX11_settle_42 : decode cX11_settle 42 = .ok (.aload_n 0, 1) := by decide +kernel
theorem dX11_settle_43 : decode cX11_settle 43 = .ok (.invokevirtual 254, 3) := by decide +kernel
theorem dX11_settle_46 : decode cX11_settle 46 = .ok (.iadd, 1) := by decide +kernel
theorem dX11_settle_47 : decode cX11_settle 47 = .ok (.istore 4, 2) := by decide +kernel
theorem dX11_settle_49 : decode cX11_settle 49 = .ok (.iload 4, 2) := by decide +kernel
theorem dX11_settle_51 : decode cX11_settle 51 = .ok (.aload_n 0, 1) := by decide +kernel
theorem dX11_settle_52 : decode cX11_settle 52 = .ok (.invokevirtual 257, 3) := by decide +kernel
theorem dX11_settle_55 : decode cX11_settle 55 = .ok (.iadd, 1) := by decide +kernel
theorem dX11_settle_56 : decode cX11_settle 56 = .ok (.istore 4, 2) := by decide +kernel
theorem dX11_settle_58 : decode cX11_settle 58 = .ok (.iload 4, 2) := by decide +kernel
theorem dX11_settle_60 : decode cX11_settle 60 = .ok (.ifCond .le 7, 3) := by decide +kernel
theorem dX11_settle_67 : decode cX11_settle 67 = .ok (.iconst 0, 1) := by decide +kernel
theorem dX11_settle_68 : decode cX11_settle 68 = .ok (.istore_n 2, 1) := by decide +kernel
theorem dX11_settle_69 : decode cX11_settle 69 = .ok (.iinc 1 1, 3) := by decide +kernel
theorem dX11_settle_72 : decode cX11_settle 72 = .ok (.iinc 3 1, 3) := by decide +kernel
theorem dX11_settle_75 : decode cX11_settle 75 = .ok (.goto (-69), 3) := by decide +kernel
theorem dX11_settle_78 : decode cX11_settle 78 = .ok (.iload_n 1, 1) := by decide +kernel
theorem dX11_settle_79 : decode cX11_settle 79 = .ok (.ireturn, 1) := by decide +kernel
theorem dX11_slots_0 : decode cX11_slots 0 = .ok (.aload_n 0, 1) := by decide +kernel
theorem dX11_slots_1 : decode cX11_slots 1 = .ok (.iload_n 1, 1) := by decide +kernel
theorem dX11_slots_2 : decode cX11_slots 2 = .ok (.invokevirtual 142, 3) := by decide +kernel
theorem dX11_stepAt_0 : decode cX11_stepAt 0 = .ok (.aload_n 0, 1) := by decide +kernel
theorem dX11_stepAt_1 : decode cX11_stepAt 1 = .ok (.iload_n 1, 1) := by decide +kernel
theorem dX11_stepAt_2 : decode cX11_stepAt 2 = .ok (.iload_n 2, 1) := by decide +kernel
theorem dX11_stepAt_3 : decode cX11_stepAt 3 = .ok (.invokevirtual 155, 3) := by decide +kernel
theorem dX11_steps_0 : decode cX11_steps 0 = .ok (.aload_n 0, 1) := by decide +kernel
theorem dX11_steps_1 : decode cX11_steps 1 = .ok (.iload_n 1, 1) := by decide +kernel
theorem dX11_steps_2 : decode cX11_steps 2 = .ok (.iload_n 2, 1) := by decide +kernel
theorem dX11_steps_3 : decode cX11_steps 3 = .ok (.invokevirtual 155, 3) := by decide +kernel
theorem dX11_stepsRun_0 : decode cX11_stepsRun 0 = .ok (.aload_n 0, 1) := by decide +kernel
theorem dX11_stepsRun_1 : decode cX11_stepsRun 1 = .ok (.getfield 73, 3) := by decide +kernel
theorem dX11_stepsRun_4 : decode cX11_stepsRun 4 = .ok (.getfield 301, 3) := by decide +kernel
theorem dX11_stepsRun_7 : decode cX11_stepsRun 7 = .ok (.ireturn, 1) := by decide +kernel
theorem dX11_successor_0 : decode cX11_successor 0 = .ok (.aload_n 0, 1) := by decide +kernel
theorem dX11_successor_1 : decode cX11_successor 1 = .ok (.iload_n 1, 1) := by decide +kernel
theorem dX11_successor_2 : decode cX11_successor 2 = .ok (.iload_n 2, 1) := by decide +kernel
theorem dX11_successor_3 : decode cX11_successor 3 = .ok (.invokevirtual 155, 3) := by decide +kernel
theorem dX11_trim_0 : decode cX11_trim 0 = .ok (.iload_n 1, 1) := by decide +kernel
theorem dX11_trim_1 : decode cX11_trim 1 = .ok (.ifCond .lt 14, 3) := by decide +kernel
theorem dX11_trim_4 : decode cX11_trim 4 = .ok (.iload_n 1, 1) := by decide +kernel
theorem dX11_trim_5 : decode cX11_trim 5 = .ok (.aload_n 0, 1) := by decide +kernel
theorem dX11_trim_6 : decode cX11_trim 6 = .ok (.getfield 10, 3) := by decide +kernel
theorem dX11_trim_9 : decode cX11_trim 9 = .ok (.getfield 86, 3) := by decide +kernel
theorem dX11_trim_12 : decode cX11_trim 12 = .ok (.if_icmp .le 13, 3) := by decide +kernel
theorem dX11_trim_15 : decode cX11_trim 15 = .ok (.new 100, 3) := by decide +kernel
theorem dX11_trim_18 : decode cX11_trim 18 = .ok (.dup, 1) := by decide +kernel
theorem dX11_trim_19 : decode cX11_trim 19 = .ok (.ldc 102, 2) := by decide +kernel
theorem dX11_trim_21 : decode cX11_trim 21 = .ok (.invokespecial 104, 3) := by decide +kernel
theorem dX11_trim_24 : decode cX11_trim 24 = .ok (.athrow, 1) := by decide +kernel
theorem dX11_trim_25 : decode cX11_trim 25 = .ok (.aload_n 0, 1) := by decide +kernel
theorem dX11_trim_26 : decode cX11_trim 26 = .ok (.getfield 10, 3) := by decide +kernel
theorem dX11_trim_29 : decode cX11_trim 29 = .ok (.iload_n 1, 1) := by decide +kernel
theorem dX11_trim_30 : decode cX11_trim 30 = .ok (.putfield 86, 3) := by decide +kernel
theorem dX11_trim_33 : decode cX11_trim 33 = .ok (.iload_n 1, 1) := by decide +kernel
theorem dX11_trim_34 : decode cX11_trim 34 = .ok (.ireturn, 1) := by decide +kernel
theorem dX11_united_0 : decode cX11_united 0 = .ok (.aload_n 0, 1) := by decide +kernel
theorem dX11_united_1 : decode cX11_united 1 = .ok (.iload_n 1, 1) := by decide +kernel
theorem dX11_united_2 : decode cX11_united 2 = .ok (.invokevirtual 142, 3) := by decide +kernel
theorem dX11_values_0 : decode cX11_values 0 = .ok (.aload_n 0, 1) := by decide +kernel
theorem dX11_values_1 : decode cX11_values 1 = .ok (.iload_n 1, 1) := by decide +kernel
theorem dX11_values_2 : decode cX11_values 2 = .ok (.invokevirtual 142, 3) := by decide +kernel
theorem dX11_word_0 : decode cX11_word 0 = .ok (.aload_n 0, 1) := by decide +kernel
theorem dX11_word_1 : decode cX11_word 1 = .ok (.iload_n 1, 1) := by decide +kernel
theorem dX11_word_2 : decode cX11_word 2 = .ok (.bipush 16, 2) := by decide +kernel
theorem dX11_word_4 : decode cX11_word 4 = .ok (.invokevirtual 168, 3) := by decide +kernel
theorem dX11_word_7 : decode cX11_word 7 = .ok (.aload_n 0, 1) := by decide +kernel
theorem dX11_word_8 : decode cX11_word 8 = .ok (.getfield 73, 3) := by decide +kernel
theorem dX11_word_11 : decode cX11_word 11 = .ok (.getfield 303, 3) := by decide +kernel
theorem dX11_word_14 : decode cX11_word 14 = .ok (.iload_n 1, 1) := by decide +kernel
theorem dX11_word_15 : decode cX11_word 15 = .ok (.iaload, 1) := by decide +kernel
theorem dX11_word_16 : decode cX11_word 16 = .ok (.ireturn, 1) := by decide +kernel
theorem dX1_init_0 : decode cX1_init 0 = .ok (.aload_n 0, 1) := by decide +kernel
theorem dX1_init_1 : decode cX1_init 1 = .ok (.invokespecial 3, 3) := by decide +kernel
theorem dX1_init_4 : decode cX1_init 4 = .ok (.aload_n 0, 1) := by decide +kernel
theorem dX1_init_5 : decode cX1_init 5 = .ok (.new 9, 3) := by decide +kernel
theorem dX1_init_8 : decode cX1_init 8 = .ok (.dup, 1) := by decide +kernel
theorem dX1_init_9 : decode cX1_init 9 = .ok (.sipush 256, 3) := by decide +kernel
theorem dX1_init_12 : decode cX1_init 12 = .ok (.invokespecial 13, 3) := by decide +kernel
theorem dX1_init_15 : decode cX1_init 15 = .ok (.putfield 16, 3) := by decide +kernel
theorem dX1_init_18 : decode cX1_init 18 = .ok (.aload_n 0, 1) := by decide +kernel
theorem dX1_init_19 : decode cX1_init 19 = .ok (.bipush 60, 2) := by decide +kernel
theorem dX1_init_21 : decode cX1_init 21 = .ok (.newarray .int, 2) := by decide +kernel
theorem dX1_init_23 : decode cX1_init 23 = .ok (.putfield 20, 3) := by decide +kernel
theorem dX1_init_26 : decode cX1_init 26 = .ok (.aload_n 0, 1) := by decide +kernel
theorem dX1_init_27 : decode cX1_init 27 = .ok (.bipush 60, 2) := by decide +kernel
theorem dX1_init_29 : decode cX1_init 29 = .ok (.newarray .int, 2) := by decide +kernel
theorem dX1_init_31 : decode cX1_init 31 = .ok (.putfield 24, 3) := by decide +kernel
theorem dX1_init_34 : decode cX1_init 34 = .ok (.aload_n 0, 1) := by decide +kernel
theorem dX1_init_35 : decode cX1_init 35 = .ok (.bipush 60, 2) := by decide +kernel
theorem dX1_init_37 : decode cX1_init 37 = .ok (.newarray .int, 2) := by decide +kernel
theorem dX1_init_39 : decode cX1_init 39 = .ok (.putfield 27, 3) := by decide +kernel
theorem dX1_init_42 : decode cX1_init 42 = .ok (.aload_n 0, 1) := by decide +kernel
theorem dX1_init_43 : decode cX1_init 43 = .ok (.bipush 60, 2) := by decide +kernel
theorem dX1_init_45 : decode cX1_init 45 = .ok (.newarray .int, 2) := by decide +kernel
theorem dX1_init_47 : decode cX1_init 47 = .ok (.putfield 30, 3) := by decide +kernel
theorem dX1_init_50 : decode cX1_init 50 = .ok (.aload_n 0, 1) := by decide +kernel
theorem dX1_init_51 : decode cX1_init 51 = .ok (.bipush 60, 2) := by decide +kernel
theorem dX1_init_53 : decode cX1_init 53 = .ok (.newarray .int, 2) := by decide +kernel
theorem dX1_init_55 : decode cX1_init 55 = .ok (.putfield 33, 3) := by decide +kernel
theorem dX1_init_58 : decode cX1_init 58 = .ok (.aload_n 0, 1) := by decide +kernel
theorem dX1_init_59 : decode cX1_init 59 = .ok (.bipush 60, 2) := by decide +kernel
theorem dX1_init_61 : decode cX1_init 61 = .ok (.newarray .int, 2) := by decide +kernel
theorem dX1_init_63 : decode cX1_init 63 = .ok (.putfield 36, 3) := by decide +kernel
theorem dX1_init_66 : decode cX1_init 66 = .ok (.aload_n 0, 1) := by decide +kernel
theorem dX1_init_67 : decode cX1_init 67 = .ok (.bipush 60, 2) := by decide +kernel
theorem dX1_init_69 : decode cX1_init 69 = .ok (.newarray .int, 2) := by decide +kernel
theorem dX1_init_71 : decode cX1_init 71 = .ok (.putfield 39, 3) := by decide +kernel
theorem dX1_init_74 : decode cX1_init 74 = .ok (.aload_n 0, 1) := by decide +kernel
theorem dX1_init_75 : decode cX1_init 75 = .ok (.bipush 60, 2) := by decide +kernel
theorem dX1_init_77 : decode cX1_init 77 = .ok (.newarray .int, 2) := by decide +kernel
theorem dX1_init_79 : decode cX1_init 79 = .ok (.putfield 42, 3) := by decide +kernel
theorem dX1_init_82 : decode cX1_init 82 = .ok (.aload_n 0, 1) := by decide +kernel
theorem dX1_init_83 : decode cX1_init 83 = .ok (.bipush 60, 2) := by decide +kernel
theorem dX1_init_85 : decode cX1_init 85 = .ok (.newarray .int, 2) := by decide +kernel
theorem dX1_init_87 : decode cX1_init 87 = .ok (.putfield 45, 3) := by decide +kernel
theorem dX1_init_90 : decode cX1_init 90 = .ok (.aload_n 0, 1) := by decide +kernel
theorem dX1_init_91 : decode cX1_init 91 = .ok (.bipush 60, 2) := by decide +kernel
theorem dX1_init_93 : decode cX1_init 93 = .ok (.newarray .int, 2) := by decide +kernel
theorem dX1_init_95 : decode cX1_init 95 = .ok (.putfield 48, 3) := by decide +kernel
theorem dX1_init_98 : decode cX1_init 98 = .ok (.aload_n 0, 1) := by decide +kernel
theorem dX1_init_99 : decode cX1_init 99 = .ok (.bipush 61, 2) := by decide +kernel
theorem dX1_init_101 : decode cX1_init 101 = .ok (.newarray .int, 2) := by decide +kernel
theorem dX1_init_103 : decode cX1_init 103 = .ok (.putfield 51, 3) := by decide +kernel
theorem dX1_init_106 : decode cX1_init 106 = .ok (.aload_n 0, 1) := by decide +kernel
theorem dX1_init_107 : decode cX1_init 107 = .ok (.bipush 120, 2) := by decide +kernel
theorem dX1_init_109 : decode cX1_init 109 = .ok (.newarray .int, 2) := by decide +kernel
theorem dX1_init_111 : decode cX1_init 111 = .ok (.putfield 54, 3) := by decide +kernel
theorem dX1_init_114 : decode cX1_init 114 = .ok (.aload_n 0, 1) := by decide +kernel
theorem dX1_init_115 : decode cX1_init 115 = .ok (.bipush 60, 2) := by decide +kernel
theorem dX1_init_117 : decode cX1_init 117 = .ok (.newarray .long, 2) := by decide +kernel
theorem dX1_init_119 : decode cX1_init 119 = .ok (.putfield 57, 3) := by decide +kernel
theorem dX1_init_122 : decode cX1_init 122 = .ok (.aload_n 0, 1) := by decide +kernel
theorem dX1_init_123 : decode cX1_init 123 = .ok (.bipush 60, 2) := by decide +kernel
theorem dX1_init_125 : decode cX1_init 125 = .ok (.newarray .long, 2) := by decide +kernel
theorem dX1_init_127 : decode cX1_init 127 = .ok (.putfield 61, 3) := by decide +kernel
theorem dX1_init_130 : decode cX1_init 130 = .ok (.aload_n 0, 1) := by decide +kernel
theorem dX1_init_131 : decode cX1_init 131 = .ok (.bipush 32, 2) := by decide +kernel
theorem dX1_init_133 : decode cX1_init 133 = .ok (.newarray .int, 2) := by decide +kernel
theorem dX1_init_135 : decode cX1_init 135 = .ok (.putfield 64, 3) := by decide +kernel
theorem dX1_init_138 : decode cX1_init 138 = .ok (.aload_n 0, 1) := by decide +kernel
theorem dX1_init_139 : decode cX1_init 139 = .ok (.bipush 32, 2) := by decide +kernel
theorem dX1_init_141 : decode cX1_init 141 = .ok (.newarray .int, 2) := by decide +kernel
theorem dX1_init_143 : decode cX1_init 143 = .ok (.putfield 67, 3) := by decide +kernel
theorem dX1_init_146 : decode cX1_init 146 = .ok (.aload_n 0, 1) := by decide +kernel
theorem dX1_init_147 : decode cX1_init 147 = .ok (.sipush 1920, 3) := by decide +kernel
theorem dX1_init_150 : decode cX1_init 150 = .ok (.newarray .int, 2) := by decide +kernel
theorem dX1_init_152 : decode cX1_init 152 = .ok (.putfield 70, 3) := by decide +kernel
theorem dX1_init_155 : decode cX1_init 155 = .ok (.return_, 1) := by decide +kernel
theorem dX20_init_0 : decode cX20_init 0 = .ok (.aload_n 0, 1) := by decide +kernel
theorem dX20_init_1 : decode cX20_init 1 = .ok (.invokespecial 1, 3) := by decide +kernel
theorem dX20_init_4 : decode cX20_init 4 = .ok (.aload_n 0, 1) := by decide +kernel
theorem dX20_init_5 : decode cX20_init 5 = .ok (.bipush 8, 2) := by decide +kernel
theorem dX20_init_7 : decode cX20_init 7 = .ok (.newarray .int, 2) := by decide +kernel
theorem dX20_init_9 : decode cX20_init 9 = .ok (.putfield 7, 3) := by decide +kernel
theorem dX20_init_12 : decode cX20_init 12 = .ok (.return_, 1) := by decide +kernel
theorem dX21_init_0 : decode cX21_init 0 = .ok (.aload_n 0, 1) := by decide +kernel
theorem dX21_init_1 : decode cX21_init 1 = .ok (.invokespecial 3, 3) := by decide +kernel
theorem dX21_init_4 : decode cX21_init 4 = .ok (.aload_n 0, 1) := by decide +kernel
theorem dX21_init_5 : decode cX21_init 5 = .ok (.bipush 16, 2) := by decide +kernel
theorem dX21_init_7 : decode cX21_init 7 = .ok (.newarray .int, 2) := by decide +kernel
theorem dX21_init_9 : decode cX21_init 9 = .ok (.putfield 9, 3) := by decide +kernel
theorem dX21_init_12 : decode cX21_init 12 = .ok (.aload_n 0, 1) := by decide +kernel
theorem dX21_init_13 : decode cX21_init 13 = .ok (.iconst 0, 1) := by decide +kernel
theorem dX21_init_14 : decode cX21_init 14 = .ok (.anewarray 15, 3) := by decide +kernel
theorem dX21_init_17 : decode cX21_init 17 = .ok (.putfield 17, 3) := by decide +kernel
theorem dX21_init_20 : decode cX21_init 20 = .ok (.aload_n 0, 1) := by decide +kernel
theorem dX21_init_21 : decode cX21_init 21 = .ok (.iconst 0, 1) := by decide +kernel
theorem dX21_init_22 : decode cX21_init 22 = .ok (.anewarray 21, 3) := by decide +kernel
theorem dX21_init_25 : decode cX21_init 25 = .ok (.putfield 23, 3) := by decide +kernel
theorem dX21_init_28 : decode cX21_init 28 = .ok (.aload_n 0, 1) := by decide +kernel
theorem dX21_init_29 : decode cX21_init 29 = .ok (.new 27, 3) := by decide +kernel
theorem dX21_init_32 : decode cX21_init 32 = .ok (.dup, 1) := by decide +kernel
theorem dX21_init_33 : decode cX21_init 33 = .ok (.invokespecial 29, 3) := by decide +kernel
theorem dX21_init_36 : decode cX21_init 36 = .ok (.putfield 30, 3) := by decide +kernel
theorem dX21_init_39 : decode cX21_init 39 = .ok (.aload_n 0, 1) := by decide +kernel
theorem dX21_init_40 : decode cX21_init 40 = .ok (.new 27, 3) := by decide +kernel
theorem dX21_init_43 : decode cX21_init 43 = .ok (.dup, 1) := by decide +kernel
theorem dX21_init_44 : decode cX21_init 44 = .ok (.invokespecial 29, 3) := by decide +kernel
theorem dX21_init_47 : decode cX21_init 47 = .ok (.putfield 34, 3) := by decide +kernel
theorem dX21_init_50 : decode cX21_init 50 = .ok (.aload_n 0, 1) := by decide +kernel
theorem dX21_init_51 : decode cX21_init 51 = .ok (.new 27, 3) := by decide +kernel
theorem dX21_init_54 : decode cX21_init 54 = .ok (.dup, 1) := by decide +kernel
theorem dX21_init_55 : decode cX21_init 55 = .ok (.invokespecial 29, 3) := by decide +kernel
theorem dX21_init_58 : decode cX21_init 58 = .ok (.putfield 37, 3) := by decide +kernel
theorem dX21_init_61 : decode cX21_init 61 = .ok (.aload_n 0, 1) := by decide +kernel
theorem dX21_init_62 : decode cX21_init 62 = .ok (.bipush 8, 2) := by decide +kernel
theorem dX21_init_64 : decode cX21_init 64 = .ok (.anewarray 40, 3) := by decide +kernel
theorem dX21_init_67 : decode cX21_init 67 = .ok (.putfield 41, 3) := by decide +kernel
theorem dX21_init_70 : decode cX21_init 70 = .ok (.aload_n 0, 1) := by decide +kernel
theorem dX21_init_71 : decode cX21_init 71 = .ok (.bipush 8, 2) := by decide +kernel
theorem dX21_init_73 : decode cX21_init 73 = .ok (.newarray .int, 2) := by decide +kernel
theorem dX21_init_75 : decode cX21_init 75 = .ok (.putfield 45, 3) := by decide +kernel
theorem dX21_init_78 : decode cX21_init 78 = .ok (.aload_n 0, 1) := by decide +kernel
theorem dX21_init_79 : decode cX21_init 79 = .ok (.bipush 8, 2) := by decide +kernel
theorem dX21_init_81 : decode cX21_init 81 = .ok (.newarray .int, 2) := by decide +kernel
theorem dX21_init_83 : decode cX21_init 83 = .ok (.putfield 48, 3) := by decide +kernel
theorem dX21_init_86 : decode cX21_init 86 = .ok (.aload_n 0, 1) := by decide +kernel
theorem dX21_init_87 : decode cX21_init 87 = .ok (.bipush 8, 2) := by decide +kernel
theorem dX21_init_89 : decode cX21_init 89 = .ok (.anewarray 51, 3) := by decide +kernel
theorem dX21_init_92 : decode cX21_init 92 = .ok (.putfield 53, 3) := by decide +kernel
theorem dX21_init_95 : decode cX21_init 95 = .ok (.aload_n 0, 1) := by decide +kernel
theorem dX21_init_96 : decode cX21_init 96 = .ok (.new 27, 3) := by decide +kernel
theorem dX21_init_99 : decode cX21_init 99 = .ok (.dup, 1) := by decide +kernel
theorem dX21_init_100 : decode cX21_init 100 = .ok (.invokespecial 29, 3) := by decide +kernel
theorem dX21_init_103 : decode cX21_init 103 = .ok (.putfield 57, 3) := by decide +kernel
theorem dX21_init_106 : decode cX21_init 106 = .ok (.aload_n 0, 1) := by decide +kernel
theorem dX21_init_107 : decode cX21_init 107 = .ok (.bipush 16, 2) := by decide +kernel
theorem dX21_init_109 : decode cX21_init 109 = .ok (.newarray .int, 2) := by decide +kernel
theorem dX21_init_111 : decode cX21_init 111 = .ok (.putfield 60, 3) := by decide +kernel
theorem dX21_init_114 : decode cX21_init 114 = .ok (.return_, 1) := by decide +kernel
theorem dX22_init_0 : decode cX22_init 0 = .ok (.aload_n 0, 1) := by decide +kernel
theorem dX22_init_1 : decode cX22_init 1 = .ok (.invokespecial 3, 3) := by decide +kernel
theorem dX22_init_4 : decode cX22_init 4 = .ok (.aload_n 0, 1) := by decide +kernel
theorem dX22_init_5 : decode cX22_init 5 = .ok (.iconst 1, 1) := by decide +kernel
theorem dX22_init_6 : decode cX22_init 6 = .ok (.putfield 9, 3) := by decide +kernel
theorem dX22_init_9 : decode cX22_init 9 = .ok (.aload_n 0, 1) := by decide +kernel
theorem dX22_init_10 : decode cX22_init 10 = .ok (.sipush 2000, 3) := by decide +kernel
theorem dX22_init_13 : decode cX22_init 13 = .ok (.newarray .int, 2) := by decide +kernel
theorem dX22_init_15 : decode cX22_init 15 = .ok (.putfield 15, 3) := by decide +kernel
theorem dX22_init_18 : decode cX22_init 18 = .ok (.aload_n 0, 1) := by decide +kernel
theorem dX22_init_19 : decode cX22_init 19 = .ok (.sipush 2000, 3) := by decide +kernel
theorem dX22_init_22 : decode cX22_init 22 = .ok (.newarray .int, 2) := by decide +kernel
theorem dX22_init_24 : decode cX22_init 24 = .ok (.putfield 19, 3) := by decide +kernel
theorem dX22_init_27 : decode cX22_init 27 = .ok (.aload_n 0, 1) := by decide +kernel
theorem dX22_init_28 : decode cX22_init 28 = .ok (.sipush 2000, 3) := by decide +kernel
theorem dX22_init_31 : decode cX22_init 31 = .ok (.newarray .int, 2) := by decide +kernel
theorem dX22_init_33 : decode cX22_init 33 = .ok (.putfield 22, 3) := by decide +kernel
theorem dX22_init_36 : decode cX22_init 36 = .ok (.aload_n 0, 1) := by decide +kernel
theorem dX22_init_37 : decode cX22_init 37 = .ok (.sipush 2000, 3) := by decide +kernel
theorem dX22_init_40 : decode cX22_init 40 = .ok (.newarray .int, 2) := by decide +kernel
theorem dX22_init_42 : decode cX22_init 42 = .ok (.putfield 25, 3) := by decide +kernel
theorem dX22_init_45 : decode cX22_init 45 = .ok (.aload_n 0, 1) := by decide +kernel
theorem dX22_init_46 : decode cX22_init 46 = .ok (.sipush 2000, 3) := by decide +kernel
theorem dX22_init_49 : decode cX22_init 49 = .ok (.newarray .int, 2) := by decide +kernel
theorem dX22_init_51 : decode cX22_init 51 = .ok (.putfield 28, 3) := by decide +kernel
theorem dX22_init_54 : decode cX22_init 54 = .ok (.aload_n 0, 1) := by decide +kernel
theorem dX22_init_55 : decode cX22_init 55 = .ok (.sipush 2000, 3) := by decide +kernel
theorem dX22_init_58 : decode cX22_init 58 = .ok (.newarray .int, 2) := by decide +kernel
theorem dX22_init_60 : decode cX22_init 60 = .ok (.putfield 31, 3) := by decide +kernel
theorem dX22_init_63 : decode cX22_init 63 = .ok (.aload_n 0, 1) := by decide +kernel
theorem dX22_init_64 : decode cX22_init 64 = .ok (.sipush 2000, 3) := by decide +kernel
theorem dX22_init_67 : decode cX22_init 67 = .ok (.newarray .int, 2) := by decide +kernel
theorem dX22_init_69 : decode cX22_init 69 = .ok (.putfield 34, 3) := by decide +kernel
theorem dX22_init_72 : decode cX22_init 72 = .ok (.aload_n 0, 1) := by decide +kernel
theorem dX22_init_73 : decode cX22_init 73 = .ok (.sipush 2000, 3) := by decide +kernel
theorem dX22_init_76 : decode cX22_init 76 = .ok (.newarray .int, 2) := by decide +kernel
theorem dX22_init_78 : decode cX22_init 78 = .ok (.putfield 37, 3) := by decide +kernel
theorem dX22_init_81 : decode cX22_init 81 = .ok (.aload_n 0, 1) := by decide +kernel
theorem dX22_init_82 : decode cX22_init 82 = .ok (.bipush 7, 2) := by decide +kernel
theorem dX22_init_84 : decode cX22_init 84 = .ok (.newarray .int, 2) := by decide +kernel
theorem dX22_init_86 : decode cX22_init 86 = .ok (.putfield 40, 3) := by decide +kernel
theorem dX22_init_89 : decode cX22_init 89 = .ok (.aload_n 0, 1) := by decide +kernel
theorem dX22_init_90 : decode cX22_init 90 = .ok (.bipush 7, 2) := by decide +kernel
theorem dX22_init_92 : decode cX22_init 92 = .ok (.newarray .int, 2) := by decide +kernel
theorem dX22_init_94 : decode cX22_init 94 = .ok (.putfield 43, 3) := by decide +kernel
theorem dX22_init_97 : decode cX22_init 97 = .ok (.aload_n 0, 1) := by decide +kernel
theorem dX22_init_98 : decode cX22_init 98 = .ok (.bipush 7, 2) := by decide +kernel
theorem dX22_init_100 : decode cX22_init 100 = .ok (.newarray .int, 2) := by decide +kernel
theorem dX22_init_102 : decode cX22_init 102 = .ok (.putfield 46, 3) := by decide +kernel
theorem dX22_init_105 : decode cX22_init 105 = .ok (.aload_n 0, 1) := by decide +kernel
theorem dX22_init_106 : decode cX22_init 106 = .ok (.bipush 7, 2) := by decide +kernel
theorem dX22_init_108 : decode cX22_init 108 = .ok (.newarray .int, 2) := by decide +kernel
theorem dX22_init_110 : decode cX22_init 110 = .ok (.putfield 49, 3) := by decide +kernel
theorem dX22_init_113 : decode cX22_init 113 = .ok (.aload_n 0, 1) := by decide +kernel
theorem dX22_init_114 : decode cX22_init 114 = .ok (.bipush 7, 2) := by decide +kernel
theorem dX22_init_116 : decode cX22_init 116 = .ok (.newarray .int, 2) := by decide +kernel
theorem dX22_init_118 : decode cX22_init 118 = .ok (.putfield 52, 3) := by decide +kernel
theorem dX22_init_121 : decode cX22_init 121 = .ok (.return_, 1) := by decide +kernel
theorem dX24_add_0 : decode cX24_add 0 = .ok (.bipush 24, 2) := by decide +kernel
theorem dX24_add_2 : decode cX24_add 2 = .ok (.istore_n 2, 1) := by decide +kernel
theorem dX24_add_3 : decode cX24_add 3 = .ok (.iload_n 2, 1) := by decide +kernel
theorem dX24_add_4 : decode cX24_add 4 = .ok (.ifCond .lt 32, 3) := by decide +kernel
theorem dX24_add_7 : decode cX24_add 7 = .ok (.aload_n 0, 1) := by decide +kernel
theorem dX24_add_8 : decode cX24_add 8 = .ok (.getfield 15, 3) := by decide +kernel
theorem dX24_add_11 : decode cX24_add 11 = .ok (.aload_n 0, 1) := by decide +kernel
theorem dX24_add_12 : decode cX24_add 12 = .ok (.dup, 1) := by decide +kernel
theorem dX24_add_13 : decode cX24_add 13 = .ok (.getfield 55, 3) := by decide +kernel
theorem dX24_add_16 : decode cX24_add 16 = .ok (.dup_x1, 1) := by decide +kernel
theorem dX24_add_17 : decode cX24_add 17 = .ok (.iconst 1, 1) := by decide +kernel
theorem dX24_add_18 : decode cX24_add 18 = .ok (.iadd, 1) := by decide +kernel
theorem dX24_add_19 : decode cX24_add 19 = .ok (.putfield 55, 3) := by decide +kernel
theorem dX24_add_22 : decode cX24_add 22 = .ok (.iload_n 1, 1) := by decide +kernel
theorem dX24_add_23 : decode cX24_add 23 = .ok (.iload_n 2, 1) := by decide +kernel
theorem dX24_add_24 : decode cX24_add 24 = .ok (.iushr, 1) := by decide +kernel
theorem dX24_add_25 : decode cX24_add 25 = .ok (.sipush 255, 3) := by decide +kernel
theorem dX24_add_28 : decode cX24_add 28 = .ok (.iand, 1) := by decide +kernel
theorem dX24_add_29 : decode cX24_add 29 = .ok (.iastore, 1) := by decide +kernel
theorem dX24_add_30 : decode cX24_add 30 = .ok (.iinc 2 (-8), 3) := by decide +kernel
theorem dX24_add_33 : decode cX24_add 33 = .ok (.goto (-30), 3) := by decide +kernel
theorem dX24_add_36 : decode cX24_add 36 = .ok (.return_, 1) := by decide +kernel
theorem dX24_allocate_0 : decode cX24_allocate 0 = .ok (.aload_n 0, 1) := by decide +kernel
theorem dX24_allocate_1 : decode cX24_allocate 1 = .ok (.iconst 0, 1) := by decide +kernel
theorem dX24_allocate_2 : decode cX24_allocate 2 = .ok (.putfield 52, 3) := by decide +kernel
theorem dX24_allocate_5 : decode cX24_allocate 5 = .ok (.iload_n 1, 1) := by decide +kernel
theorem dX24_allocate_6 : decode cX24_allocate 6 = .ok (.iconst 3, 1) := by decide +kernel
theorem dX24_allocate_7 : decode cX24_allocate 7 = .ok (.if_icmp .lt 9, 3) := by decide +kernel
theorem dX24_allocate_10 : decode cX24_allocate 10 = .ok (.iload_n 1, 1) := by decide +kernel
theorem dX24_allocate_11 : decode cX24_allocate 11 = .ok (.bipush 8, 2) := by decide +kernel
theorem dX24_allocate_13 : decode cX24_allocate 13 = .ok (.if_icmp .le 9, 3) := by decide +kernel
theorem dX24_allocate_16 : decode cX24_allocate 16 = .ok (.aload_n 0, 1) := by decide +kernel
theorem dX24_allocate_17 : decode cX24_allocate 17 = .ok (.iconst 1, 1) := by decide +kernel
theorem dX24_allocate_18 : decode cX24_allocate 18 = .ok (.invokevirtual 58, 3) := by decide +kernel
theorem dX24_allocate_21 : decode cX24_allocate 21 = .ok (.ireturn, 1) := by decide +kernel
theorem dX24_allocate_22 : decode cX24_allocate 22 = .ok (.aload_n 0, 1) := by decide +kernel
theorem dX24_allocate_23 : decode cX24_allocate 23 = .ok (.getfield 32, 3) := by decide +kernel
theorem dX24_allocate_26 : decode cX24_allocate 26 = .ok (.arraylength, 1) := by decide +kernel
theorem dX24_allocate_27 : decode cX24_allocate 27 = .ok (.ifCond .ne 9, 3) := by decide +kernel
theorem dX24_allocate_30 : decode cX24_allocate 30 = .ok (.aload_n 0, 1) := by decide +kernel
theorem dX24_allocate_31 : decode cX24_allocate 31 = .ok (.iconst 2, 1) := by decide +kernel
theorem dX24_allocate_32 : decode cX24_allocate 32 = .ok (.invokevirtual 58, 3) := by decide +kernel
theorem dX24_allocate_35 : decode cX24_allocate 35 = .ok (.ireturn, 1) := by decide +kernel
theorem dX24_blockOf_0 : decode cX24_blockOf 0 = .ok (.aload_n 0, 1) := by decide +kernel
theorem dX24_blockOf_1 : decode cX24_blockOf 1 = .ok (.iconst 0, 1) := by decide +kernel
theorem dX24_blockOf_2 : decode cX24_blockOf 2 = .ok (.putfield 52, 3) := by decide +kernel
theorem dX24_blockOf_5 : decode cX24_blockOf 5 = .ok (.aload_n 0, 1) := by decide +kernel
theorem dX24_blockOf_6 : decode cX24_blockOf 6 = .ok (.iload_n 1, 1) := by decide +kernel
theorem dX24_blockOf_7 : decode cX24_blockOf 7 = .ok (.invokevirtual 121, 3) := by decide +kernel
theorem dX24_blockOf_10 : decode cX24_blockOf 10 = .ok (.ifCond .eq 17, 3) := by decide +kernel
theorem dX24_blockOf_27 : decode cX24_blockOf 27 = .ok (.aload_n 0, 1) := by decide +kernel
theorem dX24_blockOf_28 : decode cX24_blockOf 28 = .ok (.iconst 1, 1) := by decide +kernel
theorem dX24_blockOf_29 : decode cX24_blockOf 29 = .ok (.invokevirtual 58, 3) := by decide +kernel
theorem dX24_blockOf_32 : decode cX24_blockOf 32 = .ok (.ireturn, 1) := by decide +kernel
theorem dX24_blocks_0 : decode cX24_blocks 0 = .ok (.aload_n 0, 1) := by decide +kernel
theorem dX24_blocks_1 : decode cX24_blocks 1 = .ok (.iconst 0, 1) := by decide +kernel
theorem dX24_blocks_2 : decode cX24_blocks 2 = .ok (.putfield 52, 3) := by decide +kernel
theorem dX24_blocks_5 : decode cX24_blocks 5 = .ok (.aload_n 0, 1) := by decide +kernel
theorem dX24_blocks_6 : decode cX24_blocks 6 = .ok (.iload_n 1, 1) := by decide +kernel
theorem dX24_blocks_7 : decode cX24_blocks 7 = .ok (.invokevirtual 121, 3) := by decide +kernel
theorem dX24_blocks_10 : decode cX24_blocks 10 = .ok (.ifCond .eq 15, 3) := by decide +kernel
theorem dX24_blocks_25 : decode cX24_blocks 25 = .ok (.aload_n 0, 1) := by decide +kernel
theorem dX24_blocks_26 : decode cX24_blocks 26 = .ok (.iconst 1, 1) := by decide +kernel
theorem dX24_blocks_27 : decode cX24_blocks 27 = .ok (.invokevirtual 58, 3) := by decide +kernel
theorem dX24_blocks_30 : decode cX24_blocks 30 = .ok (.ireturn, 1) := by decide +kernel
theorem dX24_codeGives_0 : decode cX24_codeGives 0 = .ok (.aload_n 0, 1) := by decide +kernel
theorem dX24_codeGives_1 : decode cX24_codeGives 1 = .ok (.iload_n 1, 1) := by decide +kernel
theorem dX24_codeGives_2 : decode cX24_codeGives 2 = .ok (.iload_n 2, 1) := by decide +kernel
theorem dX24_codeGives_3 : decode cX24_codeGives 3 = .ok (.iconst 1, 1) := by decide +kernel
theorem dX24_codeGives_4 : decode cX24_codeGives 4 = .ok (.invokevirtual 264, 3) := by decide +kernel
theorem dX24_codeGives_7 : decode cX24_codeGives 7 = .ok (.ireturn, 1) := by decide +kernel
theorem dX24_codeKind_0 : decode cX24_codeKind 0 = .ok (.aload_n 0, 1) := by decide +kernel
theorem dX24_codeKind_1 : decode cX24_codeKind 1 = .ok (.iload_n 1, 1) := by decide +kernel
theorem dX24_codeKind_2 : decode cX24_codeKind 2 = .ok (.iload_n 2, 1) := by decide +kernel
theorem dX24_codeKind_3 : decode cX24_codeKind 3 = .ok (.iconst 0, 1) := by decide +kernel
theorem dX24_codeKind_4 : decode cX24_codeKind 4 = .ok (.invokevirtual 264, 3) := by decide +kernel
theorem dX24_codeKind_7 : decode cX24_codeKind 7 = .ok (.ireturn, 1) := by decide +kernel
theorem dX24_codeLeft_0 : decode cX24_codeLeft 0 = .ok (.aload_n 0, 1) := by decide +kernel
theorem dX24_codeLeft_1 : decode cX24_codeLeft 1 = .ok (.iload_n 1, 1) := by decide +kernel
theorem dX24_codeLeft_2 : decode cX24_codeLeft 2 = .ok (.iload_n 2, 1) := by decide +kernel
theorem dX24_codeLeft_3 : decode cX24_codeLeft 3 = .ok (.iconst 2, 1) := by decide +kernel
theorem dX24_codeLeft_4 : decode cX24_codeLeft 4 = .ok (.invokevirtual 264, 3) := by decide +kernel
theorem dX24_codeLeft_7 : decode cX24_codeLeft 7 = .ok (.ireturn, 1) := by decide +kernel
theorem dX24_codeRight_0 : decode cX24_codeRight 0 = .ok (.aload_n 0, 1) := by decide +kernel
theorem dX24_codeRight_1 : decode cX24_codeRight 1 = .ok (.iload_n 1, 1) := by decide +kernel
theorem dX24_codeRight_2 : decode cX24_codeRight 2 = .ok (.iload_n 2, 1) := by decide +kernel
theorem dX24_codeRight_3 : decode cX24_codeRight 3 = .ok (.iconst 3, 1) := by decide +kernel
theorem dX24_codeRight_4 : decode cX24_codeRight 4 = .ok (.invokevirtual 264, 3) := by decide +kernel
theorem dX24_codeRight_7 : decode cX24_codeRight 7 = .ok (.ireturn, 1) := by decide +kernel
theorem dX24_depthOf_0 : decode cX24_depthOf 0 = .ok (.aload_n 0, 1) := by decide +kernel
theorem dX24_depthOf_1 : decode cX24_depthOf 1 = .ok (.iconst 0, 1) := by decide +kernel
theorem dX24_depthOf_2 : decode cX24_depthOf 2 = .ok (.putfield 52, 3) := by decide +kernel
theorem dX24_depthOf_5 : decode cX24_depthOf 5 = .ok (.aload_n 0, 1) := by decide +kernel
theorem dX24_depthOf_6 : decode cX24_depthOf 6 = .ok (.iload_n 1, 1) := by decide +kernel
theorem dX24_depthOf_7 : decode cX24_depthOf 7 = .ok (.iload_n 2, 1) := by decide +kernel
theorem dX24_depthOf_8 : decode cX24_depthOf 8 = .ok (.invokevirtual 163, 3) := by decide +kernel
theorem dX24_depthOf_11 : decode cX24_depthOf 11 = .ok (.ifCond .eq 15, 3) := by decide +kernel
theorem dX24_depthOf_26 : decode cX24_depthOf 26 = .ok (.aload_n 0, 1) := by decide +kernel
theorem dX24_depthOf_27 : decode cX24_depthOf 27 = .ok (.iconst 1, 1) := by decide +kernel
theorem dX24_depthOf_28 : decode cX24_depthOf 28 = .ok (.invokevirtual 58, 3) := by decide +kernel
theorem dX24_depthOf_31 : decode cX24_depthOf 31 = .ok (.ireturn, 1) := by decide +kernel
theorem dX24_differences_0 : decode cX24_differences 0 = .ok (.aload_n 0, 1) := by decide +kernel
theorem dX24_differences_1 : decode cX24_differences 1 = .ok (.iconst 0, 1) := by decide +kernel
theorem dX24_differences_2 : decode cX24_differences 2 = .ok (.putfield 52, 3) := by decide +kernel
theorem dX24_differences_5 : decode cX24_differences 5 = .ok (.aload_n 0, 1) := by decide +kernel
theorem dX24_differences_6 : decode cX24_differences 6 = .ok (.iload_n 1, 1) := by decide +kernel
theorem dX24_differences_7 : decode cX24_differences 7 = .ok (.invokevirtual 121, 3) := by decide +kernel
theorem dX24_differences_10 : decode cX24_differences 10 = .ok (.ifCond .ne 9, 3) := by decide +kernel
theorem dX24_differences_13 : decode cX24_differences 13 = .ok (.aload_n 0, 1) := by decide +kernel
theorem dX24_differences_14 : decode cX24_differences 14 = .ok (.iconst 1, 1) := by decide +kernel
theorem dX24_differences_15 : decode cX24_differences 15 = .ok (.invokevirtual 58, 3) := by decide +kernel
theorem dX24_differences_18 : decode cX24_differences 18 = .ok (.ireturn, 1) := by decide +kernel
theorem dX24_digest_0 : decode cX24_digest 0 = .ok (.aload_n 0, 1) := by decide +kernel
theorem dX24_digest_1 : decode cX24_digest 1 = .ok (.iconst 0, 1) := by decide +kernel
theorem dX24_digest_2 : decode cX24_digest 2 = .ok (.putfield 52, 3) := by decide +kernel
theorem dX24_digest_5 : decode cX24_digest 5 = .ok (.ldc2_w 330, 3) := by decide +kernel
theorem dX24_digest_8 : decode cX24_digest 8 = .ok (.lstore_n 1, 1) := by decide +kernel
theorem dX24_digest_9 : decode cX24_digest 9 = .ok (.iconst 5, 1) := by decide +kernel
theorem dX24_digest_10 : decode cX24_digest 10 = .ok (.newarray .int, 2) := by decide +kernel
theorem dX24_digest_12 : decode cX24_digest 12 = .ok (.dup, 1) := by decide +kernel
theorem dX24_digest_13 : decode cX24_digest 13 = .ok (.iconst 0, 1) := by decide +kernel
theorem dX24_digest_14 : decode cX24_digest 14 = .ok (.aload_n 0, 1) := by decide +kernel
theorem dX24_digest_15 : decode cX24_digest 15 = .ok (.getfield 32, 3) := by decide +kernel
theorem dX24_digest_18 : decode cX24_digest 18 = .ok (.arraylength, 1) := by decide +kernel
theorem dX24_digest_19 : decode cX24_digest 19 = .ok (.iastore, 1) := by decide +kernel
theorem dX24_digest_20 : decode cX24_digest 20 = .ok (.dup, 1) := by decide +kernel
theorem dX24_digest_21 : decode cX24_digest 21 = .ok (.iconst 1, 1) := by decide +kernel
theorem dX24_digest_22 : decode cX24_digest 22 = .ok (.aload_n 0, 1) := by decide +kernel
theorem dX24_digest_23 : decode cX24_digest 23 = .ok (.getfield 19, 3) := by decide +kernel
theorem dX24_digest_26 : decode cX24_digest 26 = .ok (.iastore, 1) := by decide +kernel
theorem dX24_digest_27 : decode cX24_digest 27 = .ok (.dup, 1) := by decide +kernel
theorem dX24_digest_28 : decode cX24_digest 28 = .ok (.iconst 2, 1) := by decide +kernel
theorem dX24_digest_29 : decode cX24_digest 29 = .ok (.aload_n 0, 1) := by decide +kernel
theorem dX24_digest_30 : decode cX24_digest 30 = .ok (.getfield 45, 3) := by decide +kernel
theorem dX24_digest_33 : decode cX24_digest 33 = .ok (.getfield 292, 3) := by decide +kernel
theorem dX24_digest_36 : decode cX24_digest 36 = .ok (.iastore, 1) := by decide +kernel
theorem dX24_digest_37 : decode cX24_digest 37 = .ok (.dup, 1) := by decide +kernel
theorem dX24_digest_38 : decode cX24_digest 38 = .ok (.iconst 3, 1) := by decide +kernel
theorem dX24_digest_39 : decode cX24_digest 39 = .ok (.aload_n 0, 1) := by decide +kernel
theorem dX24_digest_40 : decode cX24_digest 40 = .ok (.getfield 45, 3) := by decide +kernel
theorem dX24_digest_43 : decode cX24_digest 43 = .ok (.getfield 295, 3) := by decide +kernel
theorem dX24_digest_46 : decode cX24_digest 46 = .ok (.iastore, 1) := by decide +kernel
theorem dX24_digest_47 : decode cX24_digest 47 = .ok (.dup, 1) := by decide +kernel
theorem dX24_digest_48 : decode cX24_digest 48 = .ok (.iconst 4, 1) := by decide +kernel
theorem dX24_digest_49 : decode cX24_digest 49 = .ok (.aload_n 0, 1) := by decide +kernel
theorem dX24_digest_50 : decode cX24_digest 50 = .ok (.getfield 45, 3) := by decide +kernel
theorem dX24_digest_53 : decode cX24_digest 53 = .ok (.getfield 298, 3) := by decide +kernel
theorem dX24_digest_56 : decode cX24_digest 56 = .ok (.iastore, 1) := by decide +kernel
theorem dX24_digest_57 : decode cX24_digest 57 = .ok (.astore_n 3, 1) := by decide +kernel
theorem dX24_digest_58 : decode cX24_digest 58 = .ok (.aload_n 3, 1) := by decide +kernel
theorem dX24_digest_59 : decode cX24_digest 59 = .ok (.astore 4, 2) := by decide +kernel
theorem dX24_digest_61 : decode cX24_digest 61 = .ok (.aload 4, 2) := by decide +kernel
theorem dX24_digest_63 : decode cX24_digest 63 = .ok (.arraylength, 1) := by decide +kernel
theorem dX24_digest_64 : decode cX24_digest 64 = .ok (.istore 5, 2) := by decide +kernel
theorem dX24_digest_66 : decode cX24_digest 66 = .ok (.iconst 0, 1) := by decide +kernel
theorem dX24_digest_67 : decode cX24_digest 67 = .ok (.istore 6, 2) := by decide +kernel
theorem dX24_digest_69 : decode cX24_digest 69 = .ok (.iload 6, 2) := by decide +kernel
theorem dX24_digest_71 : decode cX24_digest 71 = .ok (.iload 5, 2) := by decide +kernel
theorem dX24_digest_73 : decode cX24_digest 73 = .ok (.if_icmp .ge 26, 3) := by decide +kernel
theorem dX24_digest_76 : decode cX24_digest 76 = .ok (.aload 4, 2) := by decide +kernel
theorem dX24_digest_78 : decode cX24_digest 78 = .ok (.iload 6, 2) := by decide +kernel
theorem dX24_digest_80 : decode cX24_digest 80 = .ok (.iaload, 1) := by decide +kernel
theorem dX24_digest_81 : decode cX24_digest 81 = .ok (.istore 7, 2) := by decide +kernel
theorem dX24_digest_83 : decode cX24_digest 83 = .ok (.lload_n 1, 1) := by decide +kernel
theorem dX24_digest_84 : decode cX24_digest 84 = .ok (.ldc2_w 320, 3) := by decide +kernel
theorem dX24_digest_87 : decode cX24_digest 87 = .ok (.lmul, 1) := by decide +kernel
theorem dX24_digest_88 : decode cX24_digest 88 = .ok (.iload 7, 2) := by decide +kernel
theorem dX24_digest_90 : decode cX24_digest 90 = .ok (.i2l, 1) := by decide +kernel
theorem dX24_digest_91 : decode cX24_digest 91 = .ok (.ladd, 1) := by decide +kernel
theorem dX24_digest_92 : decode cX24_digest 92 = .ok (.lstore_n 1, 1) := by decide +kernel
theorem dX24_digest_93 : decode cX24_digest 93 = .ok (.iinc 6 1, 3) := by decide +kernel
theorem dX24_digest_96 : decode cX24_digest 96 = .ok (.goto (-27), 3) := by decide +kernel
theorem dX24_digest_99 : decode cX24_digest 99 = .ok (.aload_n 0, 1) := by decide +kernel
theorem dX24_digest_100 : decode cX24_digest 100 = .ok (.getfield 45, 3) := by decide +kernel
theorem dX24_digest_103 : decode cX24_digest 103 = .ok (.getfield 301, 3) := by decide +kernel
theorem dX24_digest_106 : decode cX24_digest 106 = .ok (.astore 4, 2) := by decide +kernel
theorem dX24_digest_108 : decode cX24_digest 108 = .ok (.aload 4, 2) := by decide +kernel
theorem dX24_digest_110 : decode cX24_digest 110 = .ok (.arraylength, 1) := by decide +kernel
theorem dX24_digest_111 : decode cX24_digest 111 = .ok (.istore 5, 2) := by decide +kernel
theorem dX24_digest_113 : decode cX24_digest 113 = .ok (.iconst 0, 1) := by decide +kernel
theorem dX24_digest_114 : decode cX24_digest 114 = .ok (.istore 6, 2) := by decide +kernel
theorem dX24_digest_116 : decode cX24_digest 116 = .ok (.iload 6, 2) := by decide +kernel
theorem dX24_digest_118 : decode cX24_digest 118 = .ok (.iload 5, 2) := by decide +kernel
theorem dX24_digest_120 : decode cX24_digest 120 = .ok (.if_icmp .ge 26, 3) := by decide +kernel
theorem dX24_digest_123 : decode cX24_digest 123 = .ok (.aload 4, 2) := by decide +kernel
theorem dX24_digest_125 : decode cX24_digest 125 = .ok (.iload 6, 2) := by decide +kernel
theorem dX24_digest_127 : decode cX24_digest 127 = .ok (.iaload, 1) := by decide +kernel
theorem dX24_digest_128 : decode cX24_digest 128 = .ok (.istore 7, 2) := by decide +kernel
theorem dX24_digest_130 : decode cX24_digest 130 = .ok (.lload_n 1, 1) := by decide +kernel
theorem dX24_digest_131 : decode cX24_digest 131 = .ok (.ldc2_w 320, 3) := by decide +kernel
theorem dX24_digest_134 : decode cX24_digest 134 = .ok (.lmul, 1) := by decide +kernel
theorem dX24_digest_135 : decode cX24_digest 135 = .ok (.iload 7, 2) := by decide +kernel
theorem dX24_digest_137 : decode cX24_digest 137 = .ok (.i2l, 1) := by decide +kernel
theorem dX24_digest_138 : decode cX24_digest 138 = .ok (.ladd, 1) := by decide +kernel
theorem dX24_digest_139 : decode cX24_digest 139 = .ok (.lstore_n 1, 1) := by decide +kernel
theorem dX24_digest_140 : decode cX24_digest 140 = .ok (.iinc 6 1, 3) := by decide +kernel
theorem dX24_digest_143 : decode cX24_digest 143 = .ok (.goto (-27), 3) := by decide +kernel
theorem dX24_digest_146 : decode cX24_digest 146 = .ok (.iconst 0, 1) := by decide +kernel
theorem dX24_digest_147 : decode cX24_digest 147 = .ok (.istore 4, 2) := by decide +kernel
theorem dX24_digest_149 : decode cX24_digest 149 = .ok (.iload 4, 2) := by decide +kernel
theorem dX24_digest_151 : decode cX24_digest 151 = .ok (.aload_n 0, 1) := by decide +kernel
theorem dX24_digest_152 : decode cX24_digest 152 = .ok (.getfield 32, 3) := by decide +kernel
theorem dX24_digest_155 : decode cX24_digest 155 = .ok (.arraylength, 1) := by decide +kernel
theorem dX24_digest_156 : decode cX24_digest 156 = .ok (.if_icmp .ge 277, 3) := by decide +kernel
theorem dX24_digest_433 : decode cX24_digest 433 = .ok (.lload_n 1, 1) := by decide +kernel
theorem dX24_digest_434 : decode cX24_digest 434 = .ok (.lreturn, 1) := by decide +kernel
theorem dX24_dominatorOf_0 : decode cX24_dominatorOf 0 = .ok (.aload_n 0, 1) := by decide +kernel
theorem dX24_dominatorOf_1 : decode cX24_dominatorOf 1 = .ok (.iconst 0, 1) := by decide +kernel
theorem dX24_dominatorOf_2 : decode cX24_dominatorOf 2 = .ok (.putfield 52, 3) := by decide +kernel
theorem dX24_dominatorOf_5 : decode cX24_dominatorOf 5 = .ok (.aload_n 0, 1) := by decide +kernel
theorem dX24_dominatorOf_6 : decode cX24_dominatorOf 6 = .ok (.iload_n 1, 1) := by decide +kernel
theorem dX24_dominatorOf_7 : decode cX24_dominatorOf 7 = .ok (.iload_n 2, 1) := by decide +kernel
theorem dX24_dominatorOf_8 : decode cX24_dominatorOf 8 = .ok (.invokevirtual 163, 3) := by decide +kernel
theorem dX24_dominatorOf_11 : decode cX24_dominatorOf 11 = .ok (.ifCond .eq 15, 3) := by decide +kernel
theorem dX24_dominatorOf_26 : decode cX24_dominatorOf 26 = .ok (.aload_n 0, 1) := by decide +kernel
theorem dX24_dominatorOf_27 : decode cX24_dominatorOf 27 = .ok (.iconst 1, 1) := by decide +kernel
theorem dX24_dominatorOf_28 : decode cX24_dominatorOf 28 = .ok (.invokevirtual 58, 3) := by decide +kernel
theorem dX24_dominatorOf_31 : decode cX24_dominatorOf 31 = .ok (.ireturn, 1) := by decide +kernel
theorem dX24_drop_0 : decode cX24_drop 0 = .ok (.aload_n 0, 1) := by decide +kernel
theorem dX24_drop_1 : decode cX24_drop 1 = .ok (.iconst 2, 1) := by decide +kernel
theorem dX24_drop_2 : decode cX24_drop 2 = .ok (.invokevirtual 244, 3) := by decide +kernel
theorem dX24_drop_5 : decode cX24_drop 5 = .ok (.ireturn, 1) := by decide +kernel
theorem dX24_endOf_0 : decode cX24_endOf 0 = .ok (.aload_n 0, 1) := by decide +kernel
theorem dX24_endOf_1 : decode cX24_endOf 1 = .ok (.iconst 0, 1) := by decide +kernel
theorem dX24_endOf_2 : decode cX24_endOf 2 = .ok (.putfield 52, 3) := by decide +kernel
theorem dX24_endOf_5 : decode cX24_endOf 5 = .ok (.aload_n 0, 1) := by decide +kernel
theorem dX24_endOf_6 : decode cX24_endOf 6 = .ok (.iload_n 1, 1) := by decide +kernel
theorem dX24_endOf_7 : decode cX24_endOf 7 = .ok (.iload_n 2, 1) := by decide +kernel
theorem dX24_endOf_8 : decode cX24_endOf 8 = .ok (.invokevirtual 163, 3) := by decide +kernel
theorem dX24_endOf_11 : decode cX24_endOf 11 = .ok (.ifCond .eq 15, 3) := by decide +kernel
theorem dX24_endOf_26 : decode cX24_endOf 26 = .ok (.aload_n 0, 1) := by decide +kernel
theorem dX24_endOf_27 : decode cX24_endOf 27 = .ok (.iconst 1, 1) := by decide +kernel
theorem dX24_endOf_28 : decode cX24_endOf 28 = .ok (.invokevirtual 58, 3) := by decide +kernel
theorem dX24_endOf_31 : decode cX24_endOf 31 = .ok (.ireturn, 1) := by decide +kernel
theorem dX24_endValue_0 : decode cX24_endValue 0 = .ok (.aload_n 0, 1) := by decide +kernel
theorem dX24_endValue_1 : decode cX24_endValue 1 = .ok (.iconst 0, 1) := by decide +kernel
theorem dX24_endValue_2 : decode cX24_endValue 2 = .ok (.putfield 52, 3) := by decide +kernel
theorem dX24_endValue_5 : decode cX24_endValue 5 = .ok (.aload_n 0, 1) := by decide +kernel
theorem dX24_endValue_6 : decode cX24_endValue 6 = .ok (.iload_n 1, 1) := by decide +kernel
theorem dX24_endValue_7 : decode cX24_endValue 7 = .ok (.iload_n 2, 1) := by decide +kernel
theorem dX24_endValue_8 : decode cX24_endValue 8 = .ok (.invokevirtual 163, 3) := by decide +kernel
theorem dX24_endValue_11 : decode cX24_endValue 11 = .ok (.ifCond .eq 15, 3) := by decide +kernel
theorem dX24_endValue_26 : decode cX24_endValue 26 = .ok (.aload_n 0, 1) := by decide +kernel
theorem dX24_endValue_27 : decode cX24_endValue 27 = .ok (.iconst 1, 1) := by decide +kernel
theorem dX24_endValue_28 : decode cX24_endValue 28 = .ok (.invokevirtual 58, 3) := by decide +kernel
theorem dX24_endValue_31 : decode cX24_endValue 31 = .ok (.ireturn, 1) := by decide +kernel
theorem dX24_errorAt_0 : decode cX24_errorAt 0 = .ok (.aload_n 0, 1) := by decide +kernel
theorem dX24_errorAt_1 : decode cX24_errorAt 1 = .ok (.aload_n 0, 1) := by decide +kernel
theorem dX24_errorAt_2 : decode cX24_errorAt 2 = .ok (.getfield 19, 3) := by decide +kernel
theorem dX24_errorAt_5 : decode cX24_errorAt 5 = .ok (.invokevirtual 118, 3) := by decide +kernel
theorem dX24_errorAt_8 : decode cX24_errorAt 8 = .ok (.ireturn, 1) := by decide +kernel
theorem dX24_feed_0 : decode cX24_feed 0 = .ok (.aload_n 0, 1) := by decide +kernel
theorem dX24_feed_1 : decode cX24_feed 1 = .ok (.iconst 0, 1) := by decide +kernel
theorem dX24_feed_2 : decode cX24_feed 2 = .ok (.putfield 52, 3) := by decide +kernel
theorem dX24_feed_5 : decode cX24_feed 5 = .ok (.aload_n 0, 1) := by decide +kernel
theorem dX24_feed_6 : decode cX24_feed 6 = .ok (.getfield 55, 3) := by decide +kernel
theorem dX24_feed_9 : decode cX24_feed 9 = .ok (.bipush 20, 2) := by decide +kernel
theorem dX24_feed_11 : decode cX24_feed 11 = .ok (.iadd, 1) := by decide +kernel
theorem dX24_feed_12 : decode cX24_feed 12 = .ok (.sipush 1200, 3) := by decide +kernel
theorem dX24_feed_15 : decode cX24_feed 15 = .ok (.if_icmp .le 9, 3) := by decide +kernel
theorem dX24_feed_24 : decode cX24_feed 24 = .ok (.aload_n 0, 1) := by decide +kernel
theorem dX24_feed_25 : decode cX24_feed 25 = .ok (.iload_n 1, 1) := by decide +kernel
theorem dX24_feed_26 : decode cX24_feed 26 = .ok (.invokevirtual 62, 3) := by decide +kernel
theorem dX24_feed_29 : decode cX24_feed 29 = .ok (.aload_n 0, 1) := by decide +kernel
theorem dX24_feed_30 : decode cX24_feed 30 = .ok (.iload_n 2, 1) := by decide +kernel
theorem dX24_feed_31 : decode cX24_feed 31 = .ok (.invokevirtual 62, 3) := by decide +kernel
theorem dX24_feed_34 : decode cX24_feed 34 = .ok (.aload_n 0, 1) := by decide +kernel
theorem dX24_feed_35 : decode cX24_feed 35 = .ok (.iload_n 3, 1) := by decide +kernel
theorem dX24_feed_36 : decode cX24_feed 36 = .ok (.invokevirtual 62, 3) := by decide +kernel
theorem dX24_feed_39 : decode cX24_feed 39 = .ok (.aload_n 0, 1) := by decide +kernel
theorem dX24_feed_40 : decode cX24_feed 40 = .ok (.iload 4, 2) := by decide +kernel
theorem dX24_feed_42 : decode cX24_feed 42 = .ok (.invokevirtual 62, 3) := by decide +kernel
theorem dX24_feed_45 : decode cX24_feed 45 = .ok (.aload_n 0, 1) := by decide +kernel
theorem dX24_feed_46 : decode cX24_feed 46 = .ok (.iload 5, 2) := by decide +kernel
theorem dX24_feed_48 : decode cX24_feed 48 = .ok (.invokevirtual 62, 3) := by decide +kernel
theorem dX24_feed_51 : decode cX24_feed 51 = .ok (.aload_n 0, 1) := by decide +kernel
theorem dX24_feed_52 : decode cX24_feed 52 = .ok (.getfield 55, 3) := by decide +kernel
theorem dX24_feed_55 : decode cX24_feed 55 = .ok (.ireturn, 1) := by decide +kernel
theorem dX24_fold_0 : decode cX24_fold 0 = .ok (.aload_n 0, 1) := by decide +kernel
theorem dX24_fold_1 : decode cX24_fold 1 = .ok (.iconst 0, 1) := by decide +kernel
theorem dX24_fold_2 : decode cX24_fold 2 = .ok (.invokevirtual 244, 3) := by decide +kernel
theorem dX24_fold_5 : decode cX24_fold 5 = .ok (.ireturn, 1) := by decide +kernel
theorem dX24_functions_0 : decode cX24_functions 0 = .ok (.aload_n 0, 1) := by decide +kernel
theorem dX24_functions_1 : decode cX24_functions 1 = .ok (.aload_n 0, 1) := by decide +kernel
theorem dX24_functions_2 : decode cX24_functions 2 = .ok (.getfield 32, 3) := by decide +kernel
theorem dX24_functions_5 : decode cX24_functions 5 = .ok (.arraylength, 1) := by decide +kernel
theorem dX24_functions_6 : decode cX24_functions 6 = .ok (.invokevirtual 118, 3) := by decide +kernel
theorem dX24_functions_9 : decode cX24_functions 9 = .ok (.ireturn, 1) := by decide +kernel
theorem dX24_gives_0 : decode cX24_gives 0 = .ok (.aload_n 0, 1) := by decide +kernel
theorem dX24_gives_1 : decode cX24_gives 1 = .ok (.iload_n 1, 1) := by decide +kernel
theorem dX24_gives_2 : decode cX24_gives 2 = .ok (.iload_n 2, 1) := by decide +kernel
theorem dX24_gives_3 : decode cX24_gives 3 = .ok (.iload_n 3, 1) := by decide +kernel
theorem dX24_gives_4 : decode cX24_gives 4 = .ok (.iconst 0, 1) := by decide +kernel
theorem dX24_gives_5 : decode cX24_gives 5 = .ok (.invokevirtual 213, 3) := by decide +kernel
theorem dX24_gives_8 : decode cX24_gives 8 = .ok (.istore 4, 2) := by decide +kernel
theorem dX24_gives_10 : decode cX24_gives 10 = .ok (.aload_n 0, 1) := by decide +kernel
theorem dX24_gives_11 : decode cX24_gives 11 = .ok (.getfield 52, 3) := by decide +kernel
theorem dX24_gives_14 : decode cX24_gives 14 = .ok (.ifCond .ne 17, 3) := by decide +kernel
theorem dX24_gives_31 : decode cX24_gives 31 = .ok (.iload 4, 2) := by decide +kernel
theorem dX24_gives_33 : decode cX24_gives 33 = .ok (.ireturn, 1) := by decide +kernel
theorem dX24_inLine_0 : decode cX24_inLine 0 = .ok (.aload_n 0, 1) := by decide +kernel
theorem dX24_inLine_1 : decode cX24_inLine 1 = .ok (.iconst 0, 1) := by decide +kernel
theorem dX24_inLine_2 : decode cX24_inLine 2 = .ok (.putfield 52, 3) := by decide +kernel
theorem dX24_inLine_5 : decode cX24_inLine 5 = .ok (.aload_n 0, 1) := by decide +kernel
theorem dX24_inLine_6 : decode cX24_inLine 6 = .ok (.iload_n 1, 1) := by decide +kernel
theorem dX24_inLine_7 : decode cX24_inLine 7 = .ok (.invokevirtual 121, 3) := by decide +kernel
theorem dX24_inLine_10 : decode cX24_inLine 10 = .ok (.ifCond .eq 41, 3) := by decide +kernel
theorem dX24_inLine_51 : decode cX24_inLine 51 = .ok (.aload_n 0, 1) := by decide +kernel
theorem dX24_inLine_52 : decode cX24_inLine 52 = .ok (.iconst 1, 1) := by decide +kernel
theorem dX24_inLine_53 : decode cX24_inLine 53 = .ok (.invokevirtual 58, 3) := by decide +kernel
theorem dX24_inLine_56 : decode cX24_inLine 56 = .ok (.ireturn, 1) := by decide +kernel
theorem dX24_inStep_0 : decode cX24_inStep 0 = .ok (.aload_n 0, 1) := by decide +kernel
theorem dX24_inStep_1 : decode cX24_inStep 1 = .ok (.iconst 0, 1) := by decide +kernel
theorem dX24_inStep_2 : decode cX24_inStep 2 = .ok (.putfield 52, 3) := by decide +kernel
theorem dX24_inStep_5 : decode cX24_inStep 5 = .ok (.aload_n 0, 1) := by decide +kernel
theorem dX24_inStep_6 : decode cX24_inStep 6 = .ok (.iload_n 1, 1) := by decide +kernel
theorem dX24_inStep_7 : decode cX24_inStep 7 = .ok (.iload_n 2, 1) := by decide +kernel
theorem dX24_inStep_8 : decode cX24_inStep 8 = .ok (.invokevirtual 163, 3) := by decide +kernel
theorem dX24_inStep_11 : decode cX24_inStep 11 = .ok (.ifCond .eq 35, 3) := by decide +kernel
theorem dX24_inStep_46 : decode cX24_inStep 46 = .ok (.aload_n 0, 1) := by decide +kernel
theorem dX24_inStep_47 : decode cX24_inStep 47 = .ok (.iconst 1, 1) := by decide +kernel
theorem dX24_inStep_48 : decode cX24_inStep 48 = .ok (.invokevirtual 58, 3) := by decide +kernel
theorem dX24_inStep_51 : decode cX24_inStep 51 = .ok (.ireturn, 1) := by decide +kernel
theorem dX24_init_0 : decode cX24_init 0 = .ok (.aload_n 0, 1) := by decide +kernel
theorem dX24_init_1 : decode cX24_init 1 = .ok (.invokespecial 9, 3) := by decide +kernel
theorem dX24_init_4 : decode cX24_init 4 = .ok (.aload_n 0, 1) := by decide +kernel
theorem dX24_init_5 : decode cX24_init 5 = .ok (.sipush 1200, 3) := by decide +kernel
theorem dX24_init_8 : decode cX24_init 8 = .ok (.newarray .int, 2) := by decide +kernel
theorem dX24_init_10 : decode cX24_init 10 = .ok (.putfield 15, 3) := by decide +kernel
theorem dX24_init_13 : decode cX24_init 13 = .ok (.aload_n 0, 1) := by decide +kernel
theorem dX24_init_14 : decode cX24_init 14 = .ok (.iconst (-1), 1) := by decide +kernel
theorem dX24_init_15 : decode cX24_init 15 = .ok (.putfield 19, 3) := by decide +kernel
theorem dX24_init_18 : decode cX24_init 18 = .ok (.aload_n 0, 1) := by decide +kernel
theorem dX24_init_19 : decode cX24_init 19 = .ok (.new 23, 3) := by decide +kernel
theorem dX24_init_22 : decode cX24_init 22 = .ok (.dup, 1) := by decide +kernel
theorem dX24_init_23 : decode cX24_init 23 = .ok (.invokespecial 25, 3) := by decide +kernel
theorem dX24_init_26 : decode cX24_init 26 = .ok (.putfield 26, 3) := by decide +kernel
theorem dX24_init_29 : decode cX24_init 29 = .ok (.aload_n 0, 1) := by decide +kernel
theorem dX24_init_30 : decode cX24_init 30 = .ok (.iconst 0, 1) := by decide +kernel
theorem dX24_init_31 : decode cX24_init 31 = .ok (.anewarray 30, 3) := by decide +kernel
theorem dX24_init_34 : decode cX24_init 34 = .ok (.putfield 32, 3) := by decide +kernel
theorem dX24_init_37 : decode cX24_init 37 = .ok (.aload_n 0, 1) := by decide +kernel
theorem dX24_init_38 : decode cX24_init 38 = .ok (.iconst 0, 1) := by decide +kernel
theorem dX24_init_39 : decode cX24_init 39 = .ok (.anewarray 36, 3) := by decide +kernel
theorem dX24_init_42 : decode cX24_init 42 = .ok (.putfield 38, 3) := by decide +kernel
theorem dX24_init_45 : decode cX24_init 45 = .ok (.aload_n 0, 1) := by decide +kernel
theorem dX24_init_46 : decode cX24_init 46 = .ok (.new 42, 3) := by decide +kernel
theorem dX24_init_49 : decode cX24_init 49 = .ok (.dup, 1) := by decide +kernel
theorem dX24_init_50 : decode cX24_init 50 = .ok (.invokespecial 44, 3) := by decide +kernel
theorem dX24_init_53 : decode cX24_init 53 = .ok (.putfield 45, 3) := by decide +kernel
theorem dX24_init_56 : decode cX24_init 56 = .ok (.aload_n 0, 1) := by decide +kernel
theorem dX24_init_57 : decode cX24_init 57 = .ok (.new 42, 3) := by decide +kernel
theorem dX24_init_60 : decode cX24_init 60 = .ok (.dup, 1) := by decide +kernel
theorem dX24_init_61 : decode cX24_init 61 = .ok (.invokespecial 44, 3) := by decide +kernel
theorem dX24_init_64 : decode cX24_init 64 = .ok (.putfield 49, 3) := by decide +kernel
theorem dX24_init_67 : decode cX24_init 67 = .ok (.return_, 1) := by decide +kernel
theorem dX24_isAhead_0 : decode cX24_isAhead 0 = .ok (.aload_n 0, 1) := by decide +kernel
theorem dX24_isAhead_1 : decode cX24_isAhead 1 = .ok (.iload_n 1, 1) := by decide +kernel
theorem dX24_isAhead_2 : decode cX24_isAhead 2 = .ok (.iload_n 2, 1) := by decide +kernel
theorem dX24_isAhead_3 : decode cX24_isAhead 3 = .ok (.invokevirtual 163, 3) := by decide +kernel
theorem dX24_isAhead_6 : decode cX24_isAhead 6 = .ok (.ifCond .eq 24, 3) := by decide +kernel
theorem dX24_isAhead_30 : decode cX24_isAhead 30 = .ok (.iconst 0, 1) := by decide +kernel
theorem dX24_isAhead_31 : decode cX24_isAhead 31 = .ok (.ireturn, 1) := by decide +kernel
theorem dX24_isBlock_0 : decode cX24_isBlock 0 = .ok (.aload_n 0, 1) := by decide +kernel
theorem dX24_isBlock_1 : decode cX24_isBlock 1 = .ok (.iload_n 1, 1) := by decide +kernel
theorem dX24_isBlock_2 : decode cX24_isBlock 2 = .ok (.invokevirtual 121, 3) := by decide +kernel
theorem dX24_isBlock_5 : decode cX24_isBlock 5 = .ok (.ifCond .eq 24, 3) := by decide +kernel
theorem dX24_isBlock_29 : decode cX24_isBlock 29 = .ok (.iconst 0, 1) := by decide +kernel
theorem dX24_isBlock_30 : decode cX24_isBlock 30 = .ok (.ireturn, 1) := by decide +kernel
theorem dX24_isFunction_0 : decode cX24_isFunction 0 = .ok (.iload_n 1, 1) := by decide +kernel
theorem dX24_isFunction_1 : decode cX24_isFunction 1 = .ok (.ifCond .lt 16, 3) := by decide +kernel
theorem dX24_isFunction_4 : decode cX24_isFunction 4 = .ok (.iload_n 1, 1) := by decide +kernel
theorem dX24_isFunction_5 : decode cX24_isFunction 5 = .ok (.aload_n 0, 1) := by decide +kernel
theorem dX24_isFunction_6 : decode cX24_isFunction 6 = .ok (.getfield 32, 3) := by decide +kernel
theorem dX24_isFunction_9 : decode cX24_isFunction 9 = .ok (.arraylength, 1) := by decide +kernel
theorem dX24_isFunction_10 : decode cX24_isFunction 10 = .ok (.if_icmp .ge 7, 3) := by decide +kernel
theorem dX24_isFunction_17 : decode cX24_isFunction 17 = .ok (.iconst 0, 1) := by decide +kernel
theorem dX24_isFunction_18 : decode cX24_isFunction 18 = .ok (.ireturn, 1) := by decide +kernel
theorem dX24_isPhi_0 : decode cX24_isPhi 0 = .ok (.aload_n 0, 1) := by decide +kernel
theorem dX24_isPhi_1 : decode cX24_isPhi 1 = .ok (.iload_n 1, 1) := by decide +kernel
theorem dX24_isPhi_2 : decode cX24_isPhi 2 = .ok (.iload_n 2, 1) := by decide +kernel
theorem dX24_isPhi_3 : decode cX24_isPhi 3 = .ok (.invokevirtual 163, 3) := by decide +kernel
theorem dX24_isPhi_6 : decode cX24_isPhi 6 = .ok (.ifCond .eq 24, 3) := by decide +kernel
theorem dX24_isPhi_30 : decode cX24_isPhi 30 = .ok (.iconst 0, 1) := by decide +kernel
theorem dX24_isPhi_31 : decode cX24_isPhi 31 = .ok (.ireturn, 1) := by decide +kernel
theorem dX24_kindOf_0 : decode cX24_kindOf 0 = .ok (.aload_n 0, 1) := by decide +kernel
theorem dX24_kindOf_1 : decode cX24_kindOf 1 = .ok (.iload_n 1, 1) := by decide +kernel
theorem dX24_kindOf_2 : decode cX24_kindOf 2 = .ok (.iload_n 2, 1) := by decide +kernel
theorem dX24_kindOf_3 : decode cX24_kindOf 3 = .ok (.iload_n 3, 1) := by decide +kernel
theorem dX24_kindOf_4 : decode cX24_kindOf 4 = .ok (.iconst 0, 1) := by decide +kernel
theorem dX24_kindOf_5 : decode cX24_kindOf 5 = .ok (.invokevirtual 213, 3) := by decide +kernel
theorem dX24_kindOf_8 : decode cX24_kindOf 8 = .ok (.ireturn, 1) := by decide +kernel
theorem dX24_leftOf_0 : decode cX24_leftOf 0 = .ok (.aload_n 0, 1) := by decide +kernel
theorem dX24_leftOf_1 : decode cX24_leftOf 1 = .ok (.iload_n 1, 1) := by decide +kernel
theorem dX24_leftOf_2 : decode cX24_leftOf 2 = .ok (.iload_n 2, 1) := by decide +kernel
theorem dX24_leftOf_3 : decode cX24_leftOf 3 = .ok (.iload_n 3, 1) := by decide +kernel
theorem dX24_leftOf_4 : decode cX24_leftOf 4 = .ok (.iconst 2, 1) := by decide +kernel
theorem dX24_leftOf_5 : decode cX24_leftOf 5 = .ok (.invokevirtual 213, 3) := by decide +kernel
theorem dX24_leftOf_8 : decode cX24_leftOf 8 = .ok (.ireturn, 1) := by decide +kernel
theorem dX24_lift_0 : decode cX24_lift 0 = .ok (.aload_n 0, 1) := by decide +kernel
theorem dX24_lift_1 : decode cX24_lift 1 = .ok (.iconst 3, 1) := by decide +kernel
theorem dX24_lift_2 : decode cX24_lift 2 = .ok (.invokevirtual 244, 3) := by decide +kernel
theorem dX24_lift_5 : decode cX24_lift 5 = .ok (.ireturn, 1) := by decide +kernel
theorem dX24_lines_0 : decode cX24_lines 0 = .ok (.aload_n 0, 1) := by decide +kernel
theorem dX24_lines_1 : decode cX24_lines 1 = .ok (.iconst 0, 1) := by decide +kernel
theorem dX24_lines_2 : decode cX24_lines 2 = .ok (.putfield 52, 3) := by decide +kernel
theorem dX24_lines_5 : decode cX24_lines 5 = .ok (.aload_n 0, 1) := by decide +kernel
theorem dX24_lines_6 : decode cX24_lines 6 = .ok (.iload_n 1, 1) := by decide +kernel
theorem dX24_lines_7 : decode cX24_lines 7 = .ok (.invokevirtual 121, 3) := by decide +kernel
theorem dX24_lines_10 : decode cX24_lines 10 = .ok (.ifCond .eq 26, 3) := by decide +kernel
theorem dX24_lines_36 : decode cX24_lines 36 = .ok (.aload_n 0, 1) := by decide +kernel
theorem dX24_lines_37 : decode cX24_lines 37 = .ok (.iconst 1, 1) := by decide +kernel
theorem dX24_lines_38 : decode cX24_lines 38 = .ok (.invokevirtual 58, 3) := by decide +kernel
theorem dX24_lines_41 : decode cX24_lines 41 = .ok (.ireturn, 1) := by decide +kernel
theorem dX24_meanCode_0 : decode cX24_meanCode 0 = .ok (.aload_n 0, 1) := by decide +kernel
theorem dX24_meanCode_1 : decode cX24_meanCode 1 = .ok (.iconst 0, 1) := by decide +kernel
theorem dX24_meanCode_2 : decode cX24_meanCode 2 = .ok (.putfield 52, 3) := by decide +kernel
theorem dX24_meanCode_5 : decode cX24_meanCode 5 = .ok (.iconst 0, 1) := by decide +kernel
theorem dX24_meanCode_6 : decode cX24_meanCode 6 = .ok (.istore_n 1, 1) := by decide +kernel
theorem dX24_meanCode_7 : decode cX24_meanCode 7 = .ok (.aload_n 0, 1) := by decide +kernel
theorem dX24_meanCode_8 : decode cX24_meanCode 8 = .ok (.getfield 38, 3) := by decide +kernel
theorem dX24_meanCode_11 : decode cX24_meanCode 11 = .ok (.astore_n 2, 1) := by decide +kernel
theorem dX24_meanCode_12 : decode cX24_meanCode 12 = .ok (.aload_n 2, 1) := by decide +kernel
theorem dX24_meanCode_13 : decode cX24_meanCode 13 = .ok (.arraylength, 1) := by decide +kernel
theorem dX24_meanCode_14 : decode cX24_meanCode 14 = .ok (.istore_n 3, 1) := by decide +kernel
theorem dX24_meanCode_15 : decode cX24_meanCode 15 = .ok (.iconst 0, 1) := by decide +kernel
theorem dX24_meanCode_16 : decode cX24_meanCode 16 = .ok (.istore 4, 2) := by decide +kernel
theorem dX24_meanCode_18 : decode cX24_meanCode 18 = .ok (.iload 4, 2) := by decide +kernel
theorem dX24_meanCode_20 : decode cX24_meanCode 20 = .ok (.iload_n 3, 1) := by decide +kernel
theorem dX24_meanCode_21 : decode cX24_meanCode 21 = .ok (.if_icmp .ge 23, 3) := by decide +kernel
theorem dX24_meanCode_44 : decode cX24_meanCode 44 = .ok (.aload_n 0, 1) := by decide +kernel
theorem dX24_meanCode_45 : decode cX24_meanCode 45 = .ok (.getfield 38, 3) := by decide +kernel
theorem dX24_meanCode_48 : decode cX24_meanCode 48 = .ok (.arraylength, 1) := by decide +kernel
theorem dX24_meanCode_49 : decode cX24_meanCode 49 = .ok (.ifCond .ne 7, 3) := by decide +kernel
theorem dX24_meanCode_52 : decode cX24_meanCode 52 = .ok (.dconst 0, 1) := by decide +kernel
theorem dX24_meanCode_53 : decode cX24_meanCode 53 = .ok (.goto 12, 3) := by decide +kernel
theorem dX24_meanCode_65 : decode cX24_meanCode 65 = .ok (.dreturn, 1) := by decide +kernel
theorem dX24_merge_0 : decode cX24_merge 0 = .ok (.aload_n 0, 1) := by decide +kernel
theorem dX24_merge_1 : decode cX24_merge 1 = .ok (.iconst 4, 1) := by decide +kernel
theorem dX24_merge_2 : decode cX24_merge 2 = .ok (.invokevirtual 244, 3) := by decide +kernel
theorem dX24_merge_5 : decode cX24_merge 5 = .ok (.ireturn, 1) := by decide +kernel
theorem dX24_no_0 : decode cX24_no 0 = .ok (.aload_n 0, 1) := by decide +kernel
theorem dX24_no_1 : decode cX24_no 1 = .ok (.iload_n 1, 1) := by decide +kernel
theorem dX24_no_2 : decode cX24_no 2 = .ok (.putfield 52, 3) := by decide +kernel
theorem dX24_no_5 : decode cX24_no 5 = .ok (.iconst 0, 1) := by decide +kernel
theorem dX24_no_6 : decode cX24_no 6 = .ok (.ireturn, 1) := by decide +kernel
theorem dX24_ok_0 : decode cX24_ok 0 = .ok (.aload_n 0, 1) := by decide +kernel
theorem dX24_ok_1 : decode cX24_ok 1 = .ok (.iconst 0, 1) := by decide +kernel
theorem dX24_ok_2 : decode cX24_ok 2 = .ok (.putfield 52, 3) := by decide +kernel
theorem dX24_ok_5 : decode cX24_ok 5 = .ok (.iload_n 1, 1) := by decide +kernel
theorem dX24_ok_6 : decode cX24_ok 6 = .ok (.ireturn, 1) := by decide +kernel
theorem dX24_outcome_0 : decode cX24_outcome 0 = .ok (.aload_n 0, 1) := by decide +kernel
theorem dX24_outcome_1 : decode cX24_outcome 1 = .ok (.aload_n 0, 1) := by decide +kernel
theorem dX24_outcome_2 : decode cX24_outcome 2 = .ok (.getfield 45, 3) := by decide +kernel
theorem dX24_outcome_5 : decode cX24_outcome 5 = .ok (.getfield 292, 3) := by decide +kernel
theorem dX24_outcome_8 : decode cX24_outcome 8 = .ok (.invokevirtual 118, 3) := by decide +kernel
theorem dX24_outcome_11 : decode cX24_outcome 11 = .ok (.ireturn, 1) := by decide +kernel
theorem dX24_parametersOf_0 : decode cX24_parametersOf 0 = .ok (.aload_n 0, 1) := by decide +kernel
theorem dX24_parametersOf_1 : decode cX24_parametersOf 1 = .ok (.iconst 0, 1) := by decide +kernel
theorem dX24_parametersOf_2 : decode cX24_parametersOf 2 = .ok (.putfield 52, 3) := by decide +kernel
theorem dX24_parametersOf_5 : decode cX24_parametersOf 5 = .ok (.aload_n 0, 1) := by decide +kernel
theorem dX24_parametersOf_6 : decode cX24_parametersOf 6 = .ok (.iload_n 1, 1) := by decide +kernel
theorem dX24_parametersOf_7 : decode cX24_parametersOf 7 = .ok (.invokevirtual 121, 3) := by decide +kernel
theorem dX24_parametersOf_10 : decode cX24_parametersOf 10 = .ok (.ifCond .eq 15, 3) := by decide +kernel
theorem dX24_parametersOf_25 : decode cX24_parametersOf 25 = .ok (.aload_n 0, 1) := by decide +kernel
theorem dX24_parametersOf_26 : decode cX24_parametersOf 26 = .ok (.iconst 1, 1) := by decide +kernel
theorem dX24_parametersOf_27 : decode cX24_parametersOf 27 = .ok (.invokevirtual 58, 3) := by decide +kernel
theorem dX24_parametersOf_30 : decode cX24_parametersOf 30 = .ok (.ireturn, 1) := by decide +kernel
theorem dX24_passAll_0 : decode cX24_passAll 0 = .ok (.aload_n 0, 1) := by decide +kernel
theorem dX24_passAll_1 : decode cX24_passAll 1 = .ok (.iconst 0, 1) := by decide +kernel
theorem dX24_passAll_2 : decode cX24_passAll 2 = .ok (.putfield 52, 3) := by decide +kernel
theorem dX24_passAll_5 : decode cX24_passAll 5 = .ok (.iconst 0, 1) := by decide +kernel
theorem dX24_passAll_6 : decode cX24_passAll 6 = .ok (.istore_n 2, 1) := by decide +kernel
theorem dX24_passAll_7 : decode cX24_passAll 7 = .ok (.aload_n 0, 1) := by decide +kernel
theorem dX24_passAll_8 : decode cX24_passAll 8 = .ok (.getfield 32, 3) := by decide +kernel
theorem dX24_passAll_11 : decode cX24_passAll 11 = .ok (.astore_n 3, 1) := by decide +kernel
theorem dX24_passAll_12 : decode cX24_passAll 12 = .ok (.aload_n 3, 1) := by decide +kernel
theorem dX24_passAll_13 : decode cX24_passAll 13 = .ok (.arraylength, 1) := by decide +kernel
theorem dX24_passAll_14 : decode cX24_passAll 14 = .ok (.istore 4, 2) := by decide +kernel
theorem dX24_passAll_16 : decode cX24_passAll 16 = .ok (.iconst 0, 1) := by decide +kernel
theorem dX24_passAll_17 : decode cX24_passAll 17 = .ok (.istore 5, 2) := by decide +kernel
theorem dX24_passAll_19 : decode cX24_passAll 19 = .ok (.iload 5, 2) := by decide +kernel
theorem dX24_passAll_21 : decode cX24_passAll 21 = .ok (.iload 4, 2) := by decide +kernel
theorem dX24_passAll_23 : decode cX24_passAll 23 = .ok (.if_icmp .ge 24, 3) := by decide +kernel
theorem dX24_passAll_47 : decode cX24_passAll 47 = .ok (.iload_n 2, 1) := by decide +kernel
theorem dX24_passAll_48 : decode cX24_passAll 48 = .ok (.ireturn, 1) := by decide +kernel
theorem dX24_phiGives_0 : decode cX24_phiGives 0 = .ok (.aload_n 0, 1) := by decide +kernel
theorem dX24_phiGives_1 : decode cX24_phiGives 1 = .ok (.iconst 0, 1) := by decide +kernel
theorem dX24_phiGives_2 : decode cX24_phiGives 2 = .ok (.putfield 52, 3) := by decide +kernel
theorem dX24_phiGives_5 : decode cX24_phiGives 5 = .ok (.aload_n 0, 1) := by decide +kernel
theorem dX24_phiGives_6 : decode cX24_phiGives 6 = .ok (.iload_n 1, 1) := by decide +kernel
theorem dX24_phiGives_7 : decode cX24_phiGives 7 = .ok (.iload_n 2, 1) := by decide +kernel
theorem dX24_phiGives_8 : decode cX24_phiGives 8 = .ok (.iload_n 3, 1) := by decide +kernel
theorem dX24_phiGives_9 : decode cX24_phiGives 9 = .ok (.invokevirtual 207, 3) := by decide +kernel
theorem dX24_phiGives_12 : decode cX24_phiGives 12 = .ok (.ifCond .eq 20, 3) := by decide +kernel
theorem dX24_phiGives_32 : decode cX24_phiGives 32 = .ok (.aload_n 0, 1) := by decide +kernel
theorem dX24_phiGives_33 : decode cX24_phiGives 33 = .ok (.iconst 1, 1) := by decide +kernel
theorem dX24_phiGives_34 : decode cX24_phiGives 34 = .ok (.invokevirtual 58, 3) := by decide +kernel
theorem dX24_phiGives_37 : decode cX24_phiGives 37 = .ok (.ireturn, 1) := by decide +kernel
theorem dX24_phiTakes_0 : decode cX24_phiTakes 0 = .ok (.aload_n 0, 1) := by decide +kernel
theorem dX24_phiTakes_1 : decode cX24_phiTakes 1 = .ok (.iconst 0, 1) := by decide +kernel
theorem dX24_phiTakes_2 : decode cX24_phiTakes 2 = .ok (.putfield 52, 3) := by decide +kernel
theorem dX24_phiTakes_5 : decode cX24_phiTakes 5 = .ok (.aload_n 0, 1) := by decide +kernel
theorem dX24_phiTakes_6 : decode cX24_phiTakes 6 = .ok (.iload_n 1, 1) := by decide +kernel
theorem dX24_phiTakes_7 : decode cX24_phiTakes 7 = .ok (.iload_n 2, 1) := by decide +kernel
theorem dX24_phiTakes_8 : decode cX24_phiTakes 8 = .ok (.iload_n 3, 1) := by decide +kernel
theorem dX24_phiTakes_9 : decode cX24_phiTakes 9 = .ok (.invokevirtual 207, 3) := by decide +kernel
theorem dX24_phiTakes_12 : decode cX24_phiTakes 12 = .ok (.ifCond .eq 14, 3) := by decide +kernel
theorem dX24_phiTakes_26 : decode cX24_phiTakes 26 = .ok (.aload_n 0, 1) := by decide +kernel
theorem dX24_phiTakes_27 : decode cX24_phiTakes 27 = .ok (.iconst 1, 1) := by decide +kernel
theorem dX24_phiTakes_28 : decode cX24_phiTakes 28 = .ok (.invokevirtual 58, 3) := by decide +kernel
theorem dX24_phiTakes_31 : decode cX24_phiTakes 31 = .ok (.ireturn, 1) := by decide +kernel
theorem dX24_phis_0 : decode cX24_phis 0 = .ok (.aload_n 0, 1) := by decide +kernel
theorem dX24_phis_1 : decode cX24_phis 1 = .ok (.iconst 0, 1) := by decide +kernel
theorem dX24_phis_2 : decode cX24_phis 2 = .ok (.putfield 52, 3) := by decide +kernel
theorem dX24_phis_5 : decode cX24_phis 5 = .ok (.aload_n 0, 1) := by decide +kernel
theorem dX24_phis_6 : decode cX24_phis 6 = .ok (.iload_n 1, 1) := by decide +kernel
theorem dX24_phis_7 : decode cX24_phis 7 = .ok (.iload_n 2, 1) := by decide +kernel
theorem dX24_phis_8 : decode cX24_phis 8 = .ok (.invokevirtual 163, 3) := by decide +kernel
theorem dX24_phis_11 : decode cX24_phis 11 = .ok (.ifCond .eq 15, 3) := by decide +kernel
theorem dX24_phis_26 : decode cX24_phis 26 = .ok (.aload_n 0, 1) := by decide +kernel
theorem dX24_phis_27 : decode cX24_phis 27 = .ok (.iconst 1, 1) := by decide +kernel
theorem dX24_phis_28 : decode cX24_phis 28 = .ok (.invokevirtual 58, 3) := by decide +kernel
theorem dX24_phis_31 : decode cX24_phis 31 = .ok (.ireturn, 1) := by decide +kernel
theorem dX24_predecessor_0 : decode cX24_predecessor 0 = .ok (.aload_n 0, 1) := by decide +kernel
theorem dX24_predecessor_1 : decode cX24_predecessor 1 = .ok (.iconst 0, 1) := by decide +kernel
theorem dX24_predecessor_2 : decode cX24_predecessor 2 = .ok (.putfield 52, 3) := by decide +kernel
theorem dX24_predecessor_5 : decode cX24_predecessor 5 = .ok (.aload_n 0, 1) := by decide +kernel
theorem dX24_predecessor_6 : decode cX24_predecessor 6 = .ok (.iload_n 1, 1) := by decide +kernel
theorem dX24_predecessor_7 : decode cX24_predecessor 7 = .ok (.iload_n 2, 1) := by decide +kernel
theorem dX24_predecessor_8 : decode cX24_predecessor 8 = .ok (.iload_n 3, 1) := by decide +kernel
theorem dX24_predecessor_9 : decode cX24_predecessor 9 = .ok (.invokevirtual 180, 3) := by decide +kernel
theorem dX24_predecessor_12 : decode cX24_predecessor 12 = .ok (.ifCond .eq 20, 3) := by decide +kernel
theorem dX24_predecessor_32 : decode cX24_predecessor 32 = .ok (.aload_n 0, 1) := by decide +kernel
theorem dX24_predecessor_33 : decode cX24_predecessor 33 = .ok (.iconst 1, 1) := by decide +kernel
theorem dX24_predecessor_34 : decode cX24_predecessor 34 = .ok (.invokevirtual 58, 3) := by decide +kernel
theorem dX24_predecessor_37 : decode cX24_predecessor 37 = .ok (.ireturn, 1) := by decide +kernel
theorem dX24_predecessors_0 : decode cX24_predecessors 0 = .ok (.aload_n 0, 1) := by decide +kernel
theorem dX24_predecessors_1 : decode cX24_predecessors 1 = .ok (.iconst 0, 1) := by decide +kernel
theorem dX24_predecessors_2 : decode cX24_predecessors 2 = .ok (.putfield 52, 3) := by decide +kernel
theorem dX24_predecessors_5 : decode cX24_predecessors 5 = .ok (.aload_n 0, 1) := by decide +kernel
theorem dX24_predecessors_6 : decode cX24_predecessors 6 = .ok (.iload_n 1, 1) := by decide +kernel
theorem dX24_predecessors_7 : decode cX24_predecessors 7 = .ok (.iload_n 2, 1) := by decide +kernel
theorem dX24_predecessors_8 : decode cX24_predecessors 8 = .ok (.invokevirtual 163, 3) := by decide +kernel
theorem dX24_predecessors_11 : decode cX24_predecessors 11 = .ok (.ifCond .eq 15, 3) := by decide +kernel
theorem dX24_predecessors_26 : decode cX24_predecessors 26 = .ok (.aload_n 0, 1) := by decide +kernel
theorem dX24_predecessors_27 : decode cX24_predecessors 27 = .ok (.iconst 1, 1) := by decide +kernel
theorem dX24_predecessors_28 : decode cX24_predecessors 28 = .ok (.invokevirtual 58, 3) := by decide +kernel
theorem dX24_predecessors_31 : decode cX24_predecessors 31 = .ok (.ireturn, 1) := by decide +kernel
theorem dX24_restore_0 : decode cX24_restore 0 = .ok (.aload_n 0, 1) := by decide +kernel
theorem dX24_restore_1 : decode cX24_restore 1 = .ok (.iconst 0, 1) := by decide +kernel
theorem dX24_restore_2 : decode cX24_restore 2 = .ok (.putfield 52, 3) := by decide +kernel
theorem dX24_restore_5 : decode cX24_restore 5 = .ok (.iconst 0, 1) := by decide +kernel
theorem dX24_restore_6 : decode cX24_restore 6 = .ok (.istore_n 1, 1) := by decide +kernel
theorem dX24_restore_7 : decode cX24_restore 7 = .ok (.aload_n 0, 1) := by decide +kernel
theorem dX24_restore_8 : decode cX24_restore 8 = .ok (.iconst 0, 1) := by decide +kernel
theorem dX24_restore_9 : decode cX24_restore 9 = .ok (.anewarray 36, 3) := by decide +kernel
theorem dX24_restore_12 : decode cX24_restore 12 = .ok (.putfield 38, 3) := by decide +kernel
theorem dX24_restore_15 : decode cX24_restore 15 = .ok (.iconst 0, 1) := by decide +kernel
theorem dX24_restore_16 : decode cX24_restore 16 = .ok (.istore_n 2, 1) := by decide +kernel
theorem dX24_restore_17 : decode cX24_restore 17 = .ok (.iload_n 2, 1) := by decide +kernel
theorem dX24_restore_18 : decode cX24_restore 18 = .ok (.aload_n 0, 1) := by decide +kernel
theorem dX24_restore_19 : decode cX24_restore 19 = .ok (.getfield 32, 3) := by decide +kernel
theorem dX24_restore_22 : decode cX24_restore 22 = .ok (.arraylength, 1) := by decide +kernel
theorem dX24_restore_23 : decode cX24_restore 23 = .ok (.if_icmp .ge 35, 3) := by decide +kernel
theorem dX24_restore_58 : decode cX24_restore 58 = .ok (.iload_n 1, 1) := by decide +kernel
theorem dX24_restore_59 : decode cX24_restore 59 = .ok (.ireturn, 1) := by decide +kernel
theorem dX24_result_0 : decode cX24_result 0 = .ok (.aload_n 0, 1) := by decide +kernel
theorem dX24_result_1 : decode cX24_result 1 = .ok (.aload_n 0, 1) := by decide +kernel
theorem dX24_result_2 : decode cX24_result 2 = .ok (.getfield 45, 3) := by decide +kernel
theorem dX24_result_5 : decode cX24_result 5 = .ok (.getfield 295, 3) := by decide +kernel
theorem dX24_result_8 : decode cX24_result 8 = .ok (.invokevirtual 118, 3) := by decide +kernel
theorem dX24_result_11 : decode cX24_result 11 = .ok (.ireturn, 1) := by decide +kernel
theorem dX24_rightOf_0 : decode cX24_rightOf 0 = .ok (.aload_n 0, 1) := by decide +kernel
theorem dX24_rightOf_1 : decode cX24_rightOf 1 = .ok (.iload_n 1, 1) := by decide +kernel
theorem dX24_rightOf_2 : decode cX24_rightOf 2 = .ok (.iload_n 2, 1) := by decide +kernel
theorem dX24_rightOf_3 : decode cX24_rightOf 3 = .ok (.iload_n 3, 1) := by decide +kernel
theorem dX24_rightOf_4 : decode cX24_rightOf 4 = .ok (.iconst 3, 1) := by decide +kernel
theorem dX24_rightOf_5 : decode cX24_rightOf 5 = .ok (.invokevirtual 213, 3) := by decide +kernel
theorem dX24_rightOf_8 : decode cX24_rightOf 8 = .ok (.ireturn, 1) := by decide +kernel
theorem dX24_rounds_0 : decode cX24_rounds 0 = .ok (.aload_n 0, 1) := by decide +kernel
theorem dX24_rounds_1 : decode cX24_rounds 1 = .ok (.iconst 0, 1) := by decide +kernel
theorem dX24_rounds_2 : decode cX24_rounds 2 = .ok (.putfield 52, 3) := by decide +kernel
theorem dX24_rounds_5 : decode cX24_rounds 5 = .ok (.aload_n 0, 1) := by decide +kernel
theorem dX24_rounds_6 : decode cX24_rounds 6 = .ok (.iload_n 1, 1) := by decide +kernel
theorem dX24_rounds_7 : decode cX24_rounds 7 = .ok (.invokevirtual 121, 3) := by decide +kernel
theorem dX24_rounds_10 : decode cX24_rounds 10 = .ok (.ifCond .eq 26, 3) := by decide +kernel
theorem dX24_rounds_36 : decode cX24_rounds 36 = .ok (.aload_n 0, 1) := by decide +kernel
theorem dX24_rounds_37 : decode cX24_rounds 37 = .ok (.iconst 1, 1) := by decide +kernel
theorem dX24_rounds_38 : decode cX24_rounds 38 = .ok (.invokevirtual 58, 3) := by decide +kernel
theorem dX24_rounds_41 : decode cX24_rounds 41 = .ok (.ireturn, 1) := by decide +kernel
theorem dX24_run__0 : decode cX24_run_ 0 = .ok (.aload_n 0, 1) := by decide +kernel
theorem dX24_run__1 : decode cX24_run_ 1 = .ok (.iconst 0, 1) := by decide +kernel
theorem dX24_run__2 : decode cX24_run_ 2 = .ok (.putfield 52, 3) := by decide +kernel
theorem dX24_run__5 : decode cX24_run_ 5 = .ok (.aload_n 0, 1) := by decide +kernel
theorem dX24_run__6 : decode cX24_run_ 6 = .ok (.iload_n 2, 1) := by decide +kernel
theorem dX24_run__7 : decode cX24_run_ 7 = .ok (.invokevirtual 121, 3) := by decide +kernel
theorem dX24_run__10 : decode cX24_run_ 10 = .ok (.ifCond .ne 9, 3) := by decide +kernel
theorem dX24_run__13 : decode cX24_run_ 13 = .ok (.aload_n 0, 1) := by decide +kernel
theorem dX24_run__14 : decode cX24_run_ 14 = .ok (.iconst 1, 1) := by decide +kernel
theorem dX24_run__15 : decode cX24_run_ 15 = .ok (.invokevirtual 58, 3) := by decide +kernel
theorem dX24_run__18 : decode cX24_run_ 18 = .ok (.ireturn, 1) := by decide +kernel
theorem dX24_same_0 : decode cX24_same 0 = .ok (.aload_n 0, 1) := by decide +kernel
theorem dX24_same_1 : decode cX24_same 1 = .ok (.iconst 1, 1) := by decide +kernel
theorem dX24_same_2 : decode cX24_same 2 = .ok (.invokevirtual 244, 3) := by decide +kernel
theorem dX24_same_5 : decode cX24_same 5 = .ok (.ireturn, 1) := by decide +kernel
theorem dX24_settle_0 : decode cX24_settle 0 = .ok (.iconst 0, 1) := by decide +kernel
theorem dX24_settle_1 : decode cX24_settle 1 = .ok (.istore_n 1, 1) := by decide +kernel
theorem dX24_settle_2 : decode cX24_settle 2 = .ok (.iconst 1, 1) := by decide +kernel
theorem dX24_settle_3 : decode cX24_settle 3 = .ok (.istore_n 2, 1) := by decide +kernel
theorem dX24_settle_4 : decode cX24_settle 4 = .ok (.iload_n 2, 1) := by decide +kernel
theorem dX24_settle_5 : decode cX24_settle 5 = .ok (.ifCond .le 32, 3) := by decide +kernel
theorem dX24_settle_8 : decode cX24_settle 8 = .ok (.iconst 0, 1) := by decide +kernel
theorem dX24_settle_9 : decode cX24_settle 9 = .ok (.istore_n 2, 1) := by decide +kernel
theorem dX24_settle_10 : decode cX24_settle 10 = .ok (.iconst 0, 1) := by decide +kernel
theorem dX24_settle_11 : decode cX24_settle 11 = .ok (.istore_n 3, 1) := by decide +kernel
theorem dX24_settle_12 : decode cX24_settle 12 = .ok (.iload_n 3, 1) := by decide +kernel
theorem dX24_settle_13 : decode cX24_settle 13 = .ok (.iconst 5, 1) := by decide +kernel
theorem dX24_settle_14 : decode cX24_settle 14 = .ok (.if_icmp .ge 17, 3) := by decide +kernel
theorem dX24_settle_17 : decode cX24_settle 17 = .ok (.iload_n 2, 1) := by decide +kernel
theorem dX24_settle_18 : decode cX24_settle 18 = .ok (.aload_n 0, 1) := by decide +kernel
theorem dX24_settle_19 : decode cX24_settle 19 = .ok (.iload_n 3, 1) := by decide +kernel
theorem dX24_settle_20 : decode cX24_settle 20 = .ok (.invokevirtual 244, 3) := by decide +kernel
theorem dX24_settle_23 : decode cX24_settle 23 = .ok (.iadd, 1) := by decide +kernel
theorem dX24_settle_24 : decode cX24_settle 24 = .ok (.istore_n 2, 1) := by decide +kernel
theorem dX24_settle_25 : decode cX24_settle 25 = .ok (.iinc 3 1, 3) := by decide +kernel
theorem dX24_settle_28 : decode cX24_settle 28 = .ok (.goto (-16), 3) := by decide +kernel
theorem dX24_settle_31 : decode cX24_settle 31 = .ok (.iinc 1 1, 3) := by decide +kernel
theorem dX24_settle_34 : decode cX24_settle 34 = .ok (.goto (-30), 3) := by decide +kernel
theorem dX24_settle_37 : decode cX24_settle 37 = .ok (.iload_n 1, 1) := by decide +kernel
theorem dX24_settle_38 : decode cX24_settle 38 = .ok (.ireturn, 1) := by decide +kernel
theorem dX24_slots_0 : decode cX24_slots 0 = .ok (.aload_n 0, 1) := by decide +kernel
theorem dX24_slots_1 : decode cX24_slots 1 = .ok (.iconst 0, 1) := by decide +kernel
theorem dX24_slots_2 : decode cX24_slots 2 = .ok (.putfield 52, 3) := by decide +kernel
theorem dX24_slots_5 : decode cX24_slots 5 = .ok (.aload_n 0, 1) := by decide +kernel
theorem dX24_slots_6 : decode cX24_slots 6 = .ok (.iload_n 1, 1) := by decide +kernel
theorem dX24_slots_7 : decode cX24_slots 7 = .ok (.invokevirtual 121, 3) := by decide +kernel
theorem dX24_slots_10 : decode cX24_slots 10 = .ok (.ifCond .eq 26, 3) := by decide +kernel
theorem dX24_slots_36 : decode cX24_slots 36 = .ok (.aload_n 0, 1) := by decide +kernel
theorem dX24_slots_37 : decode cX24_slots 37 = .ok (.iconst 1, 1) := by decide +kernel
theorem dX24_slots_38 : decode cX24_slots 38 = .ok (.invokevirtual 58, 3) := by decide +kernel
theorem dX24_slots_41 : decode cX24_slots 41 = .ok (.ireturn, 1) := by decide +kernel
theorem dX24_steps_0 : decode cX24_steps 0 = .ok (.aload_n 0, 1) := by decide +kernel
theorem dX24_steps_1 : decode cX24_steps 1 = .ok (.iconst 0, 1) := by decide +kernel
theorem dX24_steps_2 : decode cX24_steps 2 = .ok (.putfield 52, 3) := by decide +kernel
theorem dX24_steps_5 : decode cX24_steps 5 = .ok (.aload_n 0, 1) := by decide +kernel
theorem dX24_steps_6 : decode cX24_steps 6 = .ok (.iload_n 1, 1) := by decide +kernel
theorem dX24_steps_7 : decode cX24_steps 7 = .ok (.iload_n 2, 1) := by decide +kernel
theorem dX24_steps_8 : decode cX24_steps 8 = .ok (.invokevirtual 163, 3) := by decide +kernel
theorem dX24_steps_11 : decode cX24_steps 11 = .ok (.ifCond .eq 15, 3) := by decide +kernel
theorem dX24_steps_26 : decode cX24_steps 26 = .ok (.aload_n 0, 1) := by decide +kernel
theorem dX24_steps_27 : decode cX24_steps 27 = .ok (.iconst 1, 1) := by decide +kernel
theorem dX24_steps_28 : decode cX24_steps 28 = .ok (.invokevirtual 58, 3) := by decide +kernel
theorem dX24_steps_31 : decode cX24_steps 31 = .ok (.ireturn, 1) := by decide +kernel
theorem dX24_stepsRun_0 : decode cX24_stepsRun 0 = .ok (.aload_n 0, 1) := by decide +kernel
theorem dX24_stepsRun_1 : decode cX24_stepsRun 1 = .ok (.aload_n 0, 1) := by decide +kernel
theorem dX24_stepsRun_2 : decode cX24_stepsRun 2 = .ok (.getfield 45, 3) := by decide +kernel
theorem dX24_stepsRun_5 : decode cX24_stepsRun 5 = .ok (.getfield 298, 3) := by decide +kernel
theorem dX24_stepsRun_8 : decode cX24_stepsRun 8 = .ok (.invokevirtual 118, 3) := by decide +kernel
theorem dX24_stepsRun_11 : decode cX24_stepsRun 11 = .ok (.ireturn, 1) := by decide +kernel
theorem dX24_successor_0 : decode cX24_successor 0 = .ok (.aload_n 0, 1) := by decide +kernel
theorem dX24_successor_1 : decode cX24_successor 1 = .ok (.iconst 0, 1) := by decide +kernel
theorem dX24_successor_2 : decode cX24_successor 2 = .ok (.putfield 52, 3) := by decide +kernel
theorem dX24_successor_5 : decode cX24_successor 5 = .ok (.aload_n 0, 1) := by decide +kernel
theorem dX24_successor_6 : decode cX24_successor 6 = .ok (.iload_n 1, 1) := by decide +kernel
theorem dX24_successor_7 : decode cX24_successor 7 = .ok (.iload_n 2, 1) := by decide +kernel
theorem dX24_successor_8 : decode cX24_successor 8 = .ok (.invokevirtual 163, 3) := by decide +kernel
theorem dX24_successor_11 : decode cX24_successor 11 = .ok (.ifCond .ne 9, 3) := by decide +kernel
theorem dX24_successor_14 : decode cX24_successor 14 = .ok (.aload_n 0, 1) := by decide +kernel
theorem dX24_successor_15 : decode cX24_successor 15 = .ok (.iconst 1, 1) := by decide +kernel
theorem dX24_successor_16 : decode cX24_successor 16 = .ok (.invokevirtual 58, 3) := by decide +kernel
theorem dX24_successor_19 : decode cX24_successor 19 = .ok (.ireturn, 1) := by decide +kernel
theorem dX24_thrown_0 : decode cX24_thrown 0 = .ok (.aload_n 0, 1) := by decide +kernel
theorem dX24_thrown_1 : decode cX24_thrown 1 = .ok (.getfield 52, 3) := by decide +kernel
theorem dX24_thrown_4 : decode cX24_thrown 4 = .ok (.ireturn, 1) := by decide +kernel
theorem dX24_trim_0 : decode cX24_trim 0 = .ok (.aload_n 0, 1) := by decide +kernel
theorem dX24_trim_1 : decode cX24_trim 1 = .ok (.iconst 0, 1) := by decide +kernel
theorem dX24_trim_2 : decode cX24_trim 2 = .ok (.putfield 52, 3) := by decide +kernel
theorem dX24_trim_5 : decode cX24_trim 5 = .ok (.iload_n 1, 1) := by decide +kernel
theorem dX24_trim_6 : decode cX24_trim 6 = .ok (.ifCond .lt 11, 3) := by decide +kernel
theorem dX24_trim_9 : decode cX24_trim 9 = .ok (.iload_n 1, 1) := by decide +kernel
theorem dX24_trim_10 : decode cX24_trim 10 = .ok (.aload_n 0, 1) := by decide +kernel
theorem dX24_trim_11 : decode cX24_trim 11 = .ok (.getfield 55, 3) := by decide +kernel
theorem dX24_trim_14 : decode cX24_trim 14 = .ok (.if_icmp .le 9, 3) := by decide +kernel
theorem dX24_trim_17 : decode cX24_trim 17 = .ok (.aload_n 0, 1) := by decide +kernel
theorem dX24_trim_18 : decode cX24_trim 18 = .ok (.iconst 1, 1) := by decide +kernel
theorem dX24_trim_19 : decode cX24_trim 19 = .ok (.invokevirtual 58, 3) := by decide +kernel
theorem dX24_trim_22 : decode cX24_trim 22 = .ok (.ireturn, 1) := by decide +kernel
theorem dX24_trim_23 : decode cX24_trim 23 = .ok (.aload_n 0, 1) := by decide +kernel
theorem dX24_trim_24 : decode cX24_trim 24 = .ok (.iload_n 1, 1) := by decide +kernel
theorem dX24_trim_25 : decode cX24_trim 25 = .ok (.putfield 55, 3) := by decide +kernel
theorem dX24_trim_28 : decode cX24_trim 28 = .ok (.iload_n 1, 1) := by decide +kernel
theorem dX24_trim_29 : decode cX24_trim 29 = .ok (.ireturn, 1) := by decide +kernel
theorem dX24_united_0 : decode cX24_united 0 = .ok (.aload_n 0, 1) := by decide +kernel
theorem dX24_united_1 : decode cX24_united 1 = .ok (.iconst 0, 1) := by decide +kernel
theorem dX24_united_2 : decode cX24_united 2 = .ok (.putfield 52, 3) := by decide +kernel
theorem dX24_united_5 : decode cX24_united 5 = .ok (.aload_n 0, 1) := by decide +kernel
theorem dX24_united_6 : decode cX24_united 6 = .ok (.iload_n 1, 1) := by decide +kernel
theorem dX24_united_7 : decode cX24_united 7 = .ok (.invokevirtual 121, 3) := by decide +kernel
theorem dX24_united_10 : decode cX24_united 10 = .ok (.ifCond .eq 26, 3) := by decide +kernel
theorem dX24_united_36 : decode cX24_united 36 = .ok (.aload_n 0, 1) := by decide +kernel
theorem dX24_united_37 : decode cX24_united 37 = .ok (.iconst 1, 1) := by decide +kernel
theorem dX24_united_38 : decode cX24_united 38 = .ok (.invokevirtual 58, 3) := by decide +kernel
theorem dX24_united_41 : decode cX24_united 41 = .ok (.ireturn, 1) := by decide +kernel
theorem dX24_values_0 : decode cX24_values 0 = .ok (.aload_n 0, 1) := by decide +kernel
theorem dX24_values_1 : decode cX24_values 1 = .ok (.iconst 0, 1) := by decide +kernel
theorem dX24_values_2 : decode cX24_values 2 = .ok (.putfield 52, 3) := by decide +kernel
theorem dX24_values_5 : decode cX24_values 5 = .ok (.aload_n 0, 1) := by decide +kernel
theorem dX24_values_6 : decode cX24_values 6 = .ok (.iload_n 1, 1) := by decide +kernel
theorem dX24_values_7 : decode cX24_values 7 = .ok (.invokevirtual 121, 3) := by decide +kernel
theorem dX24_values_10 : decode cX24_values 10 = .ok (.ifCond .eq 15, 3) := by decide +kernel
theorem dX24_values_25 : decode cX24_values 25 = .ok (.aload_n 0, 1) := by decide +kernel
theorem dX24_values_26 : decode cX24_values 26 = .ok (.iconst 1, 1) := by decide +kernel
theorem dX24_values_27 : decode cX24_values 27 = .ok (.invokevirtual 58, 3) := by decide +kernel
theorem dX24_values_30 : decode cX24_values 30 = .ok (.ireturn, 1) := by decide +kernel
theorem dX24_word_0 : decode cX24_word 0 = .ok (.aload_n 0, 1) := by decide +kernel
theorem dX24_word_1 : decode cX24_word 1 = .ok (.iconst 0, 1) := by decide +kernel
theorem dX24_word_2 : decode cX24_word 2 = .ok (.putfield 52, 3) := by decide +kernel
theorem dX24_word_5 : decode cX24_word 5 = .ok (.iload_n 1, 1) := by decide +kernel
theorem dX24_word_6 : decode cX24_word 6 = .ok (.ifCond .lt 21, 3) := by decide +kernel
theorem dX24_word_9 : decode cX24_word 9 = .ok (.iload_n 1, 1) := by decide +kernel
theorem dX24_word_10 : decode cX24_word 10 = .ok (.bipush 16, 2) := by decide +kernel
theorem dX24_word_12 : decode cX24_word 12 = .ok (.if_icmp .ge 15, 3) := by decide +kernel
theorem dX24_word_15 : decode cX24_word 15 = .ok (.aload_n 0, 1) := by decide +kernel
theorem dX24_word_16 : decode cX24_word 16 = .ok (.getfield 45, 3) := by decide +kernel
theorem dX24_word_19 : decode cX24_word 19 = .ok (.getfield 301, 3) := by decide +kernel
theorem dX24_word_22 : decode cX24_word 22 = .ok (.iload_n 1, 1) := by decide +kernel
theorem dX24_word_23 : decode cX24_word 23 = .ok (.iaload, 1) := by decide +kernel
theorem dX24_word_24 : decode cX24_word 24 = .ok (.goto 8, 3) := by decide +kernel
theorem dX24_word_27 : decode cX24_word 27 = .ok (.aload_n 0, 1) := by decide +kernel
theorem dX24_word_28 : decode cX24_word 28 = .ok (.iconst 1, 1) := by decide +kernel
theorem dX24_word_29 : decode cX24_word 29 = .ok (.invokevirtual 58, 3) := by decide +kernel
theorem dX24_word_32 : decode cX24_word 32 = .ok (.ireturn, 1) := by decide +kernel
theorem dX2_init_0 : decode cX2_init 0 = .ok (.aload_n 0, 1) := by decide +kernel
theorem dX2_init_1 : decode cX2_init 1 = .ok (.invokespecial 3, 3) := by decide +kernel
theorem dX2_init_4 : decode cX2_init 4 = .ok (.aload_n 0, 1) := by decide +kernel
theorem dX2_init_5 : decode cX2_init 5 = .ok (.bipush 64, 2) := by decide +kernel
theorem dX2_init_7 : decode cX2_init 7 = .ok (.newarray .long, 2) := by decide +kernel
theorem dX2_init_9 : decode cX2_init 9 = .ok (.putfield 11, 3) := by decide +kernel
theorem dX2_init_12 : decode cX2_init 12 = .ok (.aload_n 0, 1) := by decide +kernel
theorem dX2_init_13 : decode cX2_init 13 = .ok (.bipush 64, 2) := by decide +kernel
theorem dX2_init_15 : decode cX2_init 15 = .ok (.newarray .long, 2) := by decide +kernel
theorem dX2_init_17 : decode cX2_init 17 = .ok (.putfield 15, 3) := by decide +kernel
theorem dX2_init_20 : decode cX2_init 20 = .ok (.aload_n 0, 1) := by decide +kernel
theorem dX2_init_21 : decode cX2_init 21 = .ok (.bipush 64, 2) := by decide +kernel
theorem dX2_init_23 : decode cX2_init 23 = .ok (.newarray .long, 2) := by decide +kernel
theorem dX2_init_25 : decode cX2_init 25 = .ok (.putfield 18, 3) := by decide +kernel
theorem dX2_init_28 : decode cX2_init 28 = .ok (.aload_n 0, 1) := by decide +kernel
theorem dX2_init_29 : decode cX2_init 29 = .ok (.iconst 1, 1) := by decide +kernel
theorem dX2_init_30 : decode cX2_init 30 = .ok (.newarray .long, 2) := by decide +kernel
theorem dX2_init_32 : decode cX2_init 32 = .ok (.putfield 21, 3) := by decide +kernel
theorem dX2_init_35 : decode cX2_init 35 = .ok (.aload_n 0, 1) := by decide +kernel
theorem dX2_init_36 : decode cX2_init 36 = .ok (.iconst 2, 1) := by decide +kernel
theorem dX2_init_37 : decode cX2_init 37 = .ok (.newarray .int, 2) := by decide +kernel
theorem dX2_init_39 : decode cX2_init 39 = .ok (.putfield 24, 3) := by decide +kernel
theorem dX2_init_42 : decode cX2_init 42 = .ok (.aload_n 0, 1) := by decide +kernel
theorem dX2_init_43 : decode cX2_init 43 = .ok (.bipush 64, 2) := by decide +kernel
theorem dX2_init_45 : decode cX2_init 45 = .ok (.newarray .int, 2) := by decide +kernel
theorem dX2_init_47 : decode cX2_init 47 = .ok (.putfield 28, 3) := by decide +kernel
theorem dX2_init_50 : decode cX2_init 50 = .ok (.aload_n 0, 1) := by decide +kernel
theorem dX2_init_51 : decode cX2_init 51 = .ok (.bipush 64, 2) := by decide +kernel
theorem dX2_init_53 : decode cX2_init 53 = .ok (.newarray .long, 2) := by decide +kernel
theorem dX2_init_55 : decode cX2_init 55 = .ok (.putfield 31, 3) := by decide +kernel
theorem dX2_init_58 : decode cX2_init 58 = .ok (.aload_n 0, 1) := by decide +kernel
theorem dX2_init_59 : decode cX2_init 59 = .ok (.bipush 64, 2) := by decide +kernel
theorem dX2_init_61 : decode cX2_init 61 = .ok (.newarray .int, 2) := by decide +kernel
theorem dX2_init_63 : decode cX2_init 63 = .ok (.putfield 34, 3) := by decide +kernel
theorem dX2_init_66 : decode cX2_init 66 = .ok (.aload_n 0, 1) := by decide +kernel
theorem dX2_init_67 : decode cX2_init 67 = .ok (.bipush 64, 2) := by decide +kernel
theorem dX2_init_69 : decode cX2_init 69 = .ok (.newarray .int, 2) := by decide +kernel
theorem dX2_init_71 : decode cX2_init 71 = .ok (.putfield 37, 3) := by decide +kernel
theorem dX2_init_74 : decode cX2_init 74 = .ok (.aload_n 0, 1) := by decide +kernel
theorem dX2_init_75 : decode cX2_init 75 = .ok (.bipush 64, 2) := by decide +kernel
theorem dX2_init_77 : decode cX2_init 77 = .ok (.newarray .long, 2) := by decide +kernel
theorem dX2_init_79 : decode cX2_init 79 = .ok (.putfield 40, 3) := by decide +kernel
theorem dX2_init_82 : decode cX2_init 82 = .ok (.aload_n 0, 1) := by decide +kernel
theorem dX2_init_83 : decode cX2_init 83 = .ok (.bipush 64, 2) := by decide +kernel
theorem dX2_init_85 : decode cX2_init 85 = .ok (.newarray .int, 2) := by decide +kernel
theorem dX2_init_87 : decode cX2_init 87 = .ok (.putfield 43, 3) := by decide +kernel
theorem dX2_init_90 : decode cX2_init 90 = .ok (.aload_n 0, 1) := by decide +kernel
theorem dX2_init_91 : decode cX2_init 91 = .ok (.bipush 64, 2) := by decide +kernel
theorem dX2_init_93 : decode cX2_init 93 = .ok (.newarray .int, 2) := by decide +kernel
theorem dX2_init_95 : decode cX2_init 95 = .ok (.putfield 46, 3) := by decide +kernel
theorem dX2_init_98 : decode cX2_init 98 = .ok (.aload_n 0, 1) := by decide +kernel
theorem dX2_init_99 : decode cX2_init 99 = .ok (.bipush 64, 2) := by decide +kernel
theorem dX2_init_101 : decode cX2_init 101 = .ok (.newarray .int, 2) := by decide +kernel
theorem dX2_init_103 : decode cX2_init 103 = .ok (.putfield 49, 3) := by decide +kernel
theorem dX2_init_106 : decode cX2_init 106 = .ok (.aload_n 0, 1) := by decide +kernel
theorem dX2_init_107 : decode cX2_init 107 = .ok (.bipush 64, 2) := by decide +kernel
theorem dX2_init_109 : decode cX2_init 109 = .ok (.newarray .int, 2) := by decide +kernel
theorem dX2_init_111 : decode cX2_init 111 = .ok (.putfield 52, 3) := by decide +kernel
theorem dX2_init_114 : decode cX2_init 114 = .ok (.aload_n 0, 1) := by decide +kernel
theorem dX2_init_115 : decode cX2_init 115 = .ok (.bipush 64, 2) := by decide +kernel
theorem dX2_init_117 : decode cX2_init 117 = .ok (.newarray .int, 2) := by decide +kernel
theorem dX2_init_119 : decode cX2_init 119 = .ok (.putfield 55, 3) := by decide +kernel
theorem dX2_init_122 : decode cX2_init 122 = .ok (.return_, 1) := by decide +kernel
theorem dX3_init_0 : decode cX3_init 0 = .ok (.aload_n 0, 1) := by decide +kernel
theorem dX3_init_1 : decode cX3_init 1 = .ok (.invokespecial 3, 3) := by decide +kernel
theorem dX3_init_4 : decode cX3_init 4 = .ok (.aload_n 0, 1) := by decide +kernel
theorem dX3_init_5 : decode cX3_init 5 = .ok (.bipush 16, 2) := by decide +kernel
theorem dX3_init_7 : decode cX3_init 7 = .ok (.newarray .int, 2) := by decide +kernel
theorem dX3_init_9 : decode cX3_init 9 = .ok (.putfield 9, 3) := by decide +kernel
theorem dX3_init_12 : decode cX3_init 12 = .ok (.aload_n 0, 1) := by decide +kernel
theorem dX3_init_13 : decode cX3_init 13 = .ok (.iconst 4, 1) := by decide +kernel
theorem dX3_init_14 : decode cX3_init 14 = .ok (.newarray .int, 2) := by decide +kernel
theorem dX3_init_16 : decode cX3_init 16 = .ok (.putfield 15, 3) := by decide +kernel
theorem dX3_init_19 : decode cX3_init 19 = .ok (.aload_n 0, 1) := by decide +kernel
theorem dX3_init_20 : decode cX3_init 20 = .ok (.bipush 8, 2) := by decide +kernel
theorem dX3_init_22 : decode cX3_init 22 = .ok (.newarray .int, 2) := by decide +kernel
theorem dX3_init_24 : decode cX3_init 24 = .ok (.putfield 18, 3) := by decide +kernel
theorem dX3_init_27 : decode cX3_init 27 = .ok (.aload_n 0, 1) := by decide +kernel
theorem dX3_init_28 : decode cX3_init 28 = .ok (.bipush 8, 2) := by decide +kernel
theorem dX3_init_30 : decode cX3_init 30 = .ok (.newarray .int, 2) := by decide +kernel
theorem dX3_init_32 : decode cX3_init 32 = .ok (.putfield 21, 3) := by decide +kernel
theorem dX3_init_35 : decode cX3_init 35 = .ok (.aload_n 0, 1) := by decide +kernel
theorem dX3_init_36 : decode cX3_init 36 = .ok (.bipush 8, 2) := by decide +kernel
theorem dX3_init_38 : decode cX3_init 38 = .ok (.newarray .int, 2) := by decide +kernel
theorem dX3_init_40 : decode cX3_init 40 = .ok (.putfield 24, 3) := by decide +kernel
theorem dX3_init_43 : decode cX3_init 43 = .ok (.aload_n 0, 1) := by decide +kernel
theorem dX3_init_44 : decode cX3_init 44 = .ok (.bipush 8, 2) := by decide +kernel
theorem dX3_init_46 : decode cX3_init 46 = .ok (.newarray .int, 2) := by decide +kernel
theorem dX3_init_48 : decode cX3_init 48 = .ok (.putfield 27, 3) := by decide +kernel
theorem dX3_init_51 : decode cX3_init 51 = .ok (.aload_n 0, 1) := by decide +kernel
theorem dX3_init_52 : decode cX3_init 52 = .ok (.bipush 32, 2) := by decide +kernel
theorem dX3_init_54 : decode cX3_init 54 = .ok (.newarray .int, 2) := by decide +kernel
theorem dX3_init_56 : decode cX3_init 56 = .ok (.putfield 30, 3) := by decide +kernel
theorem dX3_init_59 : decode cX3_init 59 = .ok (.aload_n 0, 1) := by decide +kernel
theorem dX3_init_60 : decode cX3_init 60 = .ok (.sipush 2560, 3) := by decide +kernel
theorem dX3_init_63 : decode cX3_init 63 = .ok (.newarray .int, 2) := by decide +kernel
theorem dX3_init_65 : decode cX3_init 65 = .ok (.putfield 33, 3) := by decide +kernel
theorem dX3_init_68 : decode cX3_init 68 = .ok (.aload_n 0, 1) := by decide +kernel
theorem dX3_init_69 : decode cX3_init 69 = .ok (.bipush 8, 2) := by decide +kernel
theorem dX3_init_71 : decode cX3_init 71 = .ok (.newarray .int, 2) := by decide +kernel
theorem dX3_init_73 : decode cX3_init 73 = .ok (.putfield 36, 3) := by decide +kernel
theorem dX3_init_76 : decode cX3_init 76 = .ok (.aload_n 0, 1) := by decide +kernel
theorem dX3_init_77 : decode cX3_init 77 = .ok (.sipush 512, 3) := by decide +kernel
theorem dX3_init_80 : decode cX3_init 80 = .ok (.newarray .int, 2) := by decide +kernel
theorem dX3_init_82 : decode cX3_init 82 = .ok (.putfield 39, 3) := by decide +kernel
theorem dX3_init_85 : decode cX3_init 85 = .ok (.aload_n 0, 1) := by decide +kernel
theorem dX3_init_86 : decode cX3_init 86 = .ok (.aload_n 1, 1) := by decide +kernel
theorem dX3_init_87 : decode cX3_init 87 = .ok (.putfield 42, 3) := by decide +kernel
theorem dX3_init_90 : decode cX3_init 90 = .ok (.aload_n 0, 1) := by decide +kernel
theorem dX3_init_91 : decode cX3_init 91 = .ok (.aload_n 2, 1) := by decide +kernel
theorem dX3_init_92 : decode cX3_init 92 = .ok (.putfield 46, 3) := by decide +kernel
theorem dX3_init_95 : decode cX3_init 95 = .ok (.aload_n 0, 1) := by decide +kernel
theorem dX3_init_96 : decode cX3_init 96 = .ok (.aload_n 3, 1) := by decide +kernel
theorem dX3_init_97 : decode cX3_init 97 = .ok (.putfield 50, 3) := by decide +kernel
theorem dX3_init_100 : decode cX3_init 100 = .ok (.return_, 1) := by decide +kernel
theorem dX4_init_0 : decode cX4_init 0 = .ok (.aload_n 0, 1) := by decide +kernel
theorem dX4_init_1 : decode cX4_init 1 = .ok (.invokespecial 3, 3) := by decide +kernel
theorem dX4_init_4 : decode cX4_init 4 = .ok (.aload_n 0, 1) := by decide +kernel
theorem dX4_init_5 : decode cX4_init 5 = .ok (.sipush 3200, 3) := by decide +kernel
theorem dX4_init_8 : decode cX4_init 8 = .ok (.newarray .int, 2) := by decide +kernel
theorem dX4_init_10 : decode cX4_init 10 = .ok (.putfield 9, 3) := by decide +kernel
theorem dX4_init_13 : decode cX4_init 13 = .ok (.aload_n 0, 1) := by decide +kernel
theorem dX4_init_14 : decode cX4_init 14 = .ok (.sipush 3200, 3) := by decide +kernel
theorem dX4_init_17 : decode cX4_init 17 = .ok (.newarray .int, 2) := by decide +kernel
theorem dX4_init_19 : decode cX4_init 19 = .ok (.putfield 15, 3) := by decide +kernel
theorem dX4_init_22 : decode cX4_init 22 = .ok (.aload_n 0, 1) := by decide +kernel
theorem dX4_init_23 : decode cX4_init 23 = .ok (.sipush 3200, 3) := by decide +kernel
theorem dX4_init_26 : decode cX4_init 26 = .ok (.newarray .int, 2) := by decide +kernel
theorem dX4_init_28 : decode cX4_init 28 = .ok (.putfield 18, 3) := by decide +kernel
theorem dX4_init_31 : decode cX4_init 31 = .ok (.aload_n 0, 1) := by decide +kernel
theorem dX4_init_32 : decode cX4_init 32 = .ok (.sipush 512, 3) := by decide +kernel
theorem dX4_init_35 : decode cX4_init 35 = .ok (.newarray .int, 2) := by decide +kernel
theorem dX4_init_37 : decode cX4_init 37 = .ok (.putfield 21, 3) := by decide +kernel
theorem dX4_init_40 : decode cX4_init 40 = .ok (.aload_n 0, 1) := by decide +kernel
theorem dX4_init_41 : decode cX4_init 41 = .ok (.sipush 640, 3) := by decide +kernel
theorem dX4_init_44 : decode cX4_init 44 = .ok (.newarray .int, 2) := by decide +kernel
theorem dX4_init_46 : decode cX4_init 46 = .ok (.putfield 24, 3) := by decide +kernel
theorem dX4_init_49 : decode cX4_init 49 = .ok (.aload_n 0, 1) := by decide +kernel
theorem dX4_init_50 : decode cX4_init 50 = .ok (.sipush 640, 3) := by decide +kernel
theorem dX4_init_53 : decode cX4_init 53 = .ok (.newarray .int, 2) := by decide +kernel
theorem dX4_init_55 : decode cX4_init 55 = .ok (.putfield 27, 3) := by decide +kernel
theorem dX4_init_58 : decode cX4_init 58 = .ok (.aload_n 0, 1) := by decide +kernel
theorem dX4_init_59 : decode cX4_init 59 = .ok (.sipush 640, 3) := by decide +kernel
theorem dX4_init_62 : decode cX4_init 62 = .ok (.newarray .int, 2) := by decide +kernel
theorem dX4_init_64 : decode cX4_init 64 = .ok (.putfield 30, 3) := by decide +kernel
theorem dX4_init_67 : decode cX4_init 67 = .ok (.aload_n 0, 1) := by decide +kernel
theorem dX4_init_68 : decode cX4_init 68 = .ok (.sipush 640, 3) := by decide +kernel
theorem dX4_init_71 : decode cX4_init 71 = .ok (.newarray .int, 2) := by decide +kernel
theorem dX4_init_73 : decode cX4_init 73 = .ok (.putfield 33, 3) := by decide +kernel
theorem dX4_init_76 : decode cX4_init 76 = .ok (.aload_n 0, 1) := by decide +kernel
theorem dX4_init_77 : decode cX4_init 77 = .ok (.sipush 640, 3) := by decide +kernel
theorem dX4_init_80 : decode cX4_init 80 = .ok (.newarray .int, 2) := by decide +kernel
theorem dX4_init_82 : decode cX4_init 82 = .ok (.putfield 36, 3) := by decide +kernel
theorem dX4_init_85 : decode cX4_init 85 = .ok (.aload_n 0, 1) := by decide +kernel
theorem dX4_init_86 : decode cX4_init 86 = .ok (.sipush 640, 3) := by decide +kernel
theorem dX4_init_89 : decode cX4_init 89 = .ok (.newarray .int, 2) := by decide +kernel
theorem dX4_init_91 : decode cX4_init 91 = .ok (.putfield 39, 3) := by decide +kernel
theorem dX4_init_94 : decode cX4_init 94 = .ok (.aload_n 0, 1) := by decide +kernel
theorem dX4_init_95 : decode cX4_init 95 = .ok (.sipush 640, 3) := by decide +kernel
theorem dX4_init_98 : decode cX4_init 98 = .ok (.newarray .int, 2) := by decide +kernel
theorem dX4_init_100 : decode cX4_init 100 = .ok (.putfield 42, 3) := by decide +kernel
theorem dX4_init_103 : decode cX4_init 103 = .ok (.aload_n 0, 1) := by decide +kernel
theorem dX4_init_104 : decode cX4_init 104 = .ok (.sipush 640, 3) := by decide +kernel
theorem dX4_init_107 : decode cX4_init 107 = .ok (.newarray .int, 2) := by decide +kernel
theorem dX4_init_109 : decode cX4_init 109 = .ok (.putfield 45, 3) := by decide +kernel
theorem dX4_init_112 : decode cX4_init 112 = .ok (.aload_n 0, 1) := by decide +kernel
theorem dX4_init_113 : decode cX4_init 113 = .ok (.bipush 60, 2) := by decide +kernel
theorem dX4_init_115 : decode cX4_init 115 = .ok (.newarray .int, 2) := by decide +kernel
theorem dX4_init_117 : decode cX4_init 117 = .ok (.putfield 48, 3) := by decide +kernel
theorem dX4_init_120 : decode cX4_init 120 = .ok (.aload_n 0, 1) := by decide +kernel
theorem dX4_init_121 : decode cX4_init 121 = .ok (.sipush 320, 3) := by decide +kernel
theorem dX4_init_124 : decode cX4_init 124 = .ok (.newarray .long, 2) := by decide +kernel
theorem dX4_init_126 : decode cX4_init 126 = .ok (.putfield 51, 3) := by decide +kernel
theorem dX4_init_129 : decode cX4_init 129 = .ok (.aload_n 0, 1) := by decide +kernel
theorem dX4_init_130 : decode cX4_init 130 = .ok (.sipush 320, 3) := by decide +kernel
theorem dX4_init_133 : decode cX4_init 133 = .ok (.newarray .long, 2) := by decide +kernel
theorem dX4_init_135 : decode cX4_init 135 = .ok (.putfield 55, 3) := by decide +kernel
theorem dX4_init_138 : decode cX4_init 138 = .ok (.aload_n 0, 1) := by decide +kernel
theorem dX4_init_139 : decode cX4_init 139 = .ok (.bipush 60, 2) := by decide +kernel
theorem dX4_init_141 : decode cX4_init 141 = .ok (.newarray .long, 2) := by decide +kernel
theorem dX4_init_143 : decode cX4_init 143 = .ok (.putfield 58, 3) := by decide +kernel
theorem dX4_init_146 : decode cX4_init 146 = .ok (.aload_n 0, 1) := by decide +kernel
theorem dX4_init_147 : decode cX4_init 147 = .ok (.sipush 250, 3) := by decide +kernel
theorem dX4_init_150 : decode cX4_init 150 = .ok (.newarray .int, 2) := by decide +kernel
theorem dX4_init_152 : decode cX4_init 152 = .ok (.putfield 61, 3) := by decide +kernel
theorem dX4_init_155 : decode cX4_init 155 = .ok (.aload_n 0, 1) := by decide +kernel
theorem dX4_init_156 : decode cX4_init 156 = .ok (.sipush 19200, 3) := by decide +kernel
theorem dX4_init_159 : decode cX4_init 159 = .ok (.newarray .int, 2) := by decide +kernel
theorem dX4_init_161 : decode cX4_init 161 = .ok (.putfield 64, 3) := by decide +kernel
theorem dX4_init_164 : decode cX4_init 164 = .ok (.aload_n 0, 1) := by decide +kernel
theorem dX4_init_165 : decode cX4_init 165 = .ok (.aload_n 1, 1) := by decide +kernel
theorem dX4_init_166 : decode cX4_init 166 = .ok (.putfield 67, 3) := by decide +kernel
theorem dX4_init_169 : decode cX4_init 169 = .ok (.return_, 1) := by decide +kernel
theorem dX5_init_0 : decode cX5_init 0 = .ok (.aload_n 0, 1) := by decide +kernel
theorem dX5_init_1 : decode cX5_init 1 = .ok (.invokespecial 3, 3) := by decide +kernel
theorem dX5_init_4 : decode cX5_init 4 = .ok (.aload_n 0, 1) := by decide +kernel
theorem dX5_init_5 : decode cX5_init 5 = .ok (.sipush 250, 3) := by decide +kernel
theorem dX5_init_8 : decode cX5_init 8 = .ok (.newarray .int, 2) := by decide +kernel
theorem dX5_init_10 : decode cX5_init 10 = .ok (.putfield 9, 3) := by decide +kernel
theorem dX5_init_13 : decode cX5_init 13 = .ok (.aload_n 0, 1) := by decide +kernel
theorem dX5_init_14 : decode cX5_init 14 = .ok (.sipush 250, 3) := by decide +kernel
theorem dX5_init_17 : decode cX5_init 17 = .ok (.newarray .int, 2) := by decide +kernel
theorem dX5_init_19 : decode cX5_init 19 = .ok (.putfield 15, 3) := by decide +kernel
theorem dX5_init_22 : decode cX5_init 22 = .ok (.aload_n 0, 1) := by decide +kernel
theorem dX5_init_23 : decode cX5_init 23 = .ok (.sipush 250, 3) := by decide +kernel
theorem dX5_init_26 : decode cX5_init 26 = .ok (.newarray .int, 2) := by decide +kernel
theorem dX5_init_28 : decode cX5_init 28 = .ok (.putfield 18, 3) := by decide +kernel
theorem dX5_init_31 : decode cX5_init 31 = .ok (.aload_n 0, 1) := by decide +kernel
theorem dX5_init_32 : decode cX5_init 32 = .ok (.sipush 250, 3) := by decide +kernel
theorem dX5_init_35 : decode cX5_init 35 = .ok (.newarray .int, 2) := by decide +kernel
theorem dX5_init_37 : decode cX5_init 37 = .ok (.putfield 21, 3) := by decide +kernel
theorem dX5_init_40 : decode cX5_init 40 = .ok (.aload_n 0, 1) := by decide +kernel
theorem dX5_init_41 : decode cX5_init 41 = .ok (.sipush 250, 3) := by decide +kernel
theorem dX5_init_44 : decode cX5_init 44 = .ok (.newarray .int, 2) := by decide +kernel
theorem dX5_init_46 : decode cX5_init 46 = .ok (.putfield 24, 3) := by decide +kernel
theorem dX5_init_49 : decode cX5_init 49 = .ok (.aload_n 0, 1) := by decide +kernel
theorem dX5_init_50 : decode cX5_init 50 = .ok (.sipush 250, 3) := by decide +kernel
theorem dX5_init_53 : decode cX5_init 53 = .ok (.newarray .int, 2) := by decide +kernel
theorem dX5_init_55 : decode cX5_init 55 = .ok (.putfield 27, 3) := by decide +kernel
theorem dX5_init_58 : decode cX5_init 58 = .ok (.aload_n 0, 1) := by decide +kernel
theorem dX5_init_59 : decode cX5_init 59 = .ok (.sipush 250, 3) := by decide +kernel
theorem dX5_init_62 : decode cX5_init 62 = .ok (.newarray .int, 2) := by decide +kernel
theorem dX5_init_64 : decode cX5_init 64 = .ok (.putfield 30, 3) := by decide +kernel
theorem dX5_init_67 : decode cX5_init 67 = .ok (.aload_n 0, 1) := by decide +kernel
theorem dX5_init_68 : decode cX5_init 68 = .ok (.sipush 250, 3) := by decide +kernel
theorem dX5_init_71 : decode cX5_init 71 = .ok (.newarray .int, 2) := by decide +kernel
theorem dX5_init_73 : decode cX5_init 73 = .ok (.putfield 33, 3) := by decide +kernel
theorem dX5_init_76 : decode cX5_init 76 = .ok (.aload_n 0, 1) := by decide +kernel
theorem dX5_init_77 : decode cX5_init 77 = .ok (.bipush 60, 2) := by decide +kernel
theorem dX5_init_79 : decode cX5_init 79 = .ok (.newarray .int, 2) := by decide +kernel
theorem dX5_init_81 : decode cX5_init 81 = .ok (.putfield 36, 3) := by decide +kernel
theorem dX5_init_84 : decode cX5_init 84 = .ok (.aload_n 0, 1) := by decide +kernel
theorem dX5_init_85 : decode cX5_init 85 = .ok (.aload_n 1, 1) := by decide +kernel
theorem dX5_init_86 : decode cX5_init 86 = .ok (.putfield 39, 3) := by decide +kernel
theorem dX5_init_89 : decode cX5_init 89 = .ok (.return_, 1) := by decide +kernel
theorem dX6_clear_0 : decode cX6_clear 0 = .ok (.aload_n 0, 1) := by decide +kernel
theorem dX6_clear_1 : decode cX6_clear 1 = .ok (.iconst 0, 1) := by decide +kernel
theorem dX6_clear_2 : decode cX6_clear 2 = .ok (.putfield 43, 3) := by decide +kernel
theorem dX6_clear_5 : decode cX6_clear 5 = .ok (.aload_n 0, 1) := by decide +kernel
theorem dX6_clear_6 : decode cX6_clear 6 = .ok (.iconst 0, 1) := by decide +kernel
theorem dX6_clear_7 : decode cX6_clear 7 = .ok (.putfield 47, 3) := by decide +kernel
theorem dX6_clear_10 : decode cX6_clear 10 = .ok (.aload_n 0, 1) := by decide +kernel
theorem dX6_clear_11 : decode cX6_clear 11 = .ok (.iconst 0, 1) := by decide +kernel
theorem dX6_clear_12 : decode cX6_clear 12 = .ok (.putfield 50, 3) := by decide +kernel
theorem dX6_clear_15 : decode cX6_clear 15 = .ok (.return_, 1) := by decide +kernel
theorem dX6_init_0 : decode cX6_init 0 = .ok (.aload_n 0, 1) := by decide +kernel
theorem dX6_init_1 : decode cX6_init 1 = .ok (.invokespecial 3, 3) := by decide +kernel
theorem dX6_init_4 : decode cX6_init 4 = .ok (.aload_n 0, 1) := by decide +kernel
theorem dX6_init_5 : decode cX6_init 5 = .ok (.bipush 6, 2) := by decide +kernel
theorem dX6_init_7 : decode cX6_init 7 = .ok (.newarray .long, 2) := by decide +kernel
theorem dX6_init_9 : decode cX6_init 9 = .ok (.putfield 9, 3) := by decide +kernel
theorem dX6_init_12 : decode cX6_init 12 = .ok (.aload_n 0, 1) := by decide +kernel
theorem dX6_init_13 : decode cX6_init 13 = .ok (.bipush 6, 2) := by decide +kernel
theorem dX6_init_15 : decode cX6_init 15 = .ok (.newarray .int, 2) := by decide +kernel
theorem dX6_init_17 : decode cX6_init 17 = .ok (.putfield 15, 3) := by decide +kernel
theorem dX6_init_20 : decode cX6_init 20 = .ok (.aload_n 0, 1) := by decide +kernel
theorem dX6_init_21 : decode cX6_init 21 = .ok (.bipush 6, 2) := by decide +kernel
theorem dX6_init_23 : decode cX6_init 23 = .ok (.newarray .int, 2) := by decide +kernel
theorem dX6_init_25 : decode cX6_init 25 = .ok (.putfield 19, 3) := by decide +kernel
theorem dX6_init_28 : decode cX6_init 28 = .ok (.aload_n 0, 1) := by decide +kernel
theorem dX6_init_29 : decode cX6_init 29 = .ok (.bipush 6, 2) := by decide +kernel
theorem dX6_init_31 : decode cX6_init 31 = .ok (.newarray .int, 2) := by decide +kernel
theorem dX6_init_33 : decode cX6_init 33 = .ok (.putfield 22, 3) := by decide +kernel
theorem dX6_init_36 : decode cX6_init 36 = .ok (.aload_n 0, 1) := by decide +kernel
theorem dX6_init_37 : decode cX6_init 37 = .ok (.bipush 6, 2) := by decide +kernel
theorem dX6_init_39 : decode cX6_init 39 = .ok (.newarray .int, 2) := by decide +kernel
theorem dX6_init_41 : decode cX6_init 41 = .ok (.putfield 25, 3) := by decide +kernel
theorem dX6_init_44 : decode cX6_init 44 = .ok (.aload_n 0, 1) := by decide +kernel
theorem dX6_init_45 : decode cX6_init 45 = .ok (.bipush 6, 2) := by decide +kernel
theorem dX6_init_47 : decode cX6_init 47 = .ok (.newarray .int, 2) := by decide +kernel
theorem dX6_init_49 : decode cX6_init 49 = .ok (.putfield 28, 3) := by decide +kernel
theorem dX6_init_52 : decode cX6_init 52 = .ok (.aload_n 0, 1) := by decide +kernel
theorem dX6_init_53 : decode cX6_init 53 = .ok (.sipush 3200, 3) := by decide +kernel
theorem dX6_init_56 : decode cX6_init 56 = .ok (.newarray .int, 2) := by decide +kernel
theorem dX6_init_58 : decode cX6_init 58 = .ok (.putfield 31, 3) := by decide +kernel
theorem dX6_init_61 : decode cX6_init 61 = .ok (.aload_n 0, 1) := by decide +kernel
theorem dX6_init_62 : decode cX6_init 62 = .ok (.sipush 3200, 3) := by decide +kernel
theorem dX6_init_65 : decode cX6_init 65 = .ok (.newarray .int, 2) := by decide +kernel
theorem dX6_init_67 : decode cX6_init 67 = .ok (.putfield 34, 3) := by decide +kernel
theorem dX6_init_70 : decode cX6_init 70 = .ok (.aload_n 0, 1) := by decide +kernel
theorem dX6_init_71 : decode cX6_init 71 = .ok (.sipush 3200, 3) := by decide +kernel
theorem dX6_init_74 : decode cX6_init 74 = .ok (.newarray .int, 2) := by decide +kernel
theorem dX6_init_76 : decode cX6_init 76 = .ok (.putfield 37, 3) := by decide +kernel
theorem dX6_init_79 : decode cX6_init 79 = .ok (.aload_n 0, 1) := by decide +kernel
theorem dX6_init_80 : decode cX6_init 80 = .ok (.sipush 640, 3) := by decide +kernel
theorem dX6_init_83 : decode cX6_init 83 = .ok (.newarray .int, 2) := by decide +kernel
theorem dX6_init_85 : decode cX6_init 85 = .ok (.putfield 40, 3) := by decide +kernel
theorem dX6_init_88 : decode cX6_init 88 = .ok (.return_, 1) := by decide +kernel
theorem dX7_expect_0 : decode cX7_expect 0 = .ok (.iload_n 1, 1) := by decide +kernel
theorem dX7_expect_1 : decode cX7_expect 1 = .ok (.bipush 40, 2) := by decide +kernel
theorem dX7_expect_3 : decode cX7_expect 3 = .ok (.if_icmp .eq 15, 3) := by decide +kernel
theorem dX7_expect_6 : decode cX7_expect 6 = .ok (.iload_n 1, 1) := by decide +kernel
theorem dX7_expect_7 : decode cX7_expect 7 = .ok (.bipush 91, 2) := by decide +kernel
theorem dX7_expect_9 : decode cX7_expect 9 = .ok (.if_icmp .eq 9, 3) := by decide +kernel
theorem dX7_expect_12 : decode cX7_expect 12 = .ok (.iload_n 1, 1) := by decide +kernel
theorem dX7_expect_13 : decode cX7_expect 13 = .ok (.bipush 123, 2) := by decide +kernel
theorem dX7_expect_15 : decode cX7_expect 15 = .ok (.if_icmp .ne 7, 3) := by decide +kernel
theorem dX7_expect_22 : decode cX7_expect 22 = .ok (.iconst 0, 1) := by decide +kernel
theorem dX7_expect_23 : decode cX7_expect 23 = .ok (.istore_n 2, 1) := by decide +kernel
theorem dX7_expect_24 : decode cX7_expect 24 = .ok (.aload_n 0, 1) := by decide +kernel
theorem dX7_expect_25 : decode cX7_expect 25 = .ok (.getfield 37, 3) := by decide +kernel
theorem dX7_expect_28 : decode cX7_expect 28 = .ok (.getfield 71, 3) := by decide +kernel
theorem dX7_expect_31 : decode cX7_expect 31 = .ok (.iload_n 1, 1) := by decide +kernel
theorem dX7_expect_32 : decode cX7_expect 32 = .ok (.if_icmp .ne 16, 3) := by decide +kernel
theorem dX7_expect_48 : decode cX7_expect 48 = .ok (.aload_n 0, 1) := by decide +kernel
theorem dX7_expect_49 : decode cX7_expect 49 = .ok (.invokevirtual 86, 3) := by decide +kernel
theorem dX7_init_0 : decode cX7_init 0 = .ok (.aload_n 0, 1) := by decide +kernel
theorem dX7_init_1 : decode cX7_init 1 = .ok (.invokespecial 3, 3) := by decide +kernel
theorem dX7_init_4 : decode cX7_init 4 = .ok (.aload_n 0, 1) := by decide +kernel
theorem dX7_init_5 : decode cX7_init 5 = .ok (.sipush 320, 3) := by decide +kernel
theorem dX7_init_8 : decode cX7_init 8 = .ok (.newarray .long, 2) := by decide +kernel
theorem dX7_init_10 : decode cX7_init 10 = .ok (.putfield 9, 3) := by decide +kernel
theorem dX7_init_13 : decode cX7_init 13 = .ok (.aload_n 0, 1) := by decide +kernel
theorem dX7_init_14 : decode cX7_init 14 = .ok (.sipush 320, 3) := by decide +kernel
theorem dX7_init_17 : decode cX7_init 17 = .ok (.newarray .int, 2) := by decide +kernel
theorem dX7_init_19 : decode cX7_init 19 = .ok (.putfield 15, 3) := by decide +kernel
theorem dX7_init_22 : decode cX7_init 22 = .ok (.aload_n 0, 1) := by decide +kernel
theorem dX7_init_23 : decode cX7_init 23 = .ok (.bipush 9, 2) := by decide +kernel
theorem dX7_init_25 : decode cX7_init 25 = .ok (.newarray .int, 2) := by decide +kernel
theorem dX7_init_27 : decode cX7_init 27 = .ok (.putfield 19, 3) := by decide +kernel
theorem dX7_init_30 : decode cX7_init 30 = .ok (.aload_n 0, 1) := by decide +kernel
theorem dX7_init_31 : decode cX7_init 31 = .ok (.bipush 9, 2) := by decide +kernel
theorem dX7_init_33 : decode cX7_init 33 = .ok (.newarray .int, 2) := by decide +kernel
theorem dX7_init_35 : decode cX7_init 35 = .ok (.putfield 22, 3) := by decide +kernel
theorem dX7_init_38 : decode cX7_init 38 = .ok (.aload_n 0, 1) := by decide +kernel
theorem dX7_init_39 : decode cX7_init 39 = .ok (.sipush 600, 3) := by decide +kernel
theorem dX7_init_42 : decode cX7_init 42 = .ok (.newarray .long, 2) := by decide +kernel
theorem dX7_init_44 : decode cX7_init 44 = .ok (.putfield 25, 3) := by decide +kernel
theorem dX7_init_47 : decode cX7_init 47 = .ok (.aload_n 0, 1) := by decide +kernel
theorem dX7_init_48 : decode cX7_init 48 = .ok (.sipush 600, 3) := by decide +kernel
theorem dX7_init_51 : decode cX7_init 51 = .ok (.newarray .int, 2) := by decide +kernel
theorem dX7_init_53 : decode cX7_init 53 = .ok (.putfield 28, 3) := by decide +kernel
theorem dX7_init_56 : decode cX7_init 56 = .ok (.aload_n 0, 1) := by decide +kernel
theorem dX7_init_57 : decode cX7_init 57 = .ok (.sipush 600, 3) := by decide +kernel
theorem dX7_init_60 : decode cX7_init 60 = .ok (.newarray .int, 2) := by decide +kernel
theorem dX7_init_62 : decode cX7_init 62 = .ok (.putfield 31, 3) := by decide +kernel
theorem dX7_init_65 : decode cX7_init 65 = .ok (.aload_n 0, 1) := by decide +kernel
theorem dX7_init_66 : decode cX7_init 66 = .ok (.sipush 600, 3) := by decide +kernel
theorem dX7_init_69 : decode cX7_init 69 = .ok (.newarray .int, 2) := by decide +kernel
theorem dX7_init_71 : decode cX7_init 71 = .ok (.putfield 34, 3) := by decide +kernel
theorem dX7_init_74 : decode cX7_init 74 = .ok (.aload_n 0, 1) := by decide +kernel
theorem dX7_init_75 : decode cX7_init 75 = .ok (.aload_n 1, 1) := by decide +kernel
theorem dX7_init_76 : decode cX7_init 76 = .ok (.putfield 37, 3) := by decide +kernel
theorem dX7_init_79 : decode cX7_init 79 = .ok (.return_, 1) := by decide +kernel
theorem dX7_readFunction_0 : decode cX7_readFunction 0 = .ok (.iload_n 1, 1) := by decide +kernel
theorem dX7_readFunction_1 : decode cX7_readFunction 1 = .ok (.bipush 6, 2) := by decide +kernel
theorem dX7_readFunction_3 : decode cX7_readFunction 3 = .ok (.if_icmp .lt 7, 3) := by decide +kernel
theorem dX7_readFunction_10 : decode cX7_readFunction 10 = .ok (.aload_n 0, 1) := by decide +kernel
theorem dX7_readFunction_11 : decode cX7_readFunction 11 = .ok (.iload_n 1, 1) := by decide +kernel
theorem dX7_readFunction_12 : decode cX7_readFunction 12 = .ok (.putfield 89, 3) := by decide +kernel
theorem dX7_readFunction_15 : decode cX7_readFunction 15 = .ok (.aload_n 0, 1) := by decide +kernel
theorem dX7_readFunction_16 : decode cX7_readFunction 16 = .ok (.iconst 0, 1) := by decide +kernel
theorem dX7_readFunction_17 : decode cX7_readFunction 17 = .ok (.putfield 92, 3) := by decide +kernel
theorem dX7_readFunction_20 : decode cX7_readFunction 20 = .ok (.aload_n 0, 1) := by decide +kernel
theorem dX7_readFunction_21 : decode cX7_readFunction 21 = .ok (.iconst 0, 1) := by decide +kernel
theorem dX7_readFunction_22 : decode cX7_readFunction 22 = .ok (.putfield 95, 3) := by decide +kernel
theorem dX7_readFunction_25 : decode cX7_readFunction 25 = .ok (.aload_n 0, 1) := by decide +kernel
theorem dX7_readFunction_26 : decode cX7_readFunction 26 = .ok (.bipush 7, 2) := by decide +kernel
theorem dX7_readFunction_28 : decode cX7_readFunction 28 = .ok (.invokevirtual 98, 3) := by decide +kernel
theorem dX7_readProgram_0 : decode cX7_readProgram 0 = .ok (.aload_n 0, 1) := by decide +kernel
theorem dX7_readProgram_1 : decode cX7_readProgram 1 = .ok (.aload_n 1, 1) := by decide +kernel
theorem dX7_readProgram_2 : decode cX7_readProgram 2 = .ok (.putfield 41, 3) := by decide +kernel
theorem dX7_readProgram_5 : decode cX7_readProgram 5 = .ok (.aload_n 0, 1) := by decide +kernel
theorem dX7_readProgram_6 : decode cX7_readProgram 6 = .ok (.getfield 41, 3) := by decide +kernel
theorem dX7_readProgram_9 : decode cX7_readProgram 9 = .ok (.invokevirtual 45, 3) := by decide +kernel
theorem dX7_readProgram_12 : decode cX7_readProgram 12 = .ok (.aload_n 0, 1) := by decide +kernel
theorem dX7_readProgram_13 : decode cX7_readProgram 13 = .ok (.iconst 0, 1) := by decide +kernel
theorem dX7_readProgram_14 : decode cX7_readProgram 14 = .ok (.putfield 50, 3) := by decide +kernel
theorem dX7_readProgram_17 : decode cX7_readProgram 17 = .ok (.aload_n 0, 1) := by decide +kernel
theorem dX7_readProgram_18 : decode cX7_readProgram 18 = .ok (.iconst (-1), 1) := by decide +kernel
theorem dX7_readProgram_19 : decode cX7_readProgram 19 = .ok (.putfield 54, 3) := by decide +kernel
theorem dX7_readProgram_22 : decode cX7_readProgram 22 = .ok (.aload_n 0, 1) := by decide +kernel
theorem dX7_readProgram_23 : decode cX7_readProgram 23 = .ok (.iconst 0, 1) := by decide +kernel
theorem dX7_readProgram_24 : decode cX7_readProgram 24 = .ok (.putfield 57, 3) := by decide +kernel
theorem dX7_readProgram_27 : decode cX7_readProgram 27 = .ok (.aload_n 0, 1) := by decide +kernel
theorem dX7_readProgram_28 : decode cX7_readProgram 28 = .ok (.iconst (-1), 1) := by decide +kernel
theorem dX7_readProgram_29 : decode cX7_readProgram 29 = .ok (.putfield 60, 3) := by decide +kernel
theorem dX7_readProgram_32 : decode cX7_readProgram 32 = .ok (.aload_n 0, 1) := by decide +kernel
theorem dX7_readProgram_33 : decode cX7_readProgram 33 = .ok (.iconst 0, 1) := by decide +kernel
theorem dX7_readProgram_34 : decode cX7_readProgram 34 = .ok (.putfield 63, 3) := by decide +kernel
theorem dX7_readProgram_37 : decode cX7_readProgram 37 = .ok (.aload_n 0, 1) := by decide +kernel
theorem dX7_readProgram_38 : decode cX7_readProgram 38 = .ok (.getfield 37, 3) := by decide +kernel
theorem dX7_readProgram_41 : decode cX7_readProgram 41 = .ok (.invokevirtual 66, 3) := by decide +kernel
theorem dX7_readProgram_44 : decode cX7_readProgram 44 = .ok (.iconst 0, 1) := by decide +kernel
theorem dX7_readProgram_45 : decode cX7_readProgram 45 = .ok (.istore_n 2, 1) := by decide +kernel
theorem dX7_readProgram_46 : decode cX7_readProgram 46 = .ok (.iload_n 2, 1) := by decide +kernel
theorem dX7_readProgram_47 : decode cX7_readProgram 47 = .ok (.bipush 6, 2) := by decide +kernel
theorem dX7_readProgram_49 : decode cX7_readProgram 49 = .ok (.if_icmp .gt 28, 3) := by decide +kernel
theorem dX7_readProgram_52 : decode cX7_readProgram 52 = .ok (.iload_n 2, 1) := by decide +kernel
theorem dX7_readProgram_53 : decode cX7_readProgram 53 = .ok (.ifCond .eq 13, 3) := by decide +kernel
theorem dX7_readProgram_66 : decode cX7_readProgram 66 = .ok (.aload_n 0, 1) := by decide +kernel
theorem dX7_readProgram_67 : decode cX7_readProgram 67 = .ok (.iload_n 2, 1) := by decide +kernel
theorem dX7_readProgram_68 : decode cX7_readProgram 68 = .ok (.invokevirtual 74, 3) := by decide +kernel
theorem dX7_readProgram_80 : decode cX7_readProgram 80 = .ok (.astore_n 2, 1) := by decide +kernel
theorem dX7_readProgram_81 : decode cX7_readProgram 81 = .ok (.aload_n 0, 1) := by decide +kernel
theorem dX7_readProgram_82 : decode cX7_readProgram 82 = .ok (.aload_n 0, 1) := by decide +kernel
theorem dX7_readProgram_83 : decode cX7_readProgram 83 = .ok (.getfield 37, 3) := by decide +kernel
theorem dX7_readProgram_86 : decode cX7_readProgram 86 = .ok (.getfield 80, 3) := by decide +kernel
theorem dX7_readProgram_89 : decode cX7_readProgram 89 = .ok (.putfield 60, 3) := by decide +kernel
theorem dX7_readProgram_92 : decode cX7_readProgram 92 = .ok (.iconst 1, 1) := by decide +kernel
theorem dX7_readProgram_93 : decode cX7_readProgram 93 = .ok (.ireturn, 1) := by decide +kernel
theorem dX7_refuse_0 : decode cX7_refuse 0 = .ok (.new 78, 3) := by decide +kernel
theorem dX7_refuse_3 : decode cX7_refuse 3 = .ok (.dup, 1) := by decide +kernel
theorem dX7_refuse_4 : decode cX7_refuse 4 = .ok (.ldc 236, 2) := by decide +kernel
theorem dX7_refuse_6 : decode cX7_refuse 6 = .ok (.invokespecial 238, 3) := by decide +kernel
theorem dX7_refuse_9 : decode cX7_refuse 9 = .ok (.athrow, 1) := by decide +kernel
theorem dX8_init_0 : decode cX8_init 0 = .ok (.aload_n 0, 1) := by decide +kernel
theorem dX8_init_1 : decode cX8_init 1 = .ok (.invokespecial 3, 3) := by decide +kernel
theorem dX8_init_4 : decode cX8_init 4 = .ok (.aload_n 0, 1) := by decide +kernel
theorem dX8_init_5 : decode cX8_init 5 = .ok (.bipush 60, 2) := by decide +kernel
theorem dX8_init_7 : decode cX8_init 7 = .ok (.newarray .int, 2) := by decide +kernel
theorem dX8_init_9 : decode cX8_init 9 = .ok (.putfield 9, 3) := by decide +kernel
theorem dX8_init_12 : decode cX8_init 12 = .ok (.aload_n 0, 1) := by decide +kernel
theorem dX8_init_13 : decode cX8_init 13 = .ok (.bipush 60, 2) := by decide +kernel
theorem dX8_init_15 : decode cX8_init 15 = .ok (.newarray .int, 2) := by decide +kernel
theorem dX8_init_17 : decode cX8_init 17 = .ok (.putfield 15, 3) := by decide +kernel
theorem dX8_init_20 : decode cX8_init 20 = .ok (.aload_n 0, 1) := by decide +kernel
theorem dX8_init_21 : decode cX8_init 21 = .ok (.bipush 60, 2) := by decide +kernel
theorem dX8_init_23 : decode cX8_init 23 = .ok (.newarray .int, 2) := by decide +kernel
theorem dX8_init_25 : decode cX8_init 25 = .ok (.putfield 18, 3) := by decide +kernel
theorem dX8_init_28 : decode cX8_init 28 = .ok (.aload_n 0, 1) := by decide +kernel
theorem dX8_init_29 : decode cX8_init 29 = .ok (.bipush 60, 2) := by decide +kernel
theorem dX8_init_31 : decode cX8_init 31 = .ok (.newarray .int, 2) := by decide +kernel
theorem dX8_init_33 : decode cX8_init 33 = .ok (.putfield 21, 3) := by decide +kernel
theorem dX8_init_36 : decode cX8_init 36 = .ok (.aload_n 0, 1) := by decide +kernel
theorem dX8_init_37 : decode cX8_init 37 = .ok (.bipush 60, 2) := by decide +kernel
theorem dX8_init_39 : decode cX8_init 39 = .ok (.newarray .int, 2) := by decide +kernel
theorem dX8_init_41 : decode cX8_init 41 = .ok (.putfield 24, 3) := by decide +kernel
theorem dX8_init_44 : decode cX8_init 44 = .ok (.return_, 1) := by decide +kernel
theorem dX9_init_0 : decode cX9_init 0 = .ok (.aload_n 0, 1) := by decide +kernel
theorem dX9_init_1 : decode cX9_init 1 = .ok (.invokespecial 3, 3) := by decide +kernel
theorem dX9_init_4 : decode cX9_init 4 = .ok (.aload_n 0, 1) := by decide +kernel
theorem dX9_init_5 : decode cX9_init 5 = .ok (.iload_n 1, 1) := by decide +kernel
theorem dX9_init_6 : decode cX9_init 6 = .ok (.newarray .int, 2) := by decide +kernel
theorem dX9_init_8 : decode cX9_init 8 = .ok (.putfield 9, 3) := by decide +kernel
theorem dX9_init_11 : decode cX9_init 11 = .ok (.aload_n 0, 1) := by decide +kernel
theorem dX9_init_12 : decode cX9_init 12 = .ok (.iload_n 1, 1) := by decide +kernel
theorem dX9_init_13 : decode cX9_init 13 = .ok (.newarray .int, 2) := by decide +kernel
theorem dX9_init_15 : decode cX9_init 15 = .ok (.putfield 15, 3) := by decide +kernel
theorem dX9_init_18 : decode cX9_init 18 = .ok (.aload_n 0, 1) := by decide +kernel
theorem dX9_init_19 : decode cX9_init 19 = .ok (.iload_n 1, 1) := by decide +kernel
theorem dX9_init_20 : decode cX9_init 20 = .ok (.newarray .int, 2) := by decide +kernel
theorem dX9_init_22 : decode cX9_init 22 = .ok (.putfield 18, 3) := by decide +kernel
theorem dX9_init_25 : decode cX9_init 25 = .ok (.aload_n 0, 1) := by decide +kernel
theorem dX9_init_26 : decode cX9_init 26 = .ok (.iload_n 1, 1) := by decide +kernel
theorem dX9_init_27 : decode cX9_init 27 = .ok (.newarray .int, 2) := by decide +kernel
theorem dX9_init_29 : decode cX9_init 29 = .ok (.putfield 21, 3) := by decide +kernel
theorem dX9_init_32 : decode cX9_init 32 = .ok (.aload_n 0, 1) := by decide +kernel
theorem dX9_init_33 : decode cX9_init 33 = .ok (.iload_n 1, 1) := by decide +kernel
theorem dX9_init_34 : decode cX9_init 34 = .ok (.newarray .int, 2) := by decide +kernel
theorem dX9_init_36 : decode cX9_init 36 = .ok (.putfield 24, 3) := by decide +kernel
theorem dX9_init_39 : decode cX9_init 39 = .ok (.return_, 1) := by decide +kernel
abbrev cls : List vw_C := [(RX10, TX10, 8), (RX7, TX7, 18), (RX6, TX6, 13), (RX9, TX9, 6), (RX1, TX1, 21), (RX8, TX8, 5), (RX4, TX4, 20), (RX5, TX5, 12), (RX0, TX0, 17), (RX2, TX2, 19), (RX3, TX3, 20), (RX11, TX11, 11), (RX20, TX20, 2), (RX22, TX22, 15), (RX21, TX21, 18), (RX24, TX24, 9)]
set_option maxRecDepth 20000 in
theorem df_X10 : ∀ j, j < 8 → defaultValue (tyX10 j) = vp_V [.null, .int 0, .int 0, .int 0, .int 0, .long 0, .int 0, .int 0] j := (lt_s (lt_s (lt_s (lt_s (lt_s (lt_s (lt_s (lt_s lt_0 rfl) rfl) rfl) rfl) rfl) rfl) rfl) rfl)
set_option maxRecDepth 20000 in
theorem df_X7 : ∀ j, j < 18 → defaultValue (tyX7 j) = vp_V [.int 0, .null, .null, .int 0, .int 0, .int 0, .int 0, .null, .null, .int 0, .null, .null, .int 0, .null, .null, .null, .null, .int 0] j := (lt_s (lt_s (lt_s (lt_s (lt_s (lt_s (lt_s (lt_s (lt_s (lt_s (lt_s (lt_s (lt_s (lt_s (lt_s (lt_s (lt_s (lt_s lt_0 rfl) rfl) rfl) rfl) rfl) rfl) rfl) rfl) rfl) rfl) rfl) rfl) rfl) rfl) rfl) rfl) rfl) rfl)
set_option maxRecDepth 20000 in
theorem df_X6 : ∀ j, j < 13 → defaultValue (tyX6 j) = vp_V [.int 0, .null, .null, .null, .null, .null, .null, .int 0, .null, .null, .null, .int 0, .null] j := (lt_s (lt_s (lt_s (lt_s (lt_s (lt_s (lt_s (lt_s (lt_s (lt_s (lt_s (lt_s (lt_s lt_0 rfl) rfl) rfl) rfl) rfl) rfl) rfl) rfl) rfl) rfl) rfl) rfl) rfl)
set_option maxRecDepth 20000 in
theorem df_X9 : ∀ j, j < 6 → defaultValue (tyX9 j) = vp_V [.int 0, .null, .null, .null, .null, .null] j := (lt_s (lt_s (lt_s (lt_s (lt_s (lt_s lt_0 rfl) rfl) rfl) rfl) rfl) rfl)
set_option maxRecDepth 20000 in
theorem df_X1 : ∀ j, j < 21 → defaultValue (tyX1 j) = vp_V [.int 0, .int 0, .null, .null, .null, .null, .null, .null, .null, .null, .null, .null, .null, .null, .null, .null, .null, .int 0, .null, .null, .null] j := (lt_s (lt_s (lt_s (lt_s (lt_s (lt_s (lt_s (lt_s (lt_s (lt_s (lt_s (lt_s (lt_s (lt_s (lt_s (lt_s (lt_s (lt_s (lt_s (lt_s (lt_s lt_0 rfl) rfl) rfl) rfl) rfl) rfl) rfl) rfl) rfl) rfl) rfl) rfl) rfl) rfl) rfl) rfl) rfl) rfl) rfl) rfl) rfl)
set_option maxRecDepth 20000 in
theorem df_X8 : ∀ j, j < 5 → defaultValue (tyX8 j) = vp_V [.null, .null, .null, .null, .null] j := (lt_s (lt_s (lt_s (lt_s (lt_s lt_0 rfl) rfl) rfl) rfl) rfl)
set_option maxRecDepth 20000 in
theorem df_X4 : ∀ j, j < 20 → defaultValue (tyX4 j) = vp_V [.null, .null, .null, .null, .null, .int 0, .null, .null, .null, .null, .null, .null, .null, .null, .null, .null, .null, .null, .null, .null] j := (lt_s (lt_s (lt_s (lt_s (lt_s (lt_s (lt_s (lt_s (lt_s (lt_s (lt_s (lt_s (lt_s (lt_s (lt_s (lt_s (lt_s (lt_s (lt_s (lt_s lt_0 rfl) rfl) rfl) rfl) rfl) rfl) rfl) rfl) rfl) rfl) rfl) rfl) rfl) rfl) rfl) rfl) rfl) rfl) rfl) rfl)
set_option maxRecDepth 20000 in
theorem df_X5 : ∀ j, j < 12 → defaultValue (tyX5 j) = vp_V [.null, .null, .null, .null, .null, .null, .null, .long 0, .null, .null, .int 0, .null] j := (lt_s (lt_s (lt_s (lt_s (lt_s (lt_s (lt_s (lt_s (lt_s (lt_s (lt_s (lt_s lt_0 rfl) rfl) rfl) rfl) rfl) rfl) rfl) rfl) rfl) rfl) rfl) rfl)
set_option maxRecDepth 20000 in
theorem df_X0 : ∀ j, j < 17 → defaultValue (tyX0 j) = vp_V [.null, .null, .null, .null, .null, .int 0, .null, .int 0, .int 0, .int 0, .int 0, .int 0, .null, .null, .null, .null, .null] j := (lt_s (lt_s (lt_s (lt_s (lt_s (lt_s (lt_s (lt_s (lt_s (lt_s (lt_s (lt_s (lt_s (lt_s (lt_s (lt_s (lt_s lt_0 rfl) rfl) rfl) rfl) rfl) rfl) rfl) rfl) rfl) rfl) rfl) rfl) rfl) rfl) rfl) rfl) rfl)
set_option maxRecDepth 20000 in
theorem df_X2 : ∀ j, j < 19 → defaultValue (tyX2 j) = vp_V [.int 0, .int 0, .int 0, .null, .null, .null, .null, .null, .int 0, .null, .null, .null, .null, .null, .null, .null, .null, .null, .null] j := (lt_s (lt_s (lt_s (lt_s (lt_s (lt_s (lt_s (lt_s (lt_s (lt_s (lt_s (lt_s (lt_s (lt_s (lt_s (lt_s (lt_s (lt_s (lt_s lt_0 rfl) rfl) rfl) rfl) rfl) rfl) rfl) rfl) rfl) rfl) rfl) rfl) rfl) rfl) rfl) rfl) rfl) rfl) rfl)
set_option maxRecDepth 20000 in
theorem df_X3 : ∀ j, j < 20 → defaultValue (tyX3 j) = vp_V [.int 0, .int 0, .int 0, .null, .null, .null, .null, .null, .int 0, .int 0, .null, .null, .null, .null, .null, .null, .null, .int 0, .null, .int 0] j := (lt_s (lt_s (lt_s (lt_s (lt_s (lt_s (lt_s (lt_s (lt_s (lt_s (lt_s (lt_s (lt_s (lt_s (lt_s (lt_s (lt_s (lt_s (lt_s (lt_s lt_0 rfl) rfl) rfl) rfl) rfl) rfl) rfl) rfl) rfl) rfl) rfl) rfl) rfl) rfl) rfl) rfl) rfl) rfl) rfl) rfl)
set_option maxRecDepth 20000 in
theorem df_X11 : ∀ j, j < 11 → defaultValue (tyX11 j) = vp_V [.null, .null, .null, .null, .null, .null, .null, .null, .null, .null, .int 0] j := (lt_s (lt_s (lt_s (lt_s (lt_s (lt_s (lt_s (lt_s (lt_s (lt_s (lt_s lt_0 rfl) rfl) rfl) rfl) rfl) rfl) rfl) rfl) rfl) rfl) rfl)
set_option maxRecDepth 20000 in
theorem df_X20 : ∀ j, j < 2 → defaultValue (tyX20 j) = vp_V [.null, .int 0] j := (lt_s (lt_s lt_0 rfl) rfl)
set_option maxRecDepth 20000 in
theorem df_X22 : ∀ j, j < 15 → defaultValue (tyX22 j) = vp_V [.int 0, .null, .null, .null, .null, .null, .null, .null, .null, .int 0, .null, .null, .null, .null, .null] j := (lt_s (lt_s (lt_s (lt_s (lt_s (lt_s (lt_s (lt_s (lt_s (lt_s (lt_s (lt_s (lt_s (lt_s (lt_s lt_0 rfl) rfl) rfl) rfl) rfl) rfl) rfl) rfl) rfl) rfl) rfl) rfl) rfl) rfl) rfl)
set_option maxRecDepth 20000 in
theorem df_X21 : ∀ j, j < 18 → defaultValue (tyX21 j) = vp_V [.null, .int 0, .int 0, .int 0, .null, .null, .null, .null, .null, .null, .int 0, .int 0, .null, .null, .null, .null, .null, .null] j := (lt_s (lt_s (lt_s (lt_s (lt_s (lt_s (lt_s (lt_s (lt_s (lt_s (lt_s (lt_s (lt_s (lt_s (lt_s (lt_s (lt_s (lt_s lt_0 rfl) rfl) rfl) rfl) rfl) rfl) rfl) rfl) rfl) rfl) rfl) rfl) rfl) rfl) rfl) rfl) rfl) rfl)
set_option maxRecDepth 20000 in
theorem df_X24 : ∀ j, j < 9 → defaultValue (tyX24 j) = vp_V [.null, .int 0, .int 0, .int 0, .null, .null, .null, .null, .null] j := (lt_s (lt_s (lt_s (lt_s (lt_s (lt_s (lt_s (lt_s (lt_s lt_0 rfl) rfl) rfl) rfl) rfl) rfl) rfl) rfl) rfl)
