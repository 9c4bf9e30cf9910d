/-! names and fields: out of the printed names, what is used of them -/
def RX10 : String := "Gearbox$Tokens"
def TX10 : u_T := fun k => match k with
  | 0 => ("Gearbox$Tokens", "tape", "[I", true)
  | 1 => ("Gearbox$Tokens", "length", "I", false)
  | 2 => ("Gearbox$Tokens", "kind", "I", false)
  | 3 => ("Gearbox$Tokens", "place", "I", false)
  | 4 => ("Gearbox$Tokens", "figure", "I", false)
  | 5 => ("Gearbox$Tokens", "name", "J", false)
  | 6 => ("Gearbox$Tokens", "after", "I", false)
  | _ => ("Gearbox$Tokens", "count", "I", false)
def tyX10 : Nat → FieldType := fun k => match k with
  | 0 => .array .int
  | 1 => .int
  | 2 => .int
  | 3 => .int
  | 4 => .int
  | 5 => .long
  | 6 => .int
  | _ => .int
abbrev wsX100 : List Cond := u_ws RX10 TX10 8
theorem nmX10 : ∀ a, a < 8 → ∀ b, b < 8 → a ≠ b → (TX10 a).2.1 ≠ (TX10 b).2.1 := by decide +kernel
theorem tyX10_ok : ∀ k, k < 8 → parseFieldDescriptor (TX10 k).2.2.1 = some (tyX10 k) := by decide +kernel
def RX7 : String := "Gearbox$Reader"
def TX7 : u_T := fun k => match k with
  | 0 => ("Gearbox$Reader", "faultPlace", "I", false)
  | 1 => ("Gearbox$Reader", "tokens", "LGearbox$Tokens;", true)
  | 2 => ("Gearbox$Reader", "program", "LGearbox$Program;", false)
  | 3 => ("Gearbox$Reader", "function", "I", false)
  | 4 => ("Gearbox$Reader", "open", "I", false)
  | 5 => ("Gearbox$Reader", "tallPlace", "I", false)
  | 6 => ("Gearbox$Reader", "fault", "I", false)
  | 7 => ("Gearbox$Reader", "seenName", "[J", true)
  | 8 => ("Gearbox$Reader", "seenVariable", "[I", true)
  | 9 => ("Gearbox$Reader", "seen", "I", false)
  | 10 => ("Gearbox$Reader", "loopHead", "[I", true)
  | 11 => ("Gearbox$Reader", "loopEnd", "[I", true)
  | 12 => ("Gearbox$Reader", "loops", "I", false)
  | 13 => ("Gearbox$Reader", "callName", "[J", true)
  | 14 => ("Gearbox$Reader", "callOp", "[I", true)
  | 15 => ("Gearbox$Reader", "callPlace", "[I", true)
  | 16 => ("Gearbox$Reader", "callArguments", "[I", true)
  | _ => ("Gearbox$Reader", "calls", "I", false)
def tyX7 : Nat → FieldType := fun k => match k with
  | 0 => .int
  | 1 => .object "Gearbox$Tokens"
  | 2 => .object "Gearbox$Program"
  | 3 => .int
  | 4 => .int
  | 5 => .int
  | 6 => .int
  | 7 => .array .long
  | 8 => .array .int
  | 9 => .int
  | 10 => .array .int
  | 11 => .array .int
  | 12 => .int
  | 13 => .array .long
  | 14 => .array .int
  | 15 => .array .int
  | 16 => .array .int
  | _ => .int
abbrev wsX70 : List Cond := u_ws RX7 TX7 18
theorem nmX7 : ∀ a, a < 18 → ∀ b, b < 18 → a ≠ b → (TX7 a).2.1 ≠ (TX7 b).2.1 := by decide +kernel
theorem tyX7_ok : ∀ k, k < 18 → parseFieldDescriptor (TX7 k).2.2.1 = some (tyX7 k) := by decide +kernel
def RX6 : String := "Gearbox$Program"
def TX6 : u_T := fun k => match k with
  | 0 => ("Gearbox$Program", "functions", "I", false)
  | 1 => ("Gearbox$Program", "name", "[J", true)
  | 2 => ("Gearbox$Program", "namePlace", "[I", true)
  | 3 => ("Gearbox$Program", "parameters", "[I", true)
  | 4 => ("Gearbox$Program", "variables", "[I", true)
  | 5 => ("Gearbox$Program", "from", "[I", true)
  | 6 => ("Gearbox$Program", "to", "[I", true)
  | 7 => ("Gearbox$Program", "ops", "I", false)
  | 8 => ("Gearbox$Program", "op", "[I", true)
  | 9 => ("Gearbox$Program", "argument", "[I", true)
  | 10 => ("Gearbox$Program", "ticks", "[I", true)
  | 11 => ("Gearbox$Program", "labels", "I", false)
  | _ => ("Gearbox$Program", "labelAt", "[I", true)
def tyX6 : Nat → FieldType := fun k => match k with
  | 0 => .int
  | 1 => .array .long
  | 2 => .array .int
  | 3 => .array .int
  | 4 => .array .int
  | 5 => .array .int
  | 6 => .array .int
  | 7 => .int
  | 8 => .array .int
  | 9 => .array .int
  | 10 => .array .int
  | 11 => .int
  | _ => .array .int
abbrev wsX60 : List Cond := u_ws RX6 TX6 13
theorem nmX6 : ∀ a, a < 13 → ∀ b, b < 13 → a ≠ b → (TX6 a).2.1 ≠ (TX6 b).2.1 := by decide +kernel
theorem tyX6_ok : ∀ k, k < 13 → parseFieldDescriptor (TX6 k).2.2.1 = some (tyX6 k) := by decide +kernel
def RX9 : String := "Gearbox$Steps"
def TX9 : u_T := fun k => match k with
  | 0 => ("Gearbox$Steps", "count", "I", false)
  | 1 => ("Gearbox$Steps", "kind", "[I", false)
  | 2 => ("Gearbox$Steps", "gives", "[I", false)
  | 3 => ("Gearbox$Steps", "left", "[I", false)
  | 4 => ("Gearbox$Steps", "right", "[I", false)
  | _ => ("Gearbox$Steps", "next", "[I", false)
def tyX9 : Nat → FieldType := fun k => match k with
  | 0 => .int
  | 1 => .array .int
  | 2 => .array .int
  | 3 => .array .int
  | 4 => .array .int
  | _ => .array .int
abbrev wsX90 : List Cond := u_ws RX9 TX9 6
theorem nmX9 : ∀ a, a < 6 → ∀ b, b < 6 → a ≠ b → (TX9 a).2.1 ≠ (TX9 b).2.1 := by decide +kernel
theorem tyX9_ok : ∀ k, k < 6 → parseFieldDescriptor (TX9 k).2.2.1 = some (tyX9 k) := by decide +kernel
def RX1 : String := "Gearbox$Flow"
def TX1 : u_T := fun k => match k with
  | 0 => ("Gearbox$Flow", "blocks", "I", false)
  | 1 => ("Gearbox$Flow", "limit", "I", false)
  | 2 => ("Gearbox$Flow", "steps", "LGearbox$Steps;", true)
  | 3 => ("Gearbox$Flow", "firstStep", "[I", true)
  | 4 => ("Gearbox$Flow", "lastStep", "[I", true)
  | 5 => ("Gearbox$Flow", "firstPhi", "[I", true)
  | 6 => ("Gearbox$Flow", "lastPhi", "[I", true)
  | 7 => ("Gearbox$Flow", "end", "[I", true)
  | 8 => ("Gearbox$Flow", "endValue", "[I", true)
  | 9 => ("Gearbox$Flow", "first", "[I", true)
  | 10 => ("Gearbox$Flow", "second", "[I", true)
  | 11 => ("Gearbox$Flow", "dominator", "[I", true)
  | 12 => ("Gearbox$Flow", "depth", "[I", true)
  | 13 => ("Gearbox$Flow", "waysBegin", "[I", true)
  | 14 => ("Gearbox$Flow", "ways", "[I", true)
  | 15 => ("Gearbox$Flow", "dominators", "[J", true)
  | 16 => ("Gearbox$Flow", "loop", "[J", true)
  | 17 => ("Gearbox$Flow", "phiCount", "I", false)
  | 18 => ("Gearbox$Flow", "phiGives", "[I", false)
  | 19 => ("Gearbox$Flow", "phiNext", "[I", false)
  | _ => ("Gearbox$Flow", "takes", "[I", false)
def tyX1 : Nat → FieldType := fun k => match k with
  | 0 => .int
  | 1 => .int
  | 2 => .object "Gearbox$Steps"
  | 3 => .array .int
  | 4 => .array .int
  | 5 => .array .int
  | 6 => .array .int
  | 7 => .array .int
  | 8 => .array .int
  | 9 => .array .int
  | 10 => .array .int
  | 11 => .array .int
  | 12 => .array .int
  | 13 => .array .int
  | 14 => .array .int
  | 15 => .array .long
  | 16 => .array .long
  | 17 => .int
  | 18 => .array .int
  | 19 => .array .int
  | _ => .array .int
abbrev wsX10 : List Cond := u_ws RX1 TX1 21
theorem nmX1 : ∀ a, a < 21 → ∀ b, b < 21 → a ≠ b → (TX1 a).2.1 ≠ (TX1 b).2.1 := by decide +kernel
theorem tyX1_ok : ∀ k, k < 21 → parseFieldDescriptor (TX1 k).2.2.1 = some (tyX1 k) := by decide +kernel
def RX8 : String := "Gearbox$Shape"
def TX8 : u_T := fun k => match k with
  | 0 => ("Gearbox$Shape", "renamed", "[I", true)
  | 1 => ("Gearbox$Shape", "stage", "[I", true)
  | 2 => ("Gearbox$Shape", "path", "[I", true)
  | 3 => ("Gearbox$Shape", "finished", "[I", true)
  | _ => ("Gearbox$Shape", "row", "[I", true)
def tyX8 : Nat → FieldType := fun k => match k with
  | 0 => .array .int
  | 1 => .array .int
  | 2 => .array .int
  | 3 => .array .int
  | _ => .array .int
abbrev wsX80 : List Cond := u_ws RX8 TX8 5
theorem nmX8 : ∀ a, a < 5 → ∀ b, b < 5 → a ≠ b → (TX8 a).2.1 ≠ (TX8 b).2.1 := by decide +kernel
theorem tyX8_ok : ∀ k, k < 5 → parseFieldDescriptor (TX8 k).2.2.1 = some (tyX8 k) := by decide +kernel
def RX4 : String := "Gearbox$Maker"
def TX4 : u_T := fun k => match k with
  | 0 => ("Gearbox$Maker", "shape", "LGearbox$Shape;", true)
  | 1 => ("Gearbox$Maker", "leftOp", "[I", true)
  | 2 => ("Gearbox$Maker", "rightOp", "[I", true)
  | 3 => ("Gearbox$Maker", "valueOf", "[I", true)
  | 4 => ("Gearbox$Maker", "waiting", "[I", true)
  | 5 => ("Gearbox$Maker", "pieces", "I", false)
  | 6 => ("Gearbox$Maker", "pieceFrom", "[I", true)
  | 7 => ("Gearbox$Maker", "pieceTo", "[I", true)
  | 8 => ("Gearbox$Maker", "pieceFirst", "[I", true)
  | 9 => ("Gearbox$Maker", "pieceSecond", "[I", true)
  | 10 => ("Gearbox$Maker", "pieceWays", "[I", true)
  | 11 => ("Gearbox$Maker", "pieceBlock", "[I", true)
  | 12 => ("Gearbox$Maker", "labelPiece", "[I", true)
  | 13 => ("Gearbox$Maker", "found", "[I", true)
  | 14 => ("Gearbox$Maker", "pieceOf", "[I", true)
  | 15 => ("Gearbox$Maker", "uses", "[J", true)
  | 16 => ("Gearbox$Maker", "assigns", "[J", true)
  | 17 => ("Gearbox$Maker", "border", "[J", true)
  | 18 => ("Gearbox$Maker", "phiVariable", "[I", true)
  | _ => ("Gearbox$Maker", "now", "[I", true)
def tyX4 : Nat → FieldType := fun k => match k with
  | 0 => .object "Gearbox$Shape"
  | 1 => .array .int
  | 2 => .array .int
  | 3 => .array .int
  | 4 => .array .int
  | 5 => .int
  | 6 => .array .int
  | 7 => .array .int
  | 8 => .array .int
  | 9 => .array .int
  | 10 => .array .int
  | 11 => .array .int
  | 12 => .array .int
  | 13 => .array .int
  | 14 => .array .int
  | 15 => .array .long
  | 16 => .array .long
  | 17 => .array .long
  | 18 => .array .int
  | _ => .array .int
abbrev wsX40 : List Cond := u_ws RX4 TX4 20
theorem nmX4 : ∀ a, a < 20 → ∀ b, b < 20 → a ≠ b → (TX4 a).2.1 ≠ (TX4 b).2.1 := by decide +kernel
theorem tyX4_ok : ∀ k, k < 20 → parseFieldDescriptor (TX4 k).2.2.1 = some (tyX4 k) := by decide +kernel
def RX5 : String := "Gearbox$Passes"
def TX5 : u_T := fun k => match k with
  | 0 => ("Gearbox$Passes", "shape", "LGearbox$Shape;", true)
  | 1 => ("Gearbox$Passes", "giver", "[I", true)
  | 2 => ("Gearbox$Passes", "home", "[I", true)
  | 3 => ("Gearbox$Passes", "state", "[I", true)
  | 4 => ("Gearbox$Passes", "number", "[I", true)
  | 5 => ("Gearbox$Passes", "standIn", "[I", true)
  | 6 => ("Gearbox$Passes", "marks", "[I", true)
  | 7 => ("Gearbox$Passes", "reached", "J", false)
  | 8 => ("Gearbox$Passes", "seenStep", "[I", true)
  | 9 => ("Gearbox$Passes", "seenBlock", "[I", true)
  | 10 => ("Gearbox$Passes", "seen", "I", false)
  | _ => ("Gearbox$Passes", "path", "[I", true)
def tyX5 : Nat → FieldType := fun k => match k with
  | 0 => .object "Gearbox$Shape"
  | 1 => .array .int
  | 2 => .array .int
  | 3 => .array .int
  | 4 => .array .int
  | 5 => .array .int
  | 6 => .array .int
  | 7 => .long
  | 8 => .array .int
  | 9 => .array .int
  | 10 => .int
  | _ => .array .int
abbrev wsX50 : List Cond := u_ws RX5 TX5 12
theorem nmX5 : ∀ a, a < 12 → ∀ b, b < 12 → a ≠ b → (TX5 a).2.1 ≠ (TX5 b).2.1 := by decide +kernel
theorem tyX5_ok : ∀ k, k < 12 → parseFieldDescriptor (TX5 k).2.2.1 = some (tyX5 k) := by decide +kernel
def RX0 : String := "Gearbox$Allocator"
def TX0 : u_T := fun k => match k with
  | 0 => ("Gearbox$Allocator", "work", "LGearbox$Flow;", true)
  | 1 => ("Gearbox$Allocator", "code", "[LGearbox$Steps;", true)
  | 2 => ("Gearbox$Allocator", "slotCounts", "[I", true)
  | 3 => ("Gearbox$Allocator", "unitedCounts", "[I", true)
  | 4 => ("Gearbox$Allocator", "roundCounts", "[I", true)
  | 5 => ("Gearbox$Allocator", "hasCode", "Z", false)
  | 6 => ("Gearbox$Allocator", "graph", "LGearbox$Graph;", true)
  | 7 => ("Gearbox$Allocator", "registers", "I", false)
  | 8 => ("Gearbox$Allocator", "values", "I", false)
  | 9 => ("Gearbox$Allocator", "homes", "I", false)
  | 10 => ("Gearbox$Allocator", "slotCount", "I", false)
  | 11 => ("Gearbox$Allocator", "unitedCount", "I", false)
  | 12 => ("Gearbox$Allocator", "slot", "[I", false)
  | 13 => ("Gearbox$Allocator", "number", "[I", false)
  | 14 => ("Gearbox$Allocator", "copyTo", "[I", true)
  | 15 => ("Gearbox$Allocator", "copyFrom", "[I", true)
  | _ => ("Gearbox$Allocator", "lineOf", "[I", true)
def tyX0 : Nat → FieldType := fun k => match k with
  | 0 => .object "Gearbox$Flow"
  | 1 => .array (.object "Gearbox$Steps")
  | 2 => .array .int
  | 3 => .array .int
  | 4 => .array .int
  | 5 => .boolean
  | 6 => .object "Gearbox$Graph"
  | 7 => .int
  | 8 => .int
  | 9 => .int
  | 10 => .int
  | 11 => .int
  | 12 => .array .int
  | 13 => .array .int
  | 14 => .array .int
  | 15 => .array .int
  | _ => .array .int
abbrev wsX00 : List Cond := u_ws RX0 TX0 17
theorem nmX0 : ∀ a, a < 17 → ∀ b, b < 17 → a ≠ b → (TX0 a).2.1 ≠ (TX0 b).2.1 := by decide +kernel
theorem tyX0_ok : ∀ k, k < 17 → parseFieldDescriptor (TX0 k).2.2.1 = some (tyX0 k) := by decide +kernel
def RX2 : String := "Gearbox$Graph"
def TX2 : u_T := fun k => match k with
  | 0 => ("Gearbox$Graph", "homes", "I", false)
  | 1 => ("Gearbox$Graph", "values", "I", false)
  | 2 => ("Gearbox$Graph", "width", "I", false)
  | 3 => ("Gearbox$Graph", "uses", "[J", false)
  | 4 => ("Gearbox$Graph", "givenIn", "[J", false)
  | 5 => ("Gearbox$Graph", "liveIn", "[J", false)
  | 6 => ("Gearbox$Graph", "live", "[J", false)
  | 7 => ("Gearbox$Graph", "liveGuests", "[I", true)
  | 8 => ("Gearbox$Graph", "guests", "I", false)
  | 9 => ("Gearbox$Graph", "chain", "[I", false)
  | 10 => ("Gearbox$Graph", "near", "[J", false)
  | 11 => ("Gearbox$Graph", "mate", "[I", false)
  | 12 => ("Gearbox$Graph", "degree", "[I", false)
  | 13 => ("Gearbox$Graph", "cost", "[J", false)
  | 14 => ("Gearbox$Graph", "givers", "[I", false)
  | 15 => ("Gearbox$Graph", "giver", "[I", false)
  | 16 => ("Gearbox$Graph", "register", "[I", false)
  | 17 => ("Gearbox$Graph", "left", "[I", false)
  | _ => ("Gearbox$Graph", "order", "[I", false)
def tyX2 : Nat → FieldType := fun k => match k with
  | 0 => .int
  | 1 => .int
  | 2 => .int
  | 3 => .array .long
  | 4 => .array .long
  | 5 => .array .long
  | 6 => .array .long
  | 7 => .array .int
  | 8 => .int
  | 9 => .array .int
  | 10 => .array .long
  | 11 => .array .int
  | 12 => .array .int
  | 13 => .array .long
  | 14 => .array .int
  | 15 => .array .int
  | 16 => .array .int
  | 17 => .array .int
  | _ => .array .int
abbrev wsX20 : List Cond := u_ws RX2 TX2 19
theorem nmX2 : ∀ a, a < 19 → ∀ b, b < 19 → a ≠ b → (TX2 a).2.1 ≠ (TX2 b).2.1 := by decide +kernel
theorem tyX2_ok : ∀ k, k < 19 → parseFieldDescriptor (TX2 k).2.2.1 = some (tyX2 k) := by decide +kernel
def RX3 : String := "Gearbox$Machine"
def TX3 : u_T := fun k => match k with
  | 0 => ("Gearbox$Machine", "outcome", "I", false)
  | 1 => ("Gearbox$Machine", "result", "I", false)
  | 2 => ("Gearbox$Machine", "steps", "I", false)
  | 3 => ("Gearbox$Machine", "memory", "[I", true)
  | 4 => ("Gearbox$Machine", "program", "LGearbox$Program;", false)
  | 5 => ("Gearbox$Machine", "flows", "[LGearbox$Flow;", true)
  | 6 => ("Gearbox$Machine", "allocator", "LGearbox$Allocator;", true)
  | 7 => ("Gearbox$Machine", "told", "[I", true)
  | 8 => ("Gearbox$Machine", "isRunning", "Z", false)
  | 9 => ("Gearbox$Machine", "calls", "I", false)
  | 10 => ("Gearbox$Machine", "function", "[I", true)
  | 11 => ("Gearbox$Machine", "at", "[I", true)
  | 12 => ("Gearbox$Machine", "block", "[I", true)
  | 13 => ("Gearbox$Machine", "blockAhead", "[I", true)
  | 14 => ("Gearbox$Machine", "arguments", "[I", true)
  | 15 => ("Gearbox$Machine", "cells", "[I", true)
  | 16 => ("Gearbox$Machine", "slots", "[I", false)
  | 17 => ("Gearbox$Machine", "slotRoom", "I", false)
  | 18 => ("Gearbox$Machine", "waiting", "[I", true)
  | _ => ("Gearbox$Machine", "count", "I", false)
def tyX3 : Nat → FieldType := fun k => match k with
  | 0 => .int
  | 1 => .int
  | 2 => .int
  | 3 => .array .int
  | 4 => .object "Gearbox$Program"
  | 5 => .array (.object "Gearbox$Flow")
  | 6 => .object "Gearbox$Allocator"
  | 7 => .array .int
  | 8 => .boolean
  | 9 => .int
  | 10 => .array .int
  | 11 => .array .int
  | 12 => .array .int
  | 13 => .array .int
  | 14 => .array .int
  | 15 => .array .int
  | 16 => .array .int
  | 17 => .int
  | 18 => .array .int
  | _ => .int
abbrev wsX30 : List Cond := u_ws RX3 TX3 20
theorem nmX3 : ∀ a, a < 20 → ∀ b, b < 20 → a ≠ b → (TX3 a).2.1 ≠ (TX3 b).2.1 := by decide +kernel
theorem tyX3_ok : ∀ k, k < 20 → parseFieldDescriptor (TX3 k).2.2.1 = some (tyX3 k) := by decide +kernel
def RX11 : String := "Gearbox"
def TX11 : u_T := fun k => match k with
  | 0 => ("Gearbox", "tokens", "LGearbox$Tokens;", true)
  | 1 => ("Gearbox", "reader", "LGearbox$Reader;", true)
  | 2 => ("Gearbox", "flows", "[LGearbox$Flow;", true)
  | 3 => ("Gearbox", "maker", "LGearbox$Maker;", true)
  | 4 => ("Gearbox", "passes", "LGearbox$Passes;", true)
  | 5 => ("Gearbox", "allocator", "LGearbox$Allocator;", true)
  | 6 => ("Gearbox", "machine", "LGearbox$Machine;", true)
  | 7 => ("Gearbox", "ends", "[[I", true)
  | 8 => ("Gearbox", "program", "LGearbox$Program;", false)
  | 9 => ("Gearbox", "spare", "LGearbox$Program;", false)
  | _ => ("Gearbox", "errorPlace", "I", false)
def tyX11 : Nat → FieldType := fun k => match k with
  | 0 => .object "Gearbox$Tokens"
  | 1 => .object "Gearbox$Reader"
  | 2 => .array (.object "Gearbox$Flow")
  | 3 => .object "Gearbox$Maker"
  | 4 => .object "Gearbox$Passes"
  | 5 => .object "Gearbox$Allocator"
  | 6 => .object "Gearbox$Machine"
  | 7 => .array (.array .int)
  | 8 => .object "Gearbox$Program"
  | 9 => .object "Gearbox$Program"
  | _ => .int
abbrev wsX110 : List Cond := u_ws RX11 TX11 11
theorem nmX11 : ∀ a, a < 11 → ∀ b, b < 11 → a ≠ b → (TX11 a).2.1 ≠ (TX11 b).2.1 := by decide +kernel
theorem tyX11_ok : ∀ k, k < 11 → parseFieldDescriptor (TX11 k).2.2.1 = some (tyX11 k) := by decide +kernel
def RJ4 : String := "java/lang/StringBuilder"
def TJ4 : u_T := fun k => match k with
  | 0 => ("java/lang/AbstractStringBuilder", "value", "[B", false)
  | 1 => ("java/lang/AbstractStringBuilder", "coder", "B", false)
  | 2 => ("java/lang/AbstractStringBuilder", "maybeLatin1", "Z", false)
  | _ => ("java/lang/AbstractStringBuilder", "count", "I", false)
def tyJ4 : Nat → FieldType := fun k => match k with
  | 0 => .array .byte
  | 1 => .byte
  | 2 => .boolean
  | _ => .int
abbrev wsJ40 : List Cond := u_ws RJ4 TJ4 4
theorem nmJ4 : ∀ a, a < 4 → ∀ b, b < 4 → a ≠ b → (TJ4 a).2.1 ≠ (TJ4 b).2.1 := by decide +kernel
theorem tyJ4_ok : ∀ k, k < 4 → parseFieldDescriptor (TJ4 k).2.2.1 = some (tyJ4 k) := by decide +kernel
def RJ0 : String := "java/lang/String"
def TJ0 : u_T := fun k => match k with
  | 0 => ("java/lang/String", "value", "[B", true)
  | 1 => ("java/lang/String", "coder", "B", true)
  | 2 => ("java/lang/String", "hash", "I", false)
  | _ => ("java/lang/String", "hashIsZero", "Z", false)
def tyJ0 : Nat → FieldType := fun k => match k with
  | 0 => .array .byte
  | 1 => .byte
  | 2 => .int
  | _ => .boolean
abbrev wsJ00 : List Cond := u_ws RJ0 TJ0 4
theorem nmJ0 : ∀ a, a < 4 → ∀ b, b < 4 → a ≠ b → (TJ0 a).2.1 ≠ (TJ0 b).2.1 := by decide +kernel
theorem tyJ0_ok : ∀ k, k < 4 → parseFieldDescriptor (TJ0 k).2.2.1 = some (tyJ0 k) := by decide +kernel
def RX13 : String := "GearboxLaw$Made"
def TX13 : u_T := fun k => match k with
  | 0 => ("GearboxLaw$Made", "s", "[I", true)
  | 1 => ("GearboxLaw$Made", "draws", "I", false)
  | 2 => ("GearboxLaw$Made", "room", "I", false)
  | 3 => ("GearboxLaw$Made", "counters", "I", false)
  | 4 => ("GearboxLaw$Made", "forks", "I", false)
  | 5 => ("GearboxLaw$Made", "text", "Ljava/lang/StringBuilder;", true)
  | 6 => ("GearboxLaw$Made", "body", "[LGearboxLaw$Line;", true)
  | 7 => ("GearboxLaw$Made", "variables", "[I", true)
  | 8 => ("GearboxLaw$Made", "words", "[I", true)
  | 9 => ("GearboxLaw$Made", "outcome", "I", false)
  | 10 => ("GearboxLaw$Made", "result", "I", false)
  | 11 => ("GearboxLaw$Made", "steps", "I", false)
  | _ => ("GearboxLaw$Made", "isOut", "Z", false)
def tyX13 : Nat → FieldType := fun k => match k with
  | 0 => .array .int
  | 1 => .int
  | 2 => .int
  | 3 => .int
  | 4 => .int
  | 5 => .object "java/lang/StringBuilder"
  | 6 => .array (.object "GearboxLaw$Line")
  | 7 => .array .int
  | 8 => .array .int
  | 9 => .int
  | 10 => .int
  | 11 => .int
  | _ => .boolean
abbrev wsX130 : List Cond := u_ws RX13 TX13 13
theorem nmX13 : ∀ a, a < 13 → ∀ b, b < 13 → a ≠ b → (TX13 a).2.1 ≠ (TX13 b).2.1 := by decide +kernel
theorem tyX13_ok : ∀ k, k < 13 → parseFieldDescriptor (TX13 k).2.2.1 = some (tyX13 k) := by decide +kernel
def RX12 : String := "GearboxLaw$Line"
def TX12 : u_T := fun k => match k with
  | 0 => ("GearboxLaw$Line", "sort", "I", false)
  | 1 => ("GearboxLaw$Line", "n", "I", false)
  | 2 => ("GearboxLaw$Line", "test", "LGearboxLaw$Part;", false)
  | 3 => ("GearboxLaw$Line", "other", "LGearboxLaw$Part;", false)
  | 4 => ("GearboxLaw$Line", "first", "[LGearboxLaw$Line;", false)
  | _ => ("GearboxLaw$Line", "second", "[LGearboxLaw$Line;", false)
def tyX12 : Nat → FieldType := fun k => match k with
  | 0 => .int
  | 1 => .int
  | 2 => .object "GearboxLaw$Part"
  | 3 => .object "GearboxLaw$Part"
  | 4 => .array (.object "GearboxLaw$Line")
  | _ => .array (.object "GearboxLaw$Line")
abbrev wsX120 : List Cond := u_ws RX12 TX12 6
theorem nmX12 : ∀ a, a < 6 → ∀ b, b < 6 → a ≠ b → (TX12 a).2.1 ≠ (TX12 b).2.1 := by decide +kernel
theorem tyX12_ok : ∀ k, k < 6 → parseFieldDescriptor (TX12 k).2.2.1 = some (tyX12 k) := by decide +kernel
def RX14 : String := "GearboxLaw$Part"
def TX14 : u_T := fun k => match k with
  | 0 => ("GearboxLaw$Part", "sort", "I", true)
  | 1 => ("GearboxLaw$Part", "n", "I", true)
  | 2 => ("GearboxLaw$Part", "left", "LGearboxLaw$Part;", true)
  | _ => ("GearboxLaw$Part", "right", "LGearboxLaw$Part;", true)
def tyX14 : Nat → FieldType := fun k => match k with
  | 0 => .int
  | 1 => .int
  | 2 => .object "GearboxLaw$Part"
  | _ => .object "GearboxLaw$Part"
abbrev wsX140 : List Cond := u_ws RX14 TX14 4
theorem nmX14 : ∀ a, a < 4 → ∀ b, b < 4 → a ≠ b → (TX14 a).2.1 ≠ (TX14 b).2.1 := by decide +kernel
theorem tyX14_ok : ∀ k, k < 4 → parseFieldDescriptor (TX14 k).2.2.1 = some (tyX14 k) := by decide +kernel
abbrev cL_law : ByteArray := code
abbrev cls : List vw_C := [(RX10, TX10, 8), (RX7, TX7, 18), (RX6, TX6, 13), (RX9, TX9, 6), (RX1, TX1, 21), (RX8, TX8, 5), (RX4, TX4, 20), (RX5, TX5, 12), (RX0, TX0, 17), (RX2, TX2, 19), (RX3, TX3, 20), (RX11, TX11, 11), (RJ4, TJ4, 4), (RJ0, TJ0, 4), (RX13, TX13, 13), (RX12, TX12, 6), (RX14, TX14, 4)]
set_option maxRecDepth 20000 in
theorem df_X10 : ∀ j, j < 8 → defaultValue (tyX10 j) = vp_V [.null, .int 0, .int 0, .int 0, .int 0, .long 0, .int 0, .int 0] j := (lt_s (lt_s (lt_s (lt_s (lt_s (lt_s (lt_s (lt_s lt_0 rfl) rfl) rfl) rfl) rfl) rfl) rfl) rfl)
set_option maxRecDepth 20000 in
theorem df_X7 : ∀ j, j < 18 → defaultValue (tyX7 j) = vp_V [.int 0, .null, .null, .int 0, .int 0, .int 0, .int 0, .null, .null, .int 0, .null, .null, .int 0, .null, .null, .null, .null, .int 0] j := (lt_s (lt_s (lt_s (lt_s (lt_s (lt_s (lt_s (lt_s (lt_s (lt_s (lt_s (lt_s (lt_s (lt_s (lt_s (lt_s (lt_s (lt_s lt_0 rfl) rfl) rfl) rfl) rfl) rfl) rfl) rfl) rfl) rfl) rfl) rfl) rfl) rfl) rfl) rfl) rfl) rfl)
set_option maxRecDepth 20000 in
theorem df_X6 : ∀ j, j < 13 → defaultValue (tyX6 j) = vp_V [.int 0, .null, .null, .null, .null, .null, .null, .int 0, .null, .null, .null, .int 0, .null] j := (lt_s (lt_s (lt_s (lt_s (lt_s (lt_s (lt_s (lt_s (lt_s (lt_s (lt_s (lt_s (lt_s lt_0 rfl) rfl) rfl) rfl) rfl) rfl) rfl) rfl) rfl) rfl) rfl) rfl) rfl)
set_option maxRecDepth 20000 in
theorem df_X9 : ∀ j, j < 6 → defaultValue (tyX9 j) = vp_V [.int 0, .null, .null, .null, .null, .null] j := (lt_s (lt_s (lt_s (lt_s (lt_s (lt_s lt_0 rfl) rfl) rfl) rfl) rfl) rfl)
set_option maxRecDepth 20000 in
theorem df_X1 : ∀ j, j < 21 → defaultValue (tyX1 j) = vp_V [.int 0, .int 0, .null, .null, .null, .null, .null, .null, .null, .null, .null, .null, .null, .null, .null, .null, .null, .int 0, .null, .null, .null] j := (lt_s (lt_s (lt_s (lt_s (lt_s (lt_s (lt_s (lt_s (lt_s (lt_s (lt_s (lt_s (lt_s (lt_s (lt_s (lt_s (lt_s (lt_s (lt_s (lt_s (lt_s lt_0 rfl) rfl) rfl) rfl) rfl) rfl) rfl) rfl) rfl) rfl) rfl) rfl) rfl) rfl) rfl) rfl) rfl) rfl) rfl) rfl) rfl)
set_option maxRecDepth 20000 in
theorem df_X8 : ∀ j, j < 5 → defaultValue (tyX8 j) = vp_V [.null, .null, .null, .null, .null] j := (lt_s (lt_s (lt_s (lt_s (lt_s lt_0 rfl) rfl) rfl) rfl) rfl)
set_option maxRecDepth 20000 in
theorem df_X4 : ∀ j, j < 20 → defaultValue (tyX4 j) = vp_V [.null, .null, .null, .null, .null, .int 0, .null, .null, .null, .null, .null, .null, .null, .null, .null, .null, .null, .null, .null, .null] j := (lt_s (lt_s (lt_s (lt_s (lt_s (lt_s (lt_s (lt_s (lt_s (lt_s (lt_s (lt_s (lt_s (lt_s (lt_s (lt_s (lt_s (lt_s (lt_s (lt_s lt_0 rfl) rfl) rfl) rfl) rfl) rfl) rfl) rfl) rfl) rfl) rfl) rfl) rfl) rfl) rfl) rfl) rfl) rfl) rfl) rfl)
set_option maxRecDepth 20000 in
theorem df_X5 : ∀ j, j < 12 → defaultValue (tyX5 j) = vp_V [.null, .null, .null, .null, .null, .null, .null, .long 0, .null, .null, .int 0, .null] j := (lt_s (lt_s (lt_s (lt_s (lt_s (lt_s (lt_s (lt_s (lt_s (lt_s (lt_s (lt_s lt_0 rfl) rfl) rfl) rfl) rfl) rfl) rfl) rfl) rfl) rfl) rfl) rfl)
set_option maxRecDepth 20000 in
theorem df_X0 : ∀ j, j < 17 → defaultValue (tyX0 j) = vp_V [.null, .null, .null, .null, .null, .int 0, .null, .int 0, .int 0, .int 0, .int 0, .int 0, .null, .null, .null, .null, .null] j := (lt_s (lt_s (lt_s (lt_s (lt_s (lt_s (lt_s (lt_s (lt_s (lt_s (lt_s (lt_s (lt_s (lt_s (lt_s (lt_s (lt_s lt_0 rfl) rfl) rfl) rfl) rfl) rfl) rfl) rfl) rfl) rfl) rfl) rfl) rfl) rfl) rfl) rfl) rfl)
set_option maxRecDepth 20000 in
theorem df_X2 : ∀ j, j < 19 → defaultValue (tyX2 j) = vp_V [.int 0, .int 0, .int 0, .null, .null, .null, .null, .null, .int 0, .null, .null, .null, .null, .null, .null, .null, .null, .null, .null] j := (lt_s (lt_s (lt_s (lt_s (lt_s (lt_s (lt_s (lt_s (lt_s (lt_s (lt_s (lt_s (lt_s (lt_s (lt_s (lt_s (lt_s (lt_s (lt_s lt_0 rfl) rfl) rfl) rfl) rfl) rfl) rfl) rfl) rfl) rfl) rfl) rfl) rfl) rfl) rfl) rfl) rfl) rfl) rfl)
set_option maxRecDepth 20000 in
theorem df_X3 : ∀ j, j < 20 → defaultValue (tyX3 j) = vp_V [.int 0, .int 0, .int 0, .null, .null, .null, .null, .null, .int 0, .int 0, .null, .null, .null, .null, .null, .null, .null, .int 0, .null, .int 0] j := (lt_s (lt_s (lt_s (lt_s (lt_s (lt_s (lt_s (lt_s (lt_s (lt_s (lt_s (lt_s (lt_s (lt_s (lt_s (lt_s (lt_s (lt_s (lt_s (lt_s lt_0 rfl) rfl) rfl) rfl) rfl) rfl) rfl) rfl) rfl) rfl) rfl) rfl) rfl) rfl) rfl) rfl) rfl) rfl) rfl) rfl)
set_option maxRecDepth 20000 in
theorem df_X11 : ∀ j, j < 11 → defaultValue (tyX11 j) = vp_V [.null, .null, .null, .null, .null, .null, .null, .null, .null, .null, .int 0] j := (lt_s (lt_s (lt_s (lt_s (lt_s (lt_s (lt_s (lt_s (lt_s (lt_s (lt_s lt_0 rfl) rfl) rfl) rfl) rfl) rfl) rfl) rfl) rfl) rfl) rfl)
set_option maxRecDepth 20000 in
theorem df_J4 : ∀ j, j < 4 → defaultValue (tyJ4 j) = vp_V [.null, .int 0, .int 0, .int 0] j := (lt_s (lt_s (lt_s (lt_s lt_0 rfl) rfl) rfl) rfl)
set_option maxRecDepth 20000 in
theorem df_J0 : ∀ j, j < 4 → defaultValue (tyJ0 j) = vp_V [.null, .int 0, .int 0, .int 0] j := (lt_s (lt_s (lt_s (lt_s lt_0 rfl) rfl) rfl) rfl)
set_option maxRecDepth 20000 in
theorem df_X13 : ∀ j, j < 13 → defaultValue (tyX13 j) = vp_V [.null, .int 0, .int 0, .int 0, .int 0, .null, .null, .null, .null, .int 0, .int 0, .int 0, .int 0] j := (lt_s (lt_s (lt_s (lt_s (lt_s (lt_s (lt_s (lt_s (lt_s (lt_s (lt_s (lt_s (lt_s lt_0 rfl) rfl) rfl) rfl) rfl) rfl) rfl) rfl) rfl) rfl) rfl) rfl) rfl)
set_option maxRecDepth 20000 in
theorem df_X12 : ∀ j, j < 6 → defaultValue (tyX12 j) = vp_V [.int 0, .int 0, .null, .null, .null, .null] j := (lt_s (lt_s (lt_s (lt_s (lt_s (lt_s lt_0 rfl) rfl) rfl) rfl) rfl) rfl)
set_option maxRecDepth 20000 in
theorem df_X14 : ∀ j, j < 4 → defaultValue (tyX14 j) = vp_V [.int 0, .int 0, .null, .null] j := (lt_s (lt_s (lt_s (lt_s lt_0 rfl) rfl) rfl) rfl)

