def RX0 : String := "MergeBelts$Acts"
def TX0 : u_T := fun k => match k with
  | 0 => ("MergeBelts$Acts", "before", "[LMergeBelts$State;", true)
  | 1 => ("MergeBelts$Acts", "next", "I", false)
  | _ => ("MergeBelts$Acts", "size", "I", false)
def tyX0 : Nat → FieldType := fun k => match k with
  | 0 => .array (.object "MergeBelts$State")
  | 1 => .int
  | _ => .int
theorem nmX0 : ∀ a, a < 3 → ∀ b, b < 3 → a ≠ b → (TX0 a).2.1 ≠ (TX0 b).2.1 := by decide +kernel
theorem tyX0_ok : ∀ k, k < 3 → parseFieldDescriptor (TX0 k).2.2.1 = some (tyX0 k) := by decide +kernel
def RX1 : String := "MergeBelts$BeltText"
def TX1 : u_T := fun k => match k with
  | _ => ("MergeBelts$BeltText", "plan", "LMergeBelts$Plan;", true)
def tyX1 : Nat → FieldType := fun k => match k with
  | _ => .object "MergeBelts$Plan"
theorem nmX1 : ∀ a, a < 1 → ∀ b, b < 1 → a ≠ b → (TX1 a).2.1 ≠ (TX1 b).2.1 := by decide +kernel
theorem tyX1_ok : ∀ k, k < 1 → parseFieldDescriptor (TX1 k).2.2.1 = some (tyX1 k) := by decide +kernel
def RX2 : String := "MergeBelts$Formula"
def TX2 : u_T := fun k => match k with
  | 0 => ("MergeBelts$Formula", "parts", "LMergeBelts$Row;", true)
  | 1 => ("MergeBelts$Formula", "code", "LMergeBelts$Row;", true)
  | 2 => ("MergeBelts$Formula", "size", "I", false)
  | 3 => ("MergeBelts$Formula", "waitingOperators", "LMergeBelts$Row;", true)
  | 4 => ("MergeBelts$Formula", "waitingSize", "I", false)
  | _ => ("MergeBelts$Formula", "stack", "LMergeBelts$Row;", true)
def tyX2 : Nat → FieldType := fun k => match k with
  | 0 => .object "MergeBelts$Row"
  | 1 => .object "MergeBelts$Row"
  | 2 => .int
  | 3 => .object "MergeBelts$Row"
  | 4 => .int
  | _ => .object "MergeBelts$Row"
theorem nmX2 : ∀ a, a < 6 → ∀ b, b < 6 → a ≠ b → (TX2 a).2.1 ≠ (TX2 b).2.1 := by decide +kernel
theorem tyX2_ok : ∀ k, k < 6 → parseFieldDescriptor (TX2 k).2.2.1 = some (tyX2 k) := by decide +kernel
def RX3 : String := "MergeBelts$Log"
def TX3 : u_T := fun k => match k with
  | 0 => ("MergeBelts$Log", "cells", "LMergeBelts$Row;", true)
  | 1 => ("MergeBelts$Log", "next", "I", false)
  | _ => ("MergeBelts$Log", "size", "I", false)
def tyX3 : Nat → FieldType := fun k => match k with
  | 0 => .object "MergeBelts$Row"
  | 1 => .int
  | _ => .int
theorem nmX3 : ∀ a, a < 3 → ∀ b, b < 3 → a ≠ b → (TX3 a).2.1 ≠ (TX3 b).2.1 := by decide +kernel
theorem tyX3_ok : ∀ k, k < 3 → parseFieldDescriptor (TX3 k).2.2.1 = some (tyX3 k) := by decide +kernel
def RX4 : String := "MergeBelts$Plan"
def TX4 : u_T := fun k => match k with
  | 0 => ("MergeBelts$Plan", "places", "I", false)
  | 1 => ("MergeBelts$Plan", "exits", "I", false)
  | 2 => ("MergeBelts$Plan", "exitPlace", "LMergeBelts$Row;", true)
  | 3 => ("MergeBelts$Plan", "exitPace", "LMergeBelts$Row;", true)
  | 4 => ("MergeBelts$Plan", "wares", "I", false)
  | 5 => ("MergeBelts$Plan", "wareExit", "LMergeBelts$Row;", true)
  | 6 => ("MergeBelts$Plan", "wareUrgent", "LMergeBelts$Row;", true)
  | 7 => ("MergeBelts$Plan", "sides", "I", false)
  | 8 => ("MergeBelts$Plan", "sidePlace", "LMergeBelts$Row;", true)
  | 9 => ("MergeBelts$Plan", "sideRoom", "LMergeBelts$Row;", true)
  | 10 => ("MergeBelts$Plan", "sideReach", "LMergeBelts$Row;", true)
  | 11 => ("MergeBelts$Plan", "sideShare", "LMergeBelts$Row;", true)
  | 12 => ("MergeBelts$Plan", "comings", "I", false)
  | 13 => ("MergeBelts$Plan", "comingSide", "LMergeBelts$Row;", true)
  | 14 => ("MergeBelts$Plan", "comingWare", "LMergeBelts$Row;", true)
  | 15 => ("MergeBelts$Plan", "comingEvery", "LMergeBelts$Row;", true)
  | 16 => ("MergeBelts$Plan", "comingFrom", "LMergeBelts$Row;", true)
  | 17 => ("MergeBelts$Plan", "hasTurns", "Z", false)
  | _ => ("MergeBelts$Plan", "law", "LMergeBelts$Formula;", true)
def tyX4 : Nat → FieldType := fun k => match k with
  | 0 => .int
  | 1 => .int
  | 2 => .object "MergeBelts$Row"
  | 3 => .object "MergeBelts$Row"
  | 4 => .int
  | 5 => .object "MergeBelts$Row"
  | 6 => .object "MergeBelts$Row"
  | 7 => .int
  | 8 => .object "MergeBelts$Row"
  | 9 => .object "MergeBelts$Row"
  | 10 => .object "MergeBelts$Row"
  | 11 => .object "MergeBelts$Row"
  | 12 => .int
  | 13 => .object "MergeBelts$Row"
  | 14 => .object "MergeBelts$Row"
  | 15 => .object "MergeBelts$Row"
  | 16 => .object "MergeBelts$Row"
  | 17 => .boolean
  | _ => .object "MergeBelts$Formula"
theorem nmX4 : ∀ a, a < 19 → ∀ b, b < 19 → a ≠ b → (TX4 a).2.1 ≠ (TX4 b).2.1 := by decide +kernel
theorem tyX4_ok : ∀ k, k < 19 → parseFieldDescriptor (TX4 k).2.2.1 = some (tyX4 k) := by decide +kernel
def RX5 : String := "MergeBelts$Question"
def TX5 : u_T := fun k => match k with
  | 0 => ("MergeBelts$Question", "test", "LMergeBelts$Formula;", true)
  | 1 => ("MergeBelts$Question", "many", "Z", false)
  | 2 => ("MergeBelts$Question", "braces", "I", false)
  | _ => ("MergeBelts$Question", "nots", "I", false)
def tyX5 : Nat → FieldType := fun k => match k with
  | 0 => .object "MergeBelts$Formula"
  | 1 => .boolean
  | 2 => .int
  | _ => .int
theorem nmX5 : ∀ a, a < 4 → ∀ b, b < 4 → a ≠ b → (TX5 a).2.1 ≠ (TX5 b).2.1 := by decide +kernel
theorem tyX5_ok : ∀ k, k < 4 → parseFieldDescriptor (TX5 k).2.2.1 = some (tyX5 k) := by decide +kernel
def RX6 : String := "MergeBelts$Queues"
def TX6 : u_T := fun k => match k with
  | 0 => ("MergeBelts$Queues", "ware", "LMergeBelts$Row;", true)
  | 1 => ("MergeBelts$Queues", "came", "LMergeBelts$Row;", true)
  | _ => ("MergeBelts$Queues", "size", "LMergeBelts$Row;", true)
def tyX6 : Nat → FieldType := fun k => match k with
  | 0 => .object "MergeBelts$Row"
  | 1 => .object "MergeBelts$Row"
  | _ => .object "MergeBelts$Row"
theorem nmX6 : ∀ a, a < 3 → ∀ b, b < 3 → a ≠ b → (TX6 a).2.1 ≠ (TX6 b).2.1 := by decide +kernel
theorem tyX6_ok : ∀ k, k < 3 → parseFieldDescriptor (TX6 k).2.2.1 = some (tyX6 k) := by decide +kernel
def RX7 : String := "MergeBelts$Ring"
def TX7 : u_T := fun k => match k with
  | 0 => ("MergeBelts$Ring", "ware", "LMergeBelts$Row;", true)
  | 1 => ("MergeBelts$Ring", "from", "LMergeBelts$Row;", true)
  | 2 => ("MergeBelts$Ring", "rounds", "LMergeBelts$Row;", true)
  | 3 => ("MergeBelts$Ring", "went", "LMergeBelts$Row;", true)
  | 4 => ("MergeBelts$Ring", "waited", "LMergeBelts$Row;", true)
  | 5 => ("MergeBelts$Ring", "heldFor", "LMergeBelts$Row;", true)
  | 6 => ("MergeBelts$Ring", "size", "I", false)
  | _ => ("MergeBelts$Ring", "turned", "I", false)
def tyX7 : Nat → FieldType := fun k => match k with
  | 0 => .object "MergeBelts$Row"
  | 1 => .object "MergeBelts$Row"
  | 2 => .object "MergeBelts$Row"
  | 3 => .object "MergeBelts$Row"
  | 4 => .object "MergeBelts$Row"
  | 5 => .object "MergeBelts$Row"
  | 6 => .int
  | _ => .int
theorem nmX7 : ∀ a, a < 8 → ∀ b, b < 8 → a ≠ b → (TX7 a).2.1 ≠ (TX7 b).2.1 := by decide +kernel
theorem tyX7_ok : ∀ k, k < 8 → parseFieldDescriptor (TX7 k).2.2.1 = some (tyX7 k) := by decide +kernel
def RX8 : String := "MergeBelts$Row"
def TX8 : u_T := fun k => match k with
  | _ => ("MergeBelts$Row", "cells", "[I", true)
def tyX8 : Nat → FieldType := fun k => match k with
  | _ => .array .int
theorem nmX8 : ∀ a, a < 1 → ∀ b, b < 1 → a ≠ b → (TX8 a).2.1 ≠ (TX8 b).2.1 := by decide +kernel
theorem tyX8_ok : ∀ k, k < 1 → parseFieldDescriptor (TX8 k).2.2.1 = some (tyX8 k) := by decide +kernel
def RX9 : String := "MergeBelts$State"
def TX9 : u_T := fun k => match k with
  | 0 => ("MergeBelts$State", "tick", "I", false)
  | 1 => ("MergeBelts$State", "ring", "LMergeBelts$Ring;", true)
  | 2 => ("MergeBelts$State", "queues", "LMergeBelts$Queues;", true)
  | 3 => ("MergeBelts$State", "room", "LMergeBelts$Row;", true)
  | 4 => ("MergeBelts$State", "reach", "LMergeBelts$Row;", true)
  | 5 => ("MergeBelts$State", "share", "LMergeBelts$Row;", true)
  | 6 => ("MergeBelts$State", "credit", "LMergeBelts$Row;", true)
  | 7 => ("MergeBelts$State", "held", "LMergeBelts$Row;", true)
  | 8 => ("MergeBelts$State", "gone", "LMergeBelts$Row;", true)
  | 9 => ("MergeBelts$State", "sideTaken", "LMergeBelts$Row;", true)
  | 10 => ("MergeBelts$State", "lost", "LMergeBelts$Row;", true)
  | 11 => ("MergeBelts$State", "longestWait", "LMergeBelts$Row;", true)
  | 12 => ("MergeBelts$State", "mayTake", "LMergeBelts$Row;", true)
  | 13 => ("MergeBelts$State", "shutFor", "LMergeBelts$Row;", true)
  | 14 => ("MergeBelts$State", "exitTaken", "LMergeBelts$Row;", true)
  | 15 => ("MergeBelts$State", "wareTaken", "LMergeBelts$Row;", true)
  | 16 => ("MergeBelts$State", "log", "LMergeBelts$Log;", true)
  | _ => ("MergeBelts$State", "silent", "I", false)
def tyX9 : Nat → FieldType := fun k => match k with
  | 0 => .int
  | 1 => .object "MergeBelts$Ring"
  | 2 => .object "MergeBelts$Queues"
  | 3 => .object "MergeBelts$Row"
  | 4 => .object "MergeBelts$Row"
  | 5 => .object "MergeBelts$Row"
  | 6 => .object "MergeBelts$Row"
  | 7 => .object "MergeBelts$Row"
  | 8 => .object "MergeBelts$Row"
  | 9 => .object "MergeBelts$Row"
  | 10 => .object "MergeBelts$Row"
  | 11 => .object "MergeBelts$Row"
  | 12 => .object "MergeBelts$Row"
  | 13 => .object "MergeBelts$Row"
  | 14 => .object "MergeBelts$Row"
  | 15 => .object "MergeBelts$Row"
  | 16 => .object "MergeBelts$Log"
  | _ => .int
theorem nmX9 : ∀ a, a < 18 → ∀ b, b < 18 → a ≠ b → (TX9 a).2.1 ≠ (TX9 b).2.1 := by decide +kernel
theorem tyX9_ok : ∀ k, k < 18 → parseFieldDescriptor (TX9 k).2.2.1 = some (tyX9 k) := by decide +kernel
def RX10 : String := "MergeBelts$Tape"
def TX10 : u_T := fun k => match k with
  | 0 => ("MergeBelts$Tape", "bytes", "LMergeBelts$Row;", true)
  | 1 => ("MergeBelts$Tape", "size", "I", false)
  | 2 => ("MergeBelts$Tape", "length", "I", false)
  | 3 => ("MergeBelts$Tape", "kind", "I", false)
  | 4 => ("MergeBelts$Tape", "start", "I", false)
  | 5 => ("MergeBelts$Tape", "end", "I", false)
  | 6 => ("MergeBelts$Tape", "faultKind", "I", false)
  | _ => ("MergeBelts$Tape", "faultPlace", "I", false)
def tyX10 : Nat → FieldType := fun k => match k with
  | 0 => .object "MergeBelts$Row"
  | 1 => .int
  | 2 => .int
  | 3 => .int
  | 4 => .int
  | 5 => .int
  | 6 => .int
  | _ => .int
theorem nmX10 : ∀ a, a < 8 → ∀ b, b < 8 → a ≠ b → (TX10 a).2.1 ≠ (TX10 b).2.1 := by decide +kernel
theorem tyX10_ok : ∀ k, k < 8 → parseFieldDescriptor (TX10 k).2.2.1 = some (tyX10 k) := by decide +kernel
def RX11 : String := "MergeBelts"
def TX11 : u_T := fun k => match k with
  | 0 => ("MergeBelts", "tape", "LMergeBelts$Tape;", true)
  | 1 => ("MergeBelts", "beltText", "LMergeBelts$BeltText;", true)
  | 2 => ("MergeBelts", "question", "LMergeBelts$Question;", true)
  | 3 => ("MergeBelts", "plan", "LMergeBelts$Plan;", true)
  | 4 => ("MergeBelts", "now", "LMergeBelts$State;", true)
  | 5 => ("MergeBelts", "acts", "LMergeBelts$Acts;", true)
  | 6 => ("MergeBelts", "earlier", "LMergeBelts$State;", true)
  | 7 => ("MergeBelts", "later", "LMergeBelts$State;", true)
  | 8 => ("MergeBelts", "keptPlan", "LMergeBelts$Plan;", true)
  | 9 => ("MergeBelts", "keptState", "LMergeBelts$State;", true)
  | 10 => ("MergeBelts", "kept", "Z", false)
  | _ => ("MergeBelts", "faultPlace", "I", false)
def tyX11 : Nat → FieldType := fun k => match k with
  | 0 => .object "MergeBelts$Tape"
  | 1 => .object "MergeBelts$BeltText"
  | 2 => .object "MergeBelts$Question"
  | 3 => .object "MergeBelts$Plan"
  | 4 => .object "MergeBelts$State"
  | 5 => .object "MergeBelts$Acts"
  | 6 => .object "MergeBelts$State"
  | 7 => .object "MergeBelts$State"
  | 8 => .object "MergeBelts$Plan"
  | 9 => .object "MergeBelts$State"
  | 10 => .boolean
  | _ => .int
theorem nmX11 : ∀ a, a < 12 → ∀ b, b < 12 → a ≠ b → (TX11 a).2.1 ≠ (TX11 b).2.1 := by decide +kernel
theorem tyX11_ok : ∀ k, k < 12 → parseFieldDescriptor (TX11 k).2.2.1 = some (tyX11 k) := by decide +kernel
def RX12 : String := "MergeBeltsModel"
def TX12 : u_T := fun k => match k with
  | 0 => ("MergeBeltsModel", "row", "[I", true)
  | 1 => ("MergeBeltsModel", "read", "[I", true)
  | 2 => ("MergeBeltsModel", "aside", "[I", true)
  | 3 => ("MergeBeltsModel", "image", "[I", true)
  | 4 => ("MergeBeltsModel", "past", "[I", true)
  | 5 => ("MergeBeltsModel", "hasImage", "Z", false)
  | 6 => ("MergeBeltsModel", "acts", "I", false)
  | 7 => ("MergeBeltsModel", "code", "I", false)
  | 8 => ("MergeBeltsModel", "off", "I", false)
  | 9 => ("MergeBeltsModel", "carried", "[I", true)
  | 10 => ("MergeBeltsModel", "turnAt", "I", false)
  | 11 => ("MergeBeltsModel", "turnSide", "I", false)
  | 12 => ("MergeBeltsModel", "moments", "[I", true)
  | 13 => ("MergeBeltsModel", "written", "I", false)
  | 14 => ("MergeBeltsModel", "againAt", "I", false)
  | 15 => ("MergeBeltsModel", "againBy", "I", false)
  | 16 => ("MergeBeltsModel", "tape", "[I", true)
  | 17 => ("MergeBeltsModel", "taped", "I", false)
  | 18 => ("MergeBeltsModel", "size", "I", false)
  | 19 => ("MergeBeltsModel", "at", "I", false)
  | 20 => ("MergeBeltsModel", "token", "I", false)
  | 21 => ("MergeBeltsModel", "begins", "I", false)
  | 22 => ("MergeBeltsModel", "stops", "I", false)
  | 23 => ("MergeBeltsModel", "bad", "I", false)
  | 24 => ("MergeBeltsModel", "badPlace", "I", false)
  | 25 => ("MergeBeltsModel", "faultPlace", "I", false)
  | 26 => ("MergeBeltsModel", "open", "I", false)
  | _ => ("MergeBeltsModel", "asked", "I", false)
def tyX12 : Nat → FieldType := fun k => match k with
  | 0 => .array .int
  | 1 => .array .int
  | 2 => .array .int
  | 3 => .array .int
  | 4 => .array .int
  | 5 => .boolean
  | 6 => .int
  | 7 => .int
  | 8 => .int
  | 9 => .array .int
  | 10 => .int
  | 11 => .int
  | 12 => .array .int
  | 13 => .int
  | 14 => .int
  | 15 => .int
  | 16 => .array .int
  | 17 => .int
  | 18 => .int
  | 19 => .int
  | 20 => .int
  | 21 => .int
  | 22 => .int
  | 23 => .int
  | 24 => .int
  | 25 => .int
  | 26 => .int
  | _ => .int
theorem nmX12 : ∀ a, a < 28 → ∀ b, b < 28 → a ≠ b → (TX12 a).2.1 ≠ (TX12 b).2.1 := by decide +kernel
theorem tyX12_ok : ∀ k, k < 28 → parseFieldDescriptor (TX12 k).2.2.1 = some (tyX12 k) := by decide +kernel
abbrev vwCl : List vw_C := [(RX0, TX0, 3), (RX1, TX1, 1), (RX2, TX2, 6), (RX3, TX3, 3), (RX4, TX4, 19), (RX5, TX5, 4), (RX6, TX6, 3), (RX7, TX7, 8), (RX8, TX8, 1), (RX9, TX9, 18), (RX10, TX10, 8), (RX11, TX11, 12), (RX12, TX12, 28)]
