def RX0 : String := "LarkExchange$Bench"
def TX0 : u_T := fun k => match k with
  | 0 => ("LarkExchange$Bench", "rates", "[I", true)
  | 1 => ("LarkExchange$Bench", "weights", "[I", true)
  | 2 => ("LarkExchange$Bench", "worths", "[I", true)
  | 3 => ("LarkExchange$Bench", "count", "I", false)
  | 4 => ("LarkExchange$Bench", "order", "[I", true)
  | 5 => ("LarkExchange$Bench", "above", "I", false)
  | _ => ("LarkExchange$Bench", "below", "I", false)
def tyX0 : Nat → FieldType := fun k => match k with
  | 0 => .array .int
  | 1 => .array .int
  | 2 => .array .int
  | 3 => .int
  | 4 => .array .int
  | 5 => .int
  | _ => .int
theorem nmX0 : ∀ a, a < 7 → ∀ b, b < 7 → a ≠ b → (TX0 a).2.1 ≠ (TX0 b).2.1 := by decide +kernel
theorem tyX0_ok : ∀ k, k < 7 → parseFieldDescriptor (TX0 k).2.2.1 = some (tyX0 k) := by decide +kernel
def RX1 : String := "LarkExchange$Heath"
def TX1 : u_T := fun k => match k with
  | 0 => ("LarkExchange$Heath", "ends", "[I", true)
  | 1 => ("LarkExchange$Heath", "count", "I", false)
  | 2 => ("LarkExchange$Heath", "near", "[I", true)
  | _ => ("LarkExchange$Heath", "known", "[I", true)
def tyX1 : Nat → FieldType := fun k => match k with
  | 0 => .array .int
  | 1 => .int
  | 2 => .array .int
  | _ => .array .int
theorem nmX1 : ∀ a, a < 4 → ∀ b, b < 4 → a ≠ b → (TX1 a).2.1 ≠ (TX1 b).2.1 := by decide +kernel
theorem tyX1_ok : ∀ k, k < 4 → parseFieldDescriptor (TX1 k).2.2.1 = some (tyX1 k) := by decide +kernel
def RX2 : String := "LarkExchange$Law"
def TX2 : u_T := fun k => match k with
  | 0 => ("LarkExchange$Law", "lines", "I", false)
  | 1 => ("LarkExchange$Law", "used", "I", false)
  | 2 => ("LarkExchange$Law", "words", "[I", true)
  | 3 => ("LarkExchange$Law", "begins", "[I", true)
  | 4 => ("LarkExchange$Law", "whens", "[I", true)
  | 5 => ("LarkExchange$Law", "ends", "[I", true)
  | 6 => ("LarkExchange$Law", "code", "[I", true)
  | 7 => ("LarkExchange$Law", "seen", "[I", true)
  | _ => ("LarkExchange$Law", "stack", "[I", true)
def tyX2 : Nat → FieldType := fun k => match k with
  | 0 => .int
  | 1 => .int
  | 2 => .array .int
  | 3 => .array .int
  | 4 => .array .int
  | 5 => .array .int
  | 6 => .array .int
  | 7 => .array .int
  | _ => .array .int
theorem nmX2 : ∀ a, a < 9 → ∀ b, b < 9 → a ≠ b → (TX2 a).2.1 ≠ (TX2 b).2.1 := by decide +kernel
theorem tyX2_ok : ∀ k, k < 9 → parseFieldDescriptor (TX2 k).2.2.1 = some (tyX2 k) := by decide +kernel
def RX3 : String := "LarkExchange$Lines"
def TX3 : u_T := fun k => match k with
  | 0 => ("LarkExchange$Lines", "cells", "[I", true)
  | _ => ("LarkExchange$Lines", "count", "I", false)
def tyX3 : Nat → FieldType := fun k => match k with
  | 0 => .array .int
  | _ => .int
theorem nmX3 : ∀ a, a < 2 → ∀ b, b < 2 → a ≠ b → (TX3 a).2.1 ≠ (TX3 b).2.1 := by decide +kernel
theorem tyX3_ok : ∀ k, k < 2 → parseFieldDescriptor (TX3 k).2.2.1 = some (tyX3 k) := by decide +kernel
def RX4 : String := "LarkExchange$Past"
def TX4 : u_T := fun k => match k with
  | 0 => ("LarkExchange$Past", "worlds", "[LLarkExchange$World;", true)
  | 1 => ("LarkExchange$Past", "next", "I", false)
  | _ => ("LarkExchange$Past", "count", "I", false)
def tyX4 : Nat → FieldType := fun k => match k with
  | 0 => .array (.object "LarkExchange$World")
  | 1 => .int
  | _ => .int
theorem nmX4 : ∀ a, a < 3 → ∀ b, b < 3 → a ≠ b → (TX4 a).2.1 ≠ (TX4 b).2.1 := by decide +kernel
theorem tyX4_ok : ∀ k, k < 3 → parseFieldDescriptor (TX4 k).2.2.1 = some (tyX4 k) := by decide +kernel
def RX5 : String := "LarkExchange$Reader"
def TX5 : u_T := fun k => match k with
  | 0 => ("LarkExchange$Reader", "length", "I", false)
  | 1 => ("LarkExchange$Reader", "fault", "I", false)
  | 2 => ("LarkExchange$Reader", "place", "I", false)
  | 3 => ("LarkExchange$Reader", "law", "LLarkExchange$Law;", true)
  | 4 => ("LarkExchange$Reader", "lines", "LLarkExchange$Lines;", true)
  | 5 => ("LarkExchange$Reader", "tape", "[I", true)
  | 6 => ("LarkExchange$Reader", "kinds", "[I", true)
  | 7 => ("LarkExchange$Reader", "values", "[I", true)
  | 8 => ("LarkExchange$Reader", "places", "[I", true)
  | 9 => ("LarkExchange$Reader", "tokens", "I", false)
  | _ => ("LarkExchange$Reader", "at", "I", false)
def tyX5 : Nat → FieldType := fun k => match k with
  | 0 => .int
  | 1 => .int
  | 2 => .int
  | 3 => .object "LarkExchange$Law"
  | 4 => .object "LarkExchange$Lines"
  | 5 => .array .int
  | 6 => .array .int
  | 7 => .array .int
  | 8 => .array .int
  | 9 => .int
  | _ => .int
theorem nmX5 : ∀ a, a < 11 → ∀ b, b < 11 → a ≠ b → (TX5 a).2.1 ≠ (TX5 b).2.1 := by decide +kernel
theorem tyX5_ok : ∀ k, k < 11 → parseFieldDescriptor (TX5 k).2.2.1 = some (tyX5 k) := by decide +kernel
def RX6 : String := "LarkExchange$Row"
def TX6 : u_T := fun k => match k with
  | 0 => ("LarkExchange$Row", "prices", "[I", true)
  | 1 => ("LarkExchange$Row", "count", "I", false)
  | 2 => ("LarkExchange$Row", "sorted", "[I", true)
  | 3 => ("LarkExchange$Row", "gains", "[I", true)
  | _ => ("LarkExchange$Row", "holds", "[I", true)
def tyX6 : Nat → FieldType := fun k => match k with
  | 0 => .array .int
  | 1 => .int
  | 2 => .array .int
  | 3 => .array .int
  | _ => .array .int
theorem nmX6 : ∀ a, a < 5 → ∀ b, b < 5 → a ≠ b → (TX6 a).2.1 ≠ (TX6 b).2.1 := by decide +kernel
theorem tyX6_ok : ∀ k, k < 5 → parseFieldDescriptor (TX6 k).2.2.1 = some (tyX6 k) := by decide +kernel
def RX7 : String := "LarkExchange$Sums"
def TX7 : u_T := fun k => match k with
  | 0 => ("LarkExchange$Sums", "ways", "[I", true)
  | _ => ("LarkExchange$Sums", "wins", "[I", true)
def tyX7 : Nat → FieldType := fun k => match k with
  | 0 => .array .int
  | _ => .array .int
theorem nmX7 : ∀ a, a < 2 → ∀ b, b < 2 → a ≠ b → (TX7 a).2.1 ≠ (TX7 b).2.1 := by decide +kernel
theorem tyX7_ok : ∀ k, k < 2 → parseFieldDescriptor (TX7 k).2.2.1 = some (tyX7 k) := by decide +kernel
def RX8 : String := "LarkExchange$Town"
def TX8 : u_T := fun k => match k with
  | 0 => ("LarkExchange$Town", "world", "LLarkExchange$World;", true)
  | 1 => ("LarkExchange$Town", "pages", "[I", true)
  | 2 => ("LarkExchange$Town", "law", "LLarkExchange$Law;", true)
  | 3 => ("LarkExchange$Town", "dawns", "LLarkExchange$Lines;", true)
  | 4 => ("LarkExchange$Town", "trades", "LLarkExchange$Lines;", true)
  | 5 => ("LarkExchange$Town", "bound", "LLarkExchange$Lines;", true)
  | 6 => ("LarkExchange$Town", "row", "LLarkExchange$Row;", true)
  | 7 => ("LarkExchange$Town", "heath", "LLarkExchange$Heath;", true)
  | _ => ("LarkExchange$Town", "bench", "LLarkExchange$Bench;", true)
def tyX8 : Nat → FieldType := fun k => match k with
  | 0 => .object "LarkExchange$World"
  | 1 => .array .int
  | 2 => .object "LarkExchange$Law"
  | 3 => .object "LarkExchange$Lines"
  | 4 => .object "LarkExchange$Lines"
  | 5 => .object "LarkExchange$Lines"
  | 6 => .object "LarkExchange$Row"
  | 7 => .object "LarkExchange$Heath"
  | _ => .object "LarkExchange$Bench"
theorem nmX8 : ∀ a, a < 9 → ∀ b, b < 9 → a ≠ b → (TX8 a).2.1 ≠ (TX8 b).2.1 := by decide +kernel
theorem tyX8_ok : ∀ k, k < 9 → parseFieldDescriptor (TX8 k).2.2.1 = some (tyX8 k) := by decide +kernel
def RX9 : String := "LarkExchange$World"
def TX9 : u_T := fun k => match k with
  | 0 => ("LarkExchange$World", "larks", "I", false)
  | 1 => ("LarkExchange$World", "goods", "I", false)
  | 2 => ("LarkExchange$World", "traders", "I", false)
  | 3 => ("LarkExchange$World", "wind", "I", false)
  | 4 => ("LarkExchange$World", "day", "I", false)
  | 5 => ("LarkExchange$World", "draws", "I", false)
  | 6 => ("LarkExchange$World", "written", "I", false)
  | 7 => ("LarkExchange$World", "voice", "[I", true)
  | 8 => ("LarkExchange$World", "height", "[I", true)
  | 9 => ("LarkExchange$World", "top", "[I", true)
  | 10 => ("LarkExchange$World", "lost", "[I", true)
  | 11 => ("LarkExchange$World", "scared", "[I", true)
  | 12 => ("LarkExchange$World", "base", "[I", true)
  | 13 => ("LarkExchange$World", "by", "[I", true)
  | 14 => ("LarkExchange$World", "price", "[I", true)
  | 15 => ("LarkExchange$World", "purse", "[I", true)
  | 16 => ("LarkExchange$World", "ruined", "[I", true)
  | _ => ("LarkExchange$World", "stock", "[I", true)
def tyX9 : Nat → FieldType := fun k => match k with
  | 0 => .int
  | 1 => .int
  | 2 => .int
  | 3 => .int
  | 4 => .int
  | 5 => .int
  | 6 => .int
  | 7 => .array .int
  | 8 => .array .int
  | 9 => .array .int
  | 10 => .array .int
  | 11 => .array .int
  | 12 => .array .int
  | 13 => .array .int
  | 14 => .array .int
  | 15 => .array .int
  | 16 => .array .int
  | _ => .array .int
theorem nmX9 : ∀ a, a < 18 → ∀ b, b < 18 → a ≠ b → (TX9 a).2.1 ≠ (TX9 b).2.1 := by decide +kernel
theorem tyX9_ok : ∀ k, k < 18 → parseFieldDescriptor (TX9 k).2.2.1 = some (tyX9 k) := by decide +kernel
def RX10 : String := "LarkExchange"
def TX10 : u_T := fun k => match k with
  | 0 => ("LarkExchange", "now", "LLarkExchange$Town;", true)
  | 1 => ("LarkExchange", "kept", "LLarkExchange$Town;", true)
  | 2 => ("LarkExchange", "thought", "LLarkExchange$World;", true)
  | 3 => ("LarkExchange", "past", "LLarkExchange$Past;", true)
  | 4 => ("LarkExchange", "reader", "LLarkExchange$Reader;", true)
  | 5 => ("LarkExchange", "sums", "LLarkExchange$Sums;", true)
  | _ => ("LarkExchange", "isKept", "Z", false)
def tyX10 : Nat → FieldType := fun k => match k with
  | 0 => .object "LarkExchange$Town"
  | 1 => .object "LarkExchange$Town"
  | 2 => .object "LarkExchange$World"
  | 3 => .object "LarkExchange$Past"
  | 4 => .object "LarkExchange$Reader"
  | 5 => .object "LarkExchange$Sums"
  | _ => .boolean
theorem nmX10 : ∀ a, a < 7 → ∀ b, b < 7 → a ≠ b → (TX10 a).2.1 ≠ (TX10 b).2.1 := by decide +kernel
theorem tyX10_ok : ∀ k, k < 7 → parseFieldDescriptor (TX10 k).2.2.1 = some (tyX10 k) := by decide +kernel
def RX11 : String := "LarkExchangeModel"
def TX11 : u_T := fun k => match k with
  | 0 => ("LarkExchangeModel", "told", "I", false)
  | 1 => ("LarkExchangeModel", "above", "I", false)
  | 2 => ("LarkExchangeModel", "below", "I", false)
  | 3 => ("LarkExchangeModel", "now", "[I", true)
  | 4 => ("LarkExchangeModel", "rows", "[I", true)
  | 5 => ("LarkExchangeModel", "undoable", "I", false)
  | 6 => ("LarkExchangeModel", "waiting", "[I", true)
  | 7 => ("LarkExchangeModel", "isThought", "Z", false)
  | 8 => ("LarkExchangeModel", "larks", "I", false)
  | 9 => ("LarkExchangeModel", "goods", "I", false)
  | 10 => ("LarkExchangeModel", "traders", "I", false)
  | 11 => ("LarkExchangeModel", "voice", "[I", true)
  | 12 => ("LarkExchangeModel", "base", "[I", true)
  | 13 => ("LarkExchangeModel", "book", "[I", true)
  | 14 => ("LarkExchangeModel", "tape", "[I", true)
  | 15 => ("LarkExchangeModel", "taped", "I", false)
  | 16 => ("LarkExchangeModel", "spot", "I", false)
  | 17 => ("LarkExchangeModel", "from", "I", false)
  | 18 => ("LarkExchangeModel", "token", "I", false)
  | 19 => ("LarkExchangeModel", "value", "I", false)
  | 20 => ("LarkExchangeModel", "words", "[I", true)
  | 21 => ("LarkExchangeModel", "lineMany", "[I", true)
  | 22 => ("LarkExchangeModel", "lineWord", "[I", true)
  | 23 => ("LarkExchangeModel", "lineFrom", "[I", true)
  | 24 => ("LarkExchangeModel", "lineWhen", "[I", true)
  | 25 => ("LarkExchangeModel", "lineTo", "[I", true)
  | 26 => ("LarkExchangeModel", "op", "[I", true)
  | 27 => ("LarkExchangeModel", "arg", "[I", true)
  | 28 => ("LarkExchangeModel", "which", "I", false)
  | 29 => ("LarkExchangeModel", "codes", "I", false)
  | 30 => ("LarkExchangeModel", "open", "I", false)
  | 31 => ("LarkExchangeModel", "pending", "[I", true)
  | 32 => ("LarkExchangeModel", "pendings", "I", false)
  | 33 => ("LarkExchangeModel", "readFault", "I", false)
  | 34 => ("LarkExchangeModel", "readPlace", "I", false)
  | 35 => ("LarkExchangeModel", "faultKind", "I", false)
  | 36 => ("LarkExchangeModel", "faultPlace", "I", false)
  | 37 => ("LarkExchangeModel", "deedMany", "I", false)
  | 38 => ("LarkExchangeModel", "deeds", "[I", true)
  | 39 => ("LarkExchangeModel", "tradeMany", "I", false)
  | 40 => ("LarkExchangeModel", "trades", "[I", true)
  | 41 => ("LarkExchangeModel", "boundMany", "I", false)
  | 42 => ("LarkExchangeModel", "larkUp", "[I", true)
  | 43 => ("LarkExchangeModel", "asked", "[I", true)
  | 44 => ("LarkExchangeModel", "stack", "[I", true)
  | 45 => ("LarkExchangeModel", "priceMany", "I", false)
  | 46 => ("LarkExchangeModel", "prices", "[I", true)
  | 47 => ("LarkExchangeModel", "gainBy", "[I", true)
  | 48 => ("LarkExchangeModel", "changes", "[I", true)
  | 49 => ("LarkExchangeModel", "sticksOf", "[I", true)
  | 50 => ("LarkExchangeModel", "wordLong", "[I", true)
  | 51 => ("LarkExchangeModel", "wayMany", "I", false)
  | 52 => ("LarkExchangeModel", "waysOf", "[I", true)
  | 53 => ("LarkExchangeModel", "caughtBy", "[I", true)
  | 54 => ("LarkExchangeModel", "sackMany", "I", false)
  | 55 => ("LarkExchangeModel", "sackWeights", "[I", true)
  | 56 => ("LarkExchangeModel", "sackWorths", "[I", true)
  | 57 => ("LarkExchangeModel", "sharesBy", "[I", true)
  | 58 => ("LarkExchangeModel", "doesWin", "[I", true)
  | 59 => ("LarkExchangeModel", "isTaking", "Z", false)
  | 60 => ("LarkExchangeModel", "hasImage", "Z", false)
  | 61 => ("LarkExchangeModel", "keptAt", "I", false)
  | _ => ("LarkExchangeModel", "images", "[I", true)
def tyX11 : Nat → FieldType := fun k => match k with
  | 0 => .int
  | 1 => .int
  | 2 => .int
  | 3 => .array .int
  | 4 => .array .int
  | 5 => .int
  | 6 => .array .int
  | 7 => .boolean
  | 8 => .int
  | 9 => .int
  | 10 => .int
  | 11 => .array .int
  | 12 => .array .int
  | 13 => .array .int
  | 14 => .array .int
  | 15 => .int
  | 16 => .int
  | 17 => .int
  | 18 => .int
  | 19 => .int
  | 20 => .array .int
  | 21 => .array .int
  | 22 => .array .int
  | 23 => .array .int
  | 24 => .array .int
  | 25 => .array .int
  | 26 => .array .int
  | 27 => .array .int
  | 28 => .int
  | 29 => .int
  | 30 => .int
  | 31 => .array .int
  | 32 => .int
  | 33 => .int
  | 34 => .int
  | 35 => .int
  | 36 => .int
  | 37 => .int
  | 38 => .array .int
  | 39 => .int
  | 40 => .array .int
  | 41 => .int
  | 42 => .array .int
  | 43 => .array .int
  | 44 => .array .int
  | 45 => .int
  | 46 => .array .int
  | 47 => .array .int
  | 48 => .array .int
  | 49 => .array .int
  | 50 => .array .int
  | 51 => .int
  | 52 => .array .int
  | 53 => .array .int
  | 54 => .int
  | 55 => .array .int
  | 56 => .array .int
  | 57 => .array .int
  | 58 => .array .int
  | 59 => .boolean
  | 60 => .boolean
  | 61 => .int
  | _ => .array .int
theorem nmX11 : ∀ a, a < 63 → ∀ b, b < 63 → a ≠ b → (TX11 a).2.1 ≠ (TX11 b).2.1 := by decide +kernel
theorem tyX11_ok : ∀ k, k < 63 → parseFieldDescriptor (TX11 k).2.2.1 = some (tyX11 k) := by decide +kernel
def am_Rn : Nat → String := fun i => match i with
  | 0 => RX0
  | 1 => RX1
  | 2 => RX2
  | 3 => RX3
  | 4 => RX4
  | 5 => RX5
  | 6 => RX6
  | 7 => RX7
  | 8 => RX8
  | 9 => RX9
  | 10 => RX10
  | 11 => RX11
  | _ => "java/lang/String"
def am_Ft : Nat → u_T := fun i => match i with
  | 0 => TX0
  | 1 => TX1
  | 2 => TX2
  | 3 => TX3
  | 4 => TX4
  | 5 => TX5
  | 6 => TX6
  | 7 => TX7
  | 8 => TX8
  | 9 => TX9
  | 10 => TX10
  | 11 => TX11
  | _ => fun k => match k with | 0 => ("java/lang/String", "coder", "B", true) | _ => ("java/lang/String", "value", "[B", true)
def am_ty : Nat → Nat → FieldType := fun i => match i with
  | 0 => tyX0
  | 1 => tyX1
  | 2 => tyX2
  | 3 => tyX3
  | 4 => tyX4
  | 5 => tyX5
  | 6 => tyX6
  | 7 => tyX7
  | 8 => tyX8
  | 9 => tyX9
  | 10 => tyX10
  | 11 => tyX11
  | _ => fun k => match k with | 0 => .byte | _ => .array .byte
def am_Nf : Nat → Nat := fun i => match i with
  | 0 => 7
  | 1 => 4
  | 2 => 9
  | 3 => 2
  | 4 => 3
  | 5 => 11
  | 6 => 5
  | 7 => 2
  | 8 => 9
  | 9 => 18
  | 10 => 7
  | 11 => 63
  | _ => 2
def am_cls : List vw_C := [(RX0, TX0, 7), (RX1, TX1, 4), (RX2, TX2, 9), (RX3, TX3, 2), (RX4, TX4, 3), (RX5, TX5, 11), (RX6, TX6, 5), (RX7, TX7, 2), (RX8, TX8, 9), (RX9, TX9, 18), (RX10, TX10, 7), (RX11, TX11, 63)]
