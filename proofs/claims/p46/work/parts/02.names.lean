def RX0 : String := "GlitchCourt$Bench"
def TX0 : u_T := fun k => match k with
  | 0 => ("GlitchCourt$Bench", "circuit", "LGlitchCourt$Circuit;", true)
  | 1 => ("GlitchCourt$Bench", "state", "LGlitchCourt$State;", true)
  | 2 => ("GlitchCourt$Bench", "shown", "[J", true)
  | 3 => ("GlitchCourt$Bench", "cheap", "[J", true)
  | 4 => ("GlitchCourt$Bench", "dear", "[J", true)
  | 5 => ("GlitchCourt$Bench", "trial", "[J", true)
  | _ => ("GlitchCourt$Bench", "paths", "[I", true)
def tyX0 : Nat → FieldType := fun k => match k with
  | 0 => .object "GlitchCourt$Circuit"
  | 1 => .object "GlitchCourt$State"
  | 2 => .array .long
  | 3 => .array .long
  | 4 => .array .long
  | 5 => .array .long
  | _ => .array .int
theorem nmX0 : ∀ a, a < 7 → ∀ b, b < 7 → a ≠ b → (TX0 a).2.1 ≠ (TX0 b).2.1 := by decide +kernel
theorem tyX0_ok : ∀ k, k < 7 → parseFieldDescriptor (TX0 k).2.2.1 = some (tyX0 k) := by decide +kernel
def RX1 : String := "GlitchCourt$BenchText"
def TX1 : u_T := fun k => match k with
  | _ => ("", "", "", false)
def tyX1 : Nat → FieldType := fun k => match k with
  | _ => .int
theorem nmX1 : ∀ a, a < 0 → ∀ b, b < 0 → a ≠ b → (TX1 a).2.1 ≠ (TX1 b).2.1 := by decide +kernel
theorem tyX1_ok : ∀ k, k < 0 → parseFieldDescriptor (TX1 k).2.2.1 = some (tyX1 k) := by decide +kernel
def RX2 : String := "GlitchCourt$Circuit"
def TX2 : u_T := fun k => match k with
  | 0 => ("GlitchCourt$Circuit", "kinds", "[I", true)
  | 1 => ("GlitchCourt$Circuit", "firstNets", "[I", true)
  | 2 => ("GlitchCourt$Circuit", "secondNets", "[I", true)
  | 3 => ("GlitchCourt$Circuit", "cones", "[I", true)
  | 4 => ("GlitchCourt$Circuit", "inputs", "I", false)
  | 5 => ("GlitchCourt$Circuit", "gates", "I", false)
  | 6 => ("GlitchCourt$Circuit", "horizon", "I", false)
  | 7 => ("GlitchCourt$Circuit", "rate", "I", false)
  | _ => ("GlitchCourt$Circuit", "fee", "I", false)
def tyX2 : Nat → FieldType := fun k => match k with
  | 0 => .array .int
  | 1 => .array .int
  | 2 => .array .int
  | 3 => .array .int
  | 4 => .int
  | 5 => .int
  | 6 => .int
  | 7 => .int
  | _ => .int
theorem nmX2 : ∀ a, a < 9 → ∀ b, b < 9 → a ≠ b → (TX2 a).2.1 ≠ (TX2 b).2.1 := by decide +kernel
theorem tyX2_ok : ∀ k, k < 9 → parseFieldDescriptor (TX2 k).2.2.1 = some (tyX2 k) := by decide +kernel
def RX3 : String := "GlitchCourt$Dispute"
def TX3 : u_T := fun k => match k with
  | 0 => ("GlitchCourt$Dispute", "net", "I", false)
  | 1 => ("GlitchCourt$Dispute", "first", "I", false)
  | 2 => ("GlitchCourt$Dispute", "last", "I", false)
  | 3 => ("GlitchCourt$Dispute", "level", "I", false)
  | 4 => ("GlitchCourt$Dispute", "party", "I", false)
  | 5 => ("GlitchCourt$Dispute", "claimsReal", "Z", false)
  | 6 => ("GlitchCourt$Dispute", "stage", "I", false)
  | _ => ("GlitchCourt$Dispute", "verdict", "I", false)
def tyX3 : Nat → FieldType := fun k => match k with
  | 0 => .int
  | 1 => .int
  | 2 => .int
  | 3 => .int
  | 4 => .int
  | 5 => .boolean
  | 6 => .int
  | _ => .int
theorem nmX3 : ∀ a, a < 8 → ∀ b, b < 8 → a ≠ b → (TX3 a).2.1 ≠ (TX3 b).2.1 := by decide +kernel
theorem tyX3_ok : ∀ k, k < 8 → parseFieldDescriptor (TX3 k).2.2.1 = some (tyX3 k) := by decide +kernel
def RX4 : String := "GlitchCourt$History"
def TX4 : u_T := fun k => match k with
  | 0 => ("GlitchCourt$History", "rows", "[LGlitchCourt$State;", true)
  | 1 => ("GlitchCourt$History", "snapshot", "LGlitchCourt$State;", true)
  | 2 => ("GlitchCourt$History", "kept", "Z", false)
  | 3 => ("GlitchCourt$History", "count", "I", false)
  | _ => ("GlitchCourt$History", "next", "I", false)
def tyX4 : Nat → FieldType := fun k => match k with
  | 0 => .array (.object "GlitchCourt$State")
  | 1 => .object "GlitchCourt$State"
  | 2 => .boolean
  | 3 => .int
  | _ => .int
theorem nmX4 : ∀ a, a < 5 → ∀ b, b < 5 → a ≠ b → (TX4 a).2.1 ≠ (TX4 b).2.1 := by decide +kernel
theorem tyX4_ok : ∀ k, k < 5 → parseFieldDescriptor (TX4 k).2.2.1 = some (tyX4 k) := by decide +kernel
def RX5 : String := "GlitchCourt$QueryText"
def TX5 : u_T := fun k => match k with
  | 0 => ("GlitchCourt$QueryText", "negates", "[Z", true)
  | 1 => ("GlitchCourt$QueryText", "keptEarlier", "[I", true)
  | 2 => ("GlitchCourt$QueryText", "keptFactors", "[I", true)
  | 3 => ("GlitchCourt$QueryText", "opened", "I", false)
  | 4 => ("GlitchCourt$QueryText", "everyNet", "I", false)
  | 5 => ("GlitchCourt$QueryText", "earlier", "I", false)
  | _ => ("GlitchCourt$QueryText", "factors", "I", false)
def tyX5 : Nat → FieldType := fun k => match k with
  | 0 => .array .boolean
  | 1 => .array .int
  | 2 => .array .int
  | 3 => .int
  | 4 => .int
  | 5 => .int
  | _ => .int
theorem nmX5 : ∀ a, a < 7 → ∀ b, b < 7 → a ≠ b → (TX5 a).2.1 ≠ (TX5 b).2.1 := by decide +kernel
theorem tyX5_ok : ∀ k, k < 7 → parseFieldDescriptor (TX5 k).2.2.1 = some (tyX5 k) := by decide +kernel
def RX6 : String := "GlitchCourt$State"
def TX6 : u_T := fun k => match k with
  | 0 => ("GlitchCourt$State", "delays", "[[I", true)
  | 1 => ("GlitchCourt$State", "inputWaves", "[J", true)
  | 2 => ("GlitchCourt$State", "settled", "[J", true)
  | 3 => ("GlitchCourt$State", "ruled", "[J", true)
  | 4 => ("GlitchCourt$State", "ruledHigh", "[J", true)
  | 5 => ("GlitchCourt$State", "purses", "[I", true)
  | 6 => ("GlitchCourt$State", "disputes", "[LGlitchCourt$Dispute;", true)
  | 7 => ("GlitchCourt$State", "disputeCount", "I", false)
  | _ => ("GlitchCourt$State", "limit", "I", false)
def tyX6 : Nat → FieldType := fun k => match k with
  | 0 => .array (.array .int)
  | 1 => .array .long
  | 2 => .array .long
  | 3 => .array .long
  | 4 => .array .long
  | 5 => .array .int
  | 6 => .array (.object "GlitchCourt$Dispute")
  | 7 => .int
  | _ => .int
theorem nmX6 : ∀ a, a < 9 → ∀ b, b < 9 → a ≠ b → (TX6 a).2.1 ≠ (TX6 b).2.1 := by decide +kernel
theorem tyX6_ok : ∀ k, k < 9 → parseFieldDescriptor (TX6 k).2.2.1 = some (tyX6 k) := by decide +kernel
def RX7 : String := "GlitchCourt$Tokens"
def TX7 : u_T := fun k => match k with
  | 0 => ("GlitchCourt$Tokens", "text", "[B", false)
  | 1 => ("GlitchCourt$Tokens", "length", "I", false)
  | 2 => ("GlitchCourt$Tokens", "start", "I", false)
  | 3 => ("GlitchCourt$Tokens", "end", "I", false)
  | 4 => ("GlitchCourt$Tokens", "type", "I", false)
  | 5 => ("GlitchCourt$Tokens", "number", "I", false)
  | 6 => ("GlitchCourt$Tokens", "errorCode", "I", false)
  | _ => ("GlitchCourt$Tokens", "errorAt", "I", false)
def tyX7 : Nat → FieldType := fun k => match k with
  | 0 => .array .byte
  | 1 => .int
  | 2 => .int
  | 3 => .int
  | 4 => .int
  | 5 => .int
  | 6 => .int
  | _ => .int
theorem nmX7 : ∀ a, a < 8 → ∀ b, b < 8 → a ≠ b → (TX7 a).2.1 ≠ (TX7 b).2.1 := by decide +kernel
theorem tyX7_ok : ∀ k, k < 8 → parseFieldDescriptor (TX7 k).2.2.1 = some (tyX7 k) := by decide +kernel
def RX8 : String := "GlitchCourt"
def TX8 : u_T := fun k => match k with
  | 0 => ("GlitchCourt", "history", "LGlitchCourt$History;", true)
  | 1 => ("GlitchCourt", "tokens", "LGlitchCourt$Tokens;", true)
  | 2 => ("GlitchCourt", "queryText", "LGlitchCourt$QueryText;", true)
  | 3 => ("GlitchCourt", "buffer", "[B", true)
  | 4 => ("GlitchCourt", "formatted", "[B", true)
  | 5 => ("GlitchCourt", "bench", "LGlitchCourt$Bench;", false)
  | 6 => ("GlitchCourt", "draft", "LGlitchCourt$Bench;", false)
  | 7 => ("GlitchCourt", "buffered", "I", false)
  | 8 => ("GlitchCourt", "formattedLength", "I", false)
  | _ => ("GlitchCourt", "errorAt", "I", false)
def tyX8 : Nat → FieldType := fun k => match k with
  | 0 => .object "GlitchCourt$History"
  | 1 => .object "GlitchCourt$Tokens"
  | 2 => .object "GlitchCourt$QueryText"
  | 3 => .array .byte
  | 4 => .array .byte
  | 5 => .object "GlitchCourt$Bench"
  | 6 => .object "GlitchCourt$Bench"
  | 7 => .int
  | 8 => .int
  | _ => .int
theorem nmX8 : ∀ a, a < 10 → ∀ b, b < 10 → a ≠ b → (TX8 a).2.1 ≠ (TX8 b).2.1 := by decide +kernel
theorem tyX8_ok : ∀ k, k < 10 → parseFieldDescriptor (TX8 k).2.2.1 = some (tyX8 k) := by decide +kernel
def RJ6 : String := "java/lang/Integer"
def RJ13 : String := "java/lang/Long"
def RJ9 : String := "java/lang/Math"
def RJ0 : String := "java/lang/String"
def RJ1 : String := "java/lang/StringLatin1"
def RJ7 : String := "java/util/Arrays"
def RJ3 : String := "jdk/internal/util/Preconditions"
def RXL : String := "GlitchCourtLaw"
def TXL : u_T := fun k => match k with
  | 0 => ("GlitchCourtLaw", "text", "[I", true)
  | 1 => ("GlitchCourtLaw", "size", "I", false)
  | 2 => ("GlitchCourtLaw", "horizon", "I", false)
  | 3 => ("GlitchCourtLaw", "inputs", "I", false)
  | 4 => ("GlitchCourtLaw", "gates", "I", false)
  | 5 => ("GlitchCourtLaw", "rate", "I", false)
  | _ => ("GlitchCourtLaw", "fee", "I", false)
def tyXL : Nat → FieldType := fun k => match k with
  | 0 => .array .int
  | 1 => .int
  | 2 => .int
  | 3 => .int
  | 4 => .int
  | 5 => .int
  | _ => .int
theorem nmXL : ∀ a, a < 7 → ∀ b, b < 7 → a ≠ b → (TXL a).2.1 ≠ (TXL b).2.1 := by decide +kernel
theorem tyXL_ok : ∀ k, k < 7 → parseFieldDescriptor (TXL k).2.2.1 = some (tyXL k) := by decide +kernel
def RL : String := "GlitchCourtLaw"
