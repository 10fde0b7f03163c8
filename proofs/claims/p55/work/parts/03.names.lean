def RX0 : String := "DecisionDiagrams$Diagram"
def TX0 : u_T := fun k => match k with
  | 0 => ("DecisionDiagrams$Diagram", "tables", "LDecisionDiagrams$Tables;", true)
  | 1 => ("DecisionDiagrams$Diagram", "levels", "[I", true)
  | 2 => ("DecisionDiagrams$Diagram", "low", "[I", true)
  | 3 => ("DecisionDiagrams$Diagram", "high", "[I", true)
  | 4 => ("DecisionDiagrams$Diagram", "reachedBy", "[I", true)
  | 5 => ("DecisionDiagrams$Diagram", "roots", "[I", true)
  | 6 => ("DecisionDiagrams$Diagram", "order", "[I", true)
  | 7 => ("DecisionDiagrams$Diagram", "slots", "[I", true)
  | 8 => ("DecisionDiagrams$Diagram", "met", "[I", true)
  | 9 => ("DecisionDiagrams$Diagram", "functions", "I", false)
  | 10 => ("DecisionDiagrams$Diagram", "variables", "I", false)
  | 11 => ("DecisionDiagrams$Diagram", "pairs", "I", false)
  | _ => ("DecisionDiagrams$Diagram", "nodes", "I", false)
def tyX0 : Nat → FieldType := fun k => match k with
  | 0 => .object "DecisionDiagrams$Tables"
  | 1 => .array .int
  | 2 => .array .int
  | 3 => .array .int
  | 4 => .array .int
  | 5 => .array .int
  | 6 => .array .int
  | 7 => .array .int
  | 8 => .array .int
  | 9 => .int
  | 10 => .int
  | 11 => .int
  | _ => .int
abbrev wsX00 : List Cond := u_ws RX0 TX0 13
theorem nmX0 : ∀ a, a < 13 → ∀ b, b < 13 → a ≠ b → (TX0 a).2.1 ≠ (TX0 b).2.1 := by decide +kernel
theorem tyX0_ok : ∀ k, k < 13 → parseFieldDescriptor (TX0 k).2.2.1 = some (tyX0 k) := by decide +kernel
def RX1 : String := "DecisionDiagrams$History"
def TX1 : u_T := fun k => match k with
  | 0 => ("DecisionDiagrams$History", "past", "[LDecisionDiagrams$State;", true)
  | 1 => ("DecisionDiagrams$History", "next", "I", false)
  | 2 => ("DecisionDiagrams$History", "changes", "I", false)
  | 3 => ("DecisionDiagrams$History", "saved", "[LDecisionDiagrams$State;", true)
  | _ => ("DecisionDiagrams$History", "isSaved", "[Z", true)
def tyX1 : Nat → FieldType := fun k => match k with
  | 0 => .array (.object "DecisionDiagrams$State")
  | 1 => .int
  | 2 => .int
  | 3 => .array (.object "DecisionDiagrams$State")
  | _ => .array .boolean
abbrev wsX10 : List Cond := u_ws RX1 TX1 5
theorem nmX1 : ∀ a, a < 5 → ∀ b, b < 5 → a ≠ b → (TX1 a).2.1 ≠ (TX1 b).2.1 := by decide +kernel
theorem tyX1_ok : ∀ k, k < 5 → parseFieldDescriptor (TX1 k).2.2.1 = some (tyX1 k) := by decide +kernel
def RX2 : String := "DecisionDiagrams$Input"
def TX2 : u_T := fun k => match k with
  | 0 => ("DecisionDiagrams$Input", "bytes", "[B", true)
  | _ => ("DecisionDiagrams$Input", "length", "I", false)
def tyX2 : Nat → FieldType := fun k => match k with
  | 0 => .array .byte
  | _ => .int
abbrev wsX20 : List Cond := u_ws RX2 TX2 2
theorem nmX2 : ∀ a, a < 2 → ∀ b, b < 2 → a ≠ b → (TX2 a).2.1 ≠ (TX2 b).2.1 := by decide +kernel
theorem tyX2_ok : ∀ k, k < 2 → parseFieldDescriptor (TX2 k).2.2.1 = some (tyX2 k) := by decide +kernel
def RX3 : String := "DecisionDiagrams$Reader"
def TX3 : u_T := fun k => match k with
  | 0 => ("DecisionDiagrams$Reader", "draft", "LDecisionDiagrams$State;", true)
  | 1 => ("DecisionDiagrams$Reader", "tokens", "LDecisionDiagrams$Tokens;", true)
  | 2 => ("DecisionDiagrams$Reader", "sifter", "LDecisionDiagrams$Sifter;", true)
  | 3 => ("DecisionDiagrams$Reader", "values", "LDecisionDiagrams$Tables;", true)
  | 4 => ("DecisionDiagrams$Reader", "prefixes", "[I", true)
  | 5 => ("DecisionDiagrams$Reader", "prefixCount", "I", false)
  | 6 => ("DecisionDiagrams$Reader", "code", "I", false)
  | _ => ("DecisionDiagrams$Reader", "position", "I", false)
def tyX3 : Nat → FieldType := fun k => match k with
  | 0 => .object "DecisionDiagrams$State"
  | 1 => .object "DecisionDiagrams$Tokens"
  | 2 => .object "DecisionDiagrams$Sifter"
  | 3 => .object "DecisionDiagrams$Tables"
  | 4 => .array .int
  | 5 => .int
  | 6 => .int
  | _ => .int
abbrev wsX30 : List Cond := u_ws RX3 TX3 8
theorem nmX3 : ∀ a, a < 8 → ∀ b, b < 8 → a ≠ b → (TX3 a).2.1 ≠ (TX3 b).2.1 := by decide +kernel
theorem tyX3_ok : ∀ k, k < 8 → parseFieldDescriptor (TX3 k).2.2.1 = some (tyX3 k) := by decide +kernel
def RX4 : String := "DecisionDiagrams$Sifter"
def TX4 : u_T := fun k => match k with
  | 0 => ("DecisionDiagrams$Sifter", "trial", "LDecisionDiagrams$Diagram;", true)
  | _ => ("DecisionDiagrams$Sifter", "testing", "[I", true)
def tyX4 : Nat → FieldType := fun k => match k with
  | 0 => .object "DecisionDiagrams$Diagram"
  | _ => .array .int
abbrev wsX40 : List Cond := u_ws RX4 TX4 2
theorem nmX4 : ∀ a, a < 2 → ∀ b, b < 2 → a ≠ b → (TX4 a).2.1 ≠ (TX4 b).2.1 := by decide +kernel
theorem tyX4_ok : ∀ k, k < 2 → parseFieldDescriptor (TX4 k).2.2.1 = some (tyX4 k) := by decide +kernel
def RX5 : String := "DecisionDiagrams$State"
def TX5 : u_T := fun k => match k with
  | 0 => ("DecisionDiagrams$State", "tables", "LDecisionDiagrams$Tables;", true)
  | 1 => ("DecisionDiagrams$State", "functionNames", "[J", true)
  | 2 => ("DecisionDiagrams$State", "variableNames", "[J", true)
  | 3 => ("DecisionDiagrams$State", "order", "[I", true)
  | 4 => ("DecisionDiagrams$State", "costs", "[I", true)
  | 5 => ("DecisionDiagrams$State", "percents", "[I", true)
  | 6 => ("DecisionDiagrams$State", "functions", "I", false)
  | _ => ("DecisionDiagrams$State", "variables", "I", false)
def tyX5 : Nat → FieldType := fun k => match k with
  | 0 => .object "DecisionDiagrams$Tables"
  | 1 => .array .long
  | 2 => .array .long
  | 3 => .array .int
  | 4 => .array .int
  | 5 => .array .int
  | 6 => .int
  | _ => .int
abbrev wsX50 : List Cond := u_ws RX5 TX5 8
theorem nmX5 : ∀ a, a < 8 → ∀ b, b < 8 → a ≠ b → (TX5 a).2.1 ≠ (TX5 b).2.1 := by decide +kernel
theorem tyX5_ok : ∀ k, k < 8 → parseFieldDescriptor (TX5 k).2.2.1 = some (tyX5 k) := by decide +kernel
def RX6 : String := "DecisionDiagrams$Tables"
def TX6 : u_T := fun k => match k with
  | 0 => ("DecisionDiagrams$Tables", "bits", "[J", true)
  | _ => ("DecisionDiagrams$Tables", "words", "I", false)
def tyX6 : Nat → FieldType := fun k => match k with
  | 0 => .array .long
  | _ => .int
abbrev wsX60 : List Cond := u_ws RX6 TX6 2
theorem nmX6 : ∀ a, a < 2 → ∀ b, b < 2 → a ≠ b → (TX6 a).2.1 ≠ (TX6 b).2.1 := by decide +kernel
theorem tyX6_ok : ∀ k, k < 2 → parseFieldDescriptor (TX6 k).2.2.1 = some (tyX6 k) := by decide +kernel
def RX7 : String := "DecisionDiagrams$Tokens"
def TX7 : u_T := fun k => match k with
  | 0 => ("DecisionDiagrams$Tokens", "bytes", "[B", false)
  | 1 => ("DecisionDiagrams$Tokens", "length", "I", false)
  | 2 => ("DecisionDiagrams$Tokens", "end", "I", false)
  | 3 => ("DecisionDiagrams$Tokens", "kind", "I", false)
  | 4 => ("DecisionDiagrams$Tokens", "start", "I", false)
  | 5 => ("DecisionDiagrams$Tokens", "number", "I", false)
  | 6 => ("DecisionDiagrams$Tokens", "sign", "I", false)
  | _ => ("DecisionDiagrams$Tokens", "word", "J", false)
def tyX7 : Nat → FieldType := fun k => match k with
  | 0 => .array .byte
  | 1 => .int
  | 2 => .int
  | 3 => .int
  | 4 => .int
  | 5 => .int
  | 6 => .int
  | _ => .long
abbrev wsX70 : List Cond := u_ws RX7 TX7 8
theorem nmX7 : ∀ a, a < 8 → ∀ b, b < 8 → a ≠ b → (TX7 a).2.1 ≠ (TX7 b).2.1 := by decide +kernel
theorem tyX7_ok : ∀ k, k < 8 → parseFieldDescriptor (TX7 k).2.2.1 = some (tyX7 k) := by decide +kernel
def RX8 : String := "DecisionDiagrams$Written"
def TX8 : u_T := fun k => match k with
  | 0 => ("DecisionDiagrams$Written", "bytes", "[B", true)
  | _ => ("DecisionDiagrams$Written", "length", "I", false)
def tyX8 : Nat → FieldType := fun k => match k with
  | 0 => .array .byte
  | _ => .int
abbrev wsX80 : List Cond := u_ws RX8 TX8 2
theorem nmX8 : ∀ a, a < 2 → ∀ b, b < 2 → a ≠ b → (TX8 a).2.1 ≠ (TX8 b).2.1 := by decide +kernel
theorem tyX8_ok : ∀ k, k < 2 → parseFieldDescriptor (TX8 k).2.2.1 = some (tyX8 k) := by decide +kernel
def RX9 : String := "DecisionDiagrams"
def TX9 : u_T := fun k => match k with
  | 0 => ("DecisionDiagrams", "input", "LDecisionDiagrams$Input;", true)
  | 1 => ("DecisionDiagrams", "reader", "LDecisionDiagrams$Reader;", true)
  | 2 => ("DecisionDiagrams", "state", "LDecisionDiagrams$State;", true)
  | 3 => ("DecisionDiagrams", "history", "LDecisionDiagrams$History;", true)
  | 4 => ("DecisionDiagrams", "diagram", "LDecisionDiagrams$Diagram;", true)
  | 5 => ("DecisionDiagrams", "sifter", "LDecisionDiagrams$Sifter;", true)
  | 6 => ("DecisionDiagrams", "written", "LDecisionDiagrams$Written;", true)
  | _ => ("DecisionDiagrams", "drawn", "Z", false)
def tyX9 : Nat → FieldType := fun k => match k with
  | 0 => .object "DecisionDiagrams$Input"
  | 1 => .object "DecisionDiagrams$Reader"
  | 2 => .object "DecisionDiagrams$State"
  | 3 => .object "DecisionDiagrams$History"
  | 4 => .object "DecisionDiagrams$Diagram"
  | 5 => .object "DecisionDiagrams$Sifter"
  | 6 => .object "DecisionDiagrams$Written"
  | _ => .boolean
abbrev wsX90 : List Cond := u_ws RX9 TX9 8
theorem nmX9 : ∀ a, a < 8 → ∀ b, b < 8 → a ≠ b → (TX9 a).2.1 ≠ (TX9 b).2.1 := by decide +kernel
theorem tyX9_ok : ∀ k, k < 8 → parseFieldDescriptor (TX9 k).2.2.1 = some (tyX9 k) := by decide +kernel
def RX10 : String := "DecisionDiagramsLaw$Truth"
def TX10 : u_T := fun k => match k with
  | 0 => ("DecisionDiagramsLaw$Truth", "n", "I", true)
  | 1 => ("DecisionDiagramsLaw$Truth", "all", "J", true)
  | 2 => ("DecisionDiagramsLaw$Truth", "now", "[J", false)
  | 3 => ("DecisionDiagramsLaw$Truth", "many", "I", false)
  | 4 => ("DecisionDiagramsLaw$Truth", "kept", "[J", true)
  | 5 => ("DecisionDiagramsLaw$Truth", "keptMany", "[I", true)
  | _ => ("DecisionDiagramsLaw$Truth", "changes", "I", false)
def tyX10 : Nat → FieldType := fun k => match k with
  | 0 => .int
  | 1 => .long
  | 2 => .array .long
  | 3 => .int
  | 4 => .array .long
  | 5 => .array .int
  | _ => .int
abbrev wsX100 : List Cond := u_ws RX10 TX10 7
theorem nmX10 : ∀ a, a < 7 → ∀ b, b < 7 → a ≠ b → (TX10 a).2.1 ≠ (TX10 b).2.1 := by decide +kernel
theorem tyX10_ok : ∀ k, k < 7 → parseFieldDescriptor (TX10 k).2.2.1 = some (tyX10 k) := by decide +kernel
def RJ0 : String := "java/lang/String"
def TJ0 : u_T := fun k => match k with
  | 0 => ("java/lang/String", "value", "[B", true)
  | 1 => ("java/lang/String", "coder", "B", true)
  | 2 => ("java/lang/String", "hash", "I", false)
  | _ => ("java/lang/String", "hashIsZero", "Z", false)
def tyJ0 : Nat → FieldType := fun k => match k with
  | 0 => .array .byte
  | 1 => .byte
  | 2 => .int
  | _ => .boolean
abbrev wsJ00 : List Cond := u_ws RJ0 TJ0 4
theorem nmJ0 : ∀ a, a < 4 → ∀ b, b < 4 → a ≠ b → (TJ0 a).2.1 ≠ (TJ0 b).2.1 := by decide +kernel
theorem tyJ0_ok : ∀ k, k < 4 → parseFieldDescriptor (TJ0 k).2.2.1 = some (tyJ0 k) := by decide +kernel
def RJ4 : String := "java/lang/StringBuilder"
def TJ4 : u_T := fun k => match k with
  | 0 => ("java/lang/AbstractStringBuilder", "value", "[B", false)
  | 1 => ("java/lang/AbstractStringBuilder", "coder", "B", false)
  | 2 => ("java/lang/AbstractStringBuilder", "maybeLatin1", "Z", false)
  | _ => ("java/lang/AbstractStringBuilder", "count", "I", false)
def tyJ4 : Nat → FieldType := fun k => match k with
  | 0 => .array .byte
  | 1 => .byte
  | 2 => .boolean
  | _ => .int
abbrev wsJ40 : List Cond := u_ws RJ4 TJ4 4
theorem nmJ4 : ∀ a, a < 4 → ∀ b, b < 4 → a ≠ b → (TJ4 a).2.1 ≠ (TJ4 b).2.1 := by decide +kernel
theorem tyJ4_ok : ∀ k, k < 4 → parseFieldDescriptor (TJ4 k).2.2.1 = some (tyJ4 k) := by decide +kernel
def RJ5 : String := "java/lang/AbstractStringBuilder"
abbrev vwCl : List vw_C := [(RX0, TX0, 13), (RX1, TX1, 5), (RX2, TX2, 2), (RX3, TX3, 8), (RX4, TX4, 2), (RX5, TX5, 8), (RX6, TX6, 2), (RX7, TX7, 8), (RX8, TX8, 2), (RX9, TX9, 8), (RX10, TX10, 7), (RJ0, TJ0, 4), (RJ4, TJ4, 4)]
