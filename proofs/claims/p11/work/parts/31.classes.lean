def RX0 : String := "EarCode$Inquiry"
def TX0 : u_T := fun k => match k with
  | 0 => ("EarCode$Inquiry", "law", "LEarCode$Law;", true)
  | 1 => ("EarCode$Inquiry", "world", "LEarCode$World;", true)
  | _ => ("EarCode$Inquiry", "others", "[I", true)
def tyX0 : Nat → FieldType := fun k => match k with
  | 0 => .object "EarCode$Law"
  | 1 => .object "EarCode$World"
  | _ => .array .int
theorem nmX0 : ∀ a, a < 3 → ∀ b, b < 3 → a ≠ b → (TX0 a).2.1 ≠ (TX0 b).2.1 := by decide +kernel
theorem tyX0_ok : ∀ k, k < 3 → parseFieldDescriptor (TX0 k).2.2.1 = some (tyX0 k) := by decide +kernel
def RX1 : String := "EarCode$Law"
def TX1 : u_T := fun k => match k with
  | 0 => ("EarCode$Law", "told", "Z", false)
  | 1 => ("EarCode$Law", "clauses", "I", false)
  | 2 => ("EarCode$Law", "always", "I", false)
  | 3 => ("EarCode$Law", "deeds", "[I", true)
  | 4 => ("EarCode$Law", "ends", "[I", true)
  | 5 => ("EarCode$Law", "steps", "[I", true)
  | 6 => ("EarCode$Law", "stepsSize", "I", false)
  | 7 => ("EarCode$Law", "terms", "[I", true)
  | _ => ("EarCode$Law", "termsSize", "I", false)
def tyX1 : Nat → FieldType := fun k => match k with
  | 0 => .boolean
  | 1 => .int
  | 2 => .int
  | 3 => .array .int
  | 4 => .array .int
  | 5 => .array .int
  | 6 => .int
  | 7 => .array .int
  | _ => .int
theorem nmX1 : ∀ a, a < 9 → ∀ b, b < 9 → a ≠ b → (TX1 a).2.1 ≠ (TX1 b).2.1 := by decide +kernel
theorem tyX1_ok : ∀ k, k < 9 → parseFieldDescriptor (TX1 k).2.2.1 = some (tyX1 k) := by decide +kernel
def RX2 : String := "EarCode$LawReader"
def TX2 : u_T := fun k => match k with
  | 0 => ("EarCode$LawReader", "text", "LEarCode$Text;", true)
  | _ => ("EarCode$LawReader", "law", "LEarCode$Law;", true)
def tyX2 : Nat → FieldType := fun k => match k with
  | 0 => .object "EarCode$Text"
  | _ => .object "EarCode$Law"
theorem nmX2 : ∀ a, a < 2 → ∀ b, b < 2 → a ≠ b → (TX2 a).2.1 ≠ (TX2 b).2.1 := by decide +kernel
theorem tyX2_ok : ∀ k, k < 2 → parseFieldDescriptor (TX2 k).2.2.1 = some (tyX2 k) := by decide +kernel
def RX3 : String := "EarCode$Log"
def TX3 : u_T := fun k => match k with
  | 0 => ("EarCode$Log", "rows", "[I", true)
  | 1 => ("EarCode$Log", "size", "I", false)
  | _ => ("EarCode$Log", "end", "I", false)
def tyX3 : Nat → FieldType := fun k => match k with
  | 0 => .array .int
  | 1 => .int
  | _ => .int
theorem nmX3 : ∀ a, a < 3 → ∀ b, b < 3 → a ≠ b → (TX3 a).2.1 ≠ (TX3 b).2.1 := by decide +kernel
theorem tyX3_ok : ∀ k, k < 3 → parseFieldDescriptor (TX3 k).2.2.1 = some (tyX3 k) := by decide +kernel
def RX4 : String := "EarCode$Memory"
def TX4 : u_T := fun k => match k with
  | 0 => ("EarCode$Memory", "worlds", "[LEarCode$World;", true)
  | 1 => ("EarCode$Memory", "end", "I", false)
  | _ => ("EarCode$Memory", "size", "I", false)
def tyX4 : Nat → FieldType := fun k => match k with
  | 0 => .array (.object "EarCode$World")
  | 1 => .int
  | _ => .int
theorem nmX4 : ∀ a, a < 3 → ∀ b, b < 3 → a ≠ b → (TX4 a).2.1 ≠ (TX4 b).2.1 := by decide +kernel
theorem tyX4_ok : ∀ k, k < 3 → parseFieldDescriptor (TX4 k).2.2.1 = some (tyX4 k) := by decide +kernel
def RX5 : String := "EarCode$Outlook"
def TX5 : u_T := fun k => match k with
  | 0 => ("EarCode$Outlook", "law", "LEarCode$Law;", true)
  | 1 => ("EarCode$Outlook", "world", "LEarCode$World;", true)
  | 2 => ("EarCode$Outlook", "forbidding", "[I", true)
  | 3 => ("EarCode$Outlook", "bestPair", "I", false)
  | _ => ("EarCode$Outlook", "bestLess", "I", false)
def tyX5 : Nat → FieldType := fun k => match k with
  | 0 => .object "EarCode$Law"
  | 1 => .object "EarCode$World"
  | 2 => .array .int
  | 3 => .int
  | _ => .int
theorem nmX5 : ∀ a, a < 5 → ∀ b, b < 5 → a ≠ b → (TX5 a).2.1 ≠ (TX5 b).2.1 := by decide +kernel
theorem tyX5_ok : ∀ k, k < 5 → parseFieldDescriptor (TX5 k).2.2.1 = some (tyX5 k) := by decide +kernel
def RX6 : String := "EarCode$Reading"
def TX6 : u_T := fun k => match k with
  | 0 => ("EarCode$Reading", "law", "LEarCode$Law;", true)
  | 1 => ("EarCode$Reading", "world", "LEarCode$World;", true)
  | 2 => ("EarCode$Reading", "needs", "[I", true)
  | 3 => ("EarCode$Reading", "needed", "I", false)
  | 4 => ("EarCode$Reading", "barred", "I", false)
  | 5 => ("EarCode$Reading", "marks", "[I", true)
  | 6 => ("EarCode$Reading", "codes", "I", false)
  | 7 => ("EarCode$Reading", "sure", "I", false)
  | _ => ("EarCode$Reading", "possible", "I", false)
def tyX6 : Nat → FieldType := fun k => match k with
  | 0 => .object "EarCode$Law"
  | 1 => .object "EarCode$World"
  | 2 => .array .int
  | 3 => .int
  | 4 => .int
  | 5 => .array .int
  | 6 => .int
  | 7 => .int
  | _ => .int
theorem nmX6 : ∀ a, a < 9 → ∀ b, b < 9 → a ≠ b → (TX6 a).2.1 ≠ (TX6 b).2.1 := by decide +kernel
theorem tyX6_ok : ∀ k, k < 9 → parseFieldDescriptor (TX6 k).2.2.1 = some (tyX6 k) := by decide +kernel
def RX7 : String := "EarCode$RepublicReader"
def TX7 : u_T := fun k => match k with
  | 0 => ("EarCode$RepublicReader", "text", "LEarCode$Text;", true)
  | 1 => ("EarCode$RepublicReader", "law", "LEarCode$Law;", true)
  | _ => ("EarCode$RepublicReader", "world", "LEarCode$World;", true)
def tyX7 : Nat → FieldType := fun k => match k with
  | 0 => .object "EarCode$Text"
  | 1 => .object "EarCode$Law"
  | _ => .object "EarCode$World"
theorem nmX7 : ∀ a, a < 3 → ∀ b, b < 3 → a ≠ b → (TX7 a).2.1 ≠ (TX7 b).2.1 := by decide +kernel
theorem tyX7_ok : ∀ k, k < 3 → parseFieldDescriptor (TX7 k).2.2.1 = some (tyX7 k) := by decide +kernel
def RX8 : String := "EarCode$Tape"
def TX8 : u_T := fun k => match k with
  | 0 => ("EarCode$Tape", "bytes", "[I", true)
  | _ => ("EarCode$Tape", "size", "I", false)
def tyX8 : Nat → FieldType := fun k => match k with
  | 0 => .array .int
  | _ => .int
theorem nmX8 : ∀ a, a < 2 → ∀ b, b < 2 → a ≠ b → (TX8 a).2.1 ≠ (TX8 b).2.1 := by decide +kernel
theorem tyX8_ok : ∀ k, k < 2 → parseFieldDescriptor (TX8 k).2.2.1 = some (tyX8 k) := by decide +kernel
def RX9 : String := "EarCode$Text"
def TX9 : u_T := fun k => match k with
  | 0 => ("EarCode$Text", "kinds", "[I", true)
  | 1 => ("EarCode$Text", "begins", "[I", true)
  | 2 => ("EarCode$Text", "sizes", "[I", true)
  | 3 => ("EarCode$Text", "values", "[I", true)
  | 4 => ("EarCode$Text", "things", "I", false)
  | _ => ("EarCode$Text", "at", "I", false)
def tyX9 : Nat → FieldType := fun k => match k with
  | 0 => .array .int
  | 1 => .array .int
  | 2 => .array .int
  | 3 => .array .int
  | 4 => .int
  | _ => .int
theorem nmX9 : ∀ a, a < 6 → ∀ b, b < 6 → a ≠ b → (TX9 a).2.1 ≠ (TX9 b).2.1 := by decide +kernel
theorem tyX9_ok : ∀ k, k < 6 → parseFieldDescriptor (TX9 k).2.2.1 = some (tyX9 k) := by decide +kernel
def RX10 : String := "EarCode$World"
def TX10 : u_T := fun k => match k with
  | 0 => ("EarCode$World", "citizens", "I", false)
  | 1 => ("EarCode$World", "living", "I", false)
  | 2 => ("EarCode$World", "knows", "[I", true)
  | 3 => ("EarCode$World", "fear", "[I", true)
  | 4 => ("EarCode$World", "taken", "[I", true)
  | 5 => ("EarCode$World", "spouse", "[I", true)
  | 6 => ("EarCode$World", "habits", "[I", true)
  | 7 => ("EarCode$World", "habitSize", "[I", true)
  | 8 => ("EarCode$World", "habitNext", "[I", true)
  | 9 => ("EarCode$World", "seen", "[J", true)
  | 10 => ("EarCode$World", "harm", "[I", true)
  | 11 => ("EarCode$World", "watch", "I", false)
  | 12 => ("EarCode$World", "term", "I", false)
  | 13 => ("EarCode$World", "day", "I", false)
  | 14 => ("EarCode$World", "seed", "I", false)
  | 15 => ("EarCode$World", "texts", "I", false)
  | 16 => ("EarCode$World", "arrests", "I", false)
  | 17 => ("EarCode$World", "harmDone", "I", false)
  | 18 => ("EarCode$World", "kept", "I", false)
  | _ => ("EarCode$World", "log", "LEarCode$Log;", true)
def tyX10 : Nat → FieldType := fun k => match k with
  | 0 => .int
  | 1 => .int
  | 2 => .array .int
  | 3 => .array .int
  | 4 => .array .int
  | 5 => .array .int
  | 6 => .array .int
  | 7 => .array .int
  | 8 => .array .int
  | 9 => .array .long
  | 10 => .array .int
  | 11 => .int
  | 12 => .int
  | 13 => .int
  | 14 => .int
  | 15 => .int
  | 16 => .int
  | 17 => .int
  | 18 => .int
  | _ => .object "EarCode$Log"
theorem nmX10 : ∀ a, a < 20 → ∀ b, b < 20 → a ≠ b → (TX10 a).2.1 ≠ (TX10 b).2.1 := by decide +kernel
theorem tyX10_ok : ∀ k, k < 20 → parseFieldDescriptor (TX10 k).2.2.1 = some (tyX10 k) := by decide +kernel
def RX11 : String := "EarCode"
def TX11 : u_T := fun k => match k with
  | 0 => ("EarCode", "tape", "LEarCode$Tape;", true)
  | 1 => ("EarCode", "text", "LEarCode$Text;", true)
  | 2 => ("EarCode", "law", "LEarCode$Law;", true)
  | 3 => ("EarCode", "newLaw", "LEarCode$Law;", true)
  | 4 => ("EarCode", "world", "LEarCode$World;", true)
  | 5 => ("EarCode", "tryout", "LEarCode$World;", true)
  | 6 => ("EarCode", "lawReader", "LEarCode$LawReader;", true)
  | 7 => ("EarCode", "republicReader", "LEarCode$RepublicReader;", true)
  | 8 => ("EarCode", "memory", "LEarCode$Memory;", true)
  | 9 => ("EarCode", "reading", "LEarCode$Reading;", true)
  | 10 => ("EarCode", "outlook", "LEarCode$Outlook;", true)
  | 11 => ("EarCode", "inquiry", "LEarCode$Inquiry;", true)
  | 12 => ("EarCode", "imageLaw", "LEarCode$Law;", true)
  | 13 => ("EarCode", "imageWorld", "LEarCode$World;", true)
  | 14 => ("EarCode", "imaged", "Z", false)
  | _ => ("EarCode", "faultAt", "I", false)
def tyX11 : Nat → FieldType := fun k => match k with
  | 0 => .object "EarCode$Tape"
  | 1 => .object "EarCode$Text"
  | 2 => .object "EarCode$Law"
  | 3 => .object "EarCode$Law"
  | 4 => .object "EarCode$World"
  | 5 => .object "EarCode$World"
  | 6 => .object "EarCode$LawReader"
  | 7 => .object "EarCode$RepublicReader"
  | 8 => .object "EarCode$Memory"
  | 9 => .object "EarCode$Reading"
  | 10 => .object "EarCode$Outlook"
  | 11 => .object "EarCode$Inquiry"
  | 12 => .object "EarCode$Law"
  | 13 => .object "EarCode$World"
  | 14 => .boolean
  | _ => .int
theorem nmX11 : ∀ a, a < 16 → ∀ b, b < 16 → a ≠ b → (TX11 a).2.1 ≠ (TX11 b).2.1 := by decide +kernel
theorem tyX11_ok : ∀ k, k < 16 → parseFieldDescriptor (TX11 k).2.2.1 = some (tyX11 k) := by decide +kernel
def RX12 : String := "EarCodeModel"
def TX12 : u_T := fun k => match k with
  | 0 => ("EarCodeModel", "thrown", "I", false)
  | 1 => ("EarCodeModel", "world", "[I", true)
  | 2 => ("EarCodeModel", "image", "[I", true)
  | 3 => ("EarCodeModel", "before", "[I", true)
  | 4 => ("EarCodeModel", "trial", "[I", true)
  | 5 => ("EarCodeModel", "acts", "[I", true)
  | 6 => ("EarCodeModel", "seen", "[J", true)
  | 7 => ("EarCodeModel", "imageSeen", "[J", true)
  | 8 => ("EarCodeModel", "beforeSeen", "[J", true)
  | 9 => ("EarCodeModel", "trialSeen", "[J", true)
  | 10 => ("EarCodeModel", "actsSeen", "[J", true)
  | 11 => ("EarCodeModel", "hasImage", "Z", false)
  | 12 => ("EarCodeModel", "remembered", "I", false)
  | 13 => ("EarCodeModel", "clauses", "[I", true)
  | 14 => ("EarCodeModel", "told", "[I", true)
  | 15 => ("EarCodeModel", "clauseCount", "I", false)
  | 16 => ("EarCodeModel", "imageCount", "I", false)
  | 17 => ("EarCodeModel", "tape", "[B", true)
  | 18 => ("EarCodeModel", "taped", "I", false)
  | 19 => ("EarCodeModel", "point", "I", false)
  | 20 => ("EarCodeModel", "end", "I", false)
  | 21 => ("EarCodeModel", "begin", "I", false)
  | 22 => ("EarCodeModel", "deep", "I", false)
  | 23 => ("EarCodeModel", "faultAt", "I", false)
  | 24 => ("EarCodeModel", "five", "[I", true)
  | 25 => ("EarCodeModel", "steps", "I", false)
  | 26 => ("EarCodeModel", "hadClauses", "[I", true)
  | 27 => ("EarCodeModel", "hadTold", "[I", true)
  | 28 => ("EarCodeModel", "value", "[I", true)
  | 29 => ("EarCodeModel", "free", "I", false)
  | 30 => ("EarCodeModel", "done", "I", false)
  | 31 => ("EarCodeModel", "against", "[I", true)
  | 32 => ("EarCodeModel", "byWhom", "[I", true)
  | 33 => ("EarCodeModel", "codesBy", "[I", true)
  | 34 => ("EarCodeModel", "forbids", "[I", true)
  | 35 => ("EarCodeModel", "usuals", "[I", true)
  | 36 => ("EarCodeModel", "fears", "[J", true)
  | _ => ("EarCodeModel", "fearsThen", "[J", true)
def tyX12 : Nat → FieldType := fun k => match k with
  | 0 => .int
  | 1 => .array .int
  | 2 => .array .int
  | 3 => .array .int
  | 4 => .array .int
  | 5 => .array .int
  | 6 => .array .long
  | 7 => .array .long
  | 8 => .array .long
  | 9 => .array .long
  | 10 => .array .long
  | 11 => .boolean
  | 12 => .int
  | 13 => .array .int
  | 14 => .array .int
  | 15 => .int
  | 16 => .int
  | 17 => .array .byte
  | 18 => .int
  | 19 => .int
  | 20 => .int
  | 21 => .int
  | 22 => .int
  | 23 => .int
  | 24 => .array .int
  | 25 => .int
  | 26 => .array .int
  | 27 => .array .int
  | 28 => .array .int
  | 29 => .int
  | 30 => .int
  | 31 => .array .int
  | 32 => .array .int
  | 33 => .array .int
  | 34 => .array .int
  | 35 => .array .int
  | 36 => .array .long
  | _ => .array .long
theorem nmX12 : ∀ a, a < 38 → ∀ b, b < 38 → a ≠ b → (TX12 a).2.1 ≠ (TX12 b).2.1 := by decide +kernel
theorem tyX12_ok : ∀ k, k < 38 → parseFieldDescriptor (TX12 k).2.2.1 = some (tyX12 k) := by decide +kernel
def tb_cl : List vw_C := [(RX0, TX0, 3), (RX1, TX1, 9), (RX2, TX2, 2), (RX3, TX3, 3), (RX4, TX4, 3), (RX5, TX5, 5), (RX6, TX6, 9), (RX7, TX7, 3), (RX8, TX8, 2), (RX9, TX9, 6), (RX10, TX10, 20), (RX11, TX11, 16), (RX12, TX12, 38)]
/-- the kinds of the fields -/
def tb_ft : List (List Nat) := [[3, 3, 3], [2, 0, 0, 3, 3, 3, 0, 3, 0], [3, 3], [3, 0, 0], [3, 0, 0], [3, 3, 3, 0, 0], [3, 3, 3, 0, 0, 3, 0, 0, 0], [3, 3, 3], [3, 0], [3, 3, 3, 3, 0, 0], [0, 0, 3, 3, 3, 3, 3, 3, 3, 3, 3, 0, 0, 0, 0, 0, 0, 0, 0, 3], [3, 3, 3, 3, 3, 3, 3, 3, 3, 3, 3, 3, 3, 3, 2, 0], [0, 3, 3, 3, 3, 3, 3, 3, 3, 3, 3, 2, 0, 3, 3, 0, 0, 3, 0, 0, 0, 0, 0, 0, 3, 0, 3, 3, 3, 0, 0, 3, 3, 3, 3, 3, 3, 3]]
