def nC0 : String := "SoundPaid$Bench"
def fC0 : u_T := fun k => match k with
  | 0 => ("SoundPaid$Bench", "gains", "[I", true)
  | 1 => ("SoundPaid$Bench", "twos", "[I", true)
  | _ => ("SoundPaid$Bench", "size", "I", false)
def tC0 : Nat → FieldType := fun k => match k with
  | 0 => .array .int
  | 1 => .array .int
  | _ => .int
theorem pC0 : ∀ k, k < 3 → parseFieldDescriptor (fC0 k).2.2.1 = some (tC0 k) := by decide +kernel
theorem dC0 : ∀ a, a < 3 → ∀ b, b < 3 → a ≠ b → (fC0 a).2.1 ≠ (fC0 b).2.1 := by decide +kernel
theorem uC0 : ∀ x ∈ u_ws nC0 fC0 3, x ∈ tbl := by decide +kernel
def nC1 : String := "SoundPaid$Debts"
def fC1 : u_T := fun k => match k with
  | 0 => ("SoundPaid$Debts", "street", "LSoundPaid$Street;", true)
  | 1 => ("SoundPaid$Debts", "docket", "LSoundPaid$Docket;", true)
  | 2 => ("SoundPaid$Debts", "balances", "[I", true)
  | 3 => ("SoundPaid$Debts", "dues", "[I", true)
  | 4 => ("SoundPaid$Debts", "owing", "[I", true)
  | 5 => ("SoundPaid$Debts", "sums", "[I", true)
  | _ => ("SoundPaid$Debts", "parts", "[I", true)
def tC1 : Nat → FieldType := fun k => match k with
  | 0 => .object "SoundPaid$Street"
  | 1 => .object "SoundPaid$Docket"
  | 2 => .array .int
  | 3 => .array .int
  | 4 => .array .int
  | 5 => .array .int
  | _ => .array .int
theorem pC1 : ∀ k, k < 7 → parseFieldDescriptor (fC1 k).2.2.1 = some (tC1 k) := by decide +kernel
theorem dC1 : ∀ a, a < 7 → ∀ b, b < 7 → a ≠ b → (fC1 a).2.1 ≠ (fC1 b).2.1 := by decide +kernel
theorem uC1 : ∀ x ∈ u_ws nC1 fC1 7, x ∈ tbl := by decide +kernel
def nC2 : String := "SoundPaid$Docket"
def fC2 : u_T := fun k => match k with
  | 0 => ("SoundPaid$Docket", "suitDay", "[I", true)
  | 1 => ("SoundPaid$Docket", "suing", "[I", true)
  | 2 => ("SoundPaid$Docket", "sued", "[I", true)
  | 3 => ("SoundPaid$Docket", "shutDay", "[I", true)
  | 4 => ("SoundPaid$Docket", "shutHouse", "[I", true)
  | 5 => ("SoundPaid$Docket", "closedDays", "[I", true)
  | 6 => ("SoundPaid$Docket", "suits", "I", false)
  | _ => ("SoundPaid$Docket", "shuts", "I", false)
def tC2 : Nat → FieldType := fun k => match k with
  | 0 => .array .int
  | 1 => .array .int
  | 2 => .array .int
  | 3 => .array .int
  | 4 => .array .int
  | 5 => .array .int
  | 6 => .int
  | _ => .int
theorem pC2 : ∀ k, k < 8 → parseFieldDescriptor (fC2 k).2.2.1 = some (tC2 k) := by decide +kernel
theorem dC2 : ∀ a, a < 8 → ∀ b, b < 8 → a ≠ b → (fC2 a).2.1 ≠ (fC2 b).2.1 := by decide +kernel
theorem uC2 : ∀ x ∈ u_ws nC2 fC2 8, x ∈ tbl := by decide +kernel
def nC3 : String := "SoundPaid$Memory"
def fC3 : u_T := fun k => match k with
  | 0 => ("SoundPaid$Memory", "days", "[I", true)
  | 1 => ("SoundPaid$Memory", "houses", "[I", true)
  | 2 => ("SoundPaid$Memory", "amounts", "[I", true)
  | _ => ("SoundPaid$Memory", "size", "I", false)
def tC3 : Nat → FieldType := fun k => match k with
  | 0 => .array .int
  | 1 => .array .int
  | 2 => .array .int
  | _ => .int
theorem pC3 : ∀ k, k < 4 → parseFieldDescriptor (fC3 k).2.2.1 = some (tC3 k) := by decide +kernel
theorem dC3 : ∀ a, a < 4 → ∀ b, b < 4 → a ≠ b → (fC3 a).2.1 ≠ (fC3 b).2.1 := by decide +kernel
theorem uC3 : ∀ x ∈ u_ws nC3 fC3 4, x ∈ tbl := by decide +kernel
def nC4 : String := "SoundPaid$Sheet"
def fC4 : u_T := fun k => match k with
  | 0 => ("SoundPaid$Sheet", "items", "[I", true)
  | 1 => ("SoundPaid$Sheet", "form", "I", false)
  | _ => ("SoundPaid$Sheet", "size", "I", false)
def tC4 : Nat → FieldType := fun k => match k with
  | 0 => .array .int
  | 1 => .int
  | _ => .int
theorem pC4 : ∀ k, k < 3 → parseFieldDescriptor (fC4 k).2.2.1 = some (tC4 k) := by decide +kernel
theorem dC4 : ∀ a, a < 3 → ∀ b, b < 3 → a ≠ b → (fC4 a).2.1 ≠ (fC4 b).2.1 := by decide +kernel
theorem uC4 : ∀ x ∈ u_ws nC4 fC4 3, x ∈ tbl := by decide +kernel
def nC5 : String := "SoundPaid$Street"
def fC5 : u_T := fun k => match k with
  | 0 => ("SoundPaid$Street", "leaks", "[I", true)
  | 1 => ("SoundPaid$Street", "much", "[I", true)
  | 2 => ("SoundPaid$Street", "enjoys", "[I", true)
  | 3 => ("SoundPaid$Street", "coins", "[I", true)
  | 4 => ("SoundPaid$Street", "rates", "[I", true)
  | 5 => ("SoundPaid$Street", "thick", "[I", true)
  | 6 => ("SoundPaid$Street", "houses", "I", false)
  | _ => ("SoundPaid$Street", "rulings", "I", false)
def tC5 : Nat → FieldType := fun k => match k with
  | 0 => .array .int
  | 1 => .array .int
  | 2 => .array .int
  | 3 => .array .int
  | 4 => .array .int
  | 5 => .array .int
  | 6 => .int
  | _ => .int
theorem pC5 : ∀ k, k < 8 → parseFieldDescriptor (fC5 k).2.2.1 = some (tC5 k) := by decide +kernel
theorem dC5 : ∀ a, a < 8 → ∀ b, b < 8 → a ≠ b → (fC5 a).2.1 ≠ (fC5 b).2.1 := by decide +kernel
theorem uC5 : ∀ x ∈ u_ws nC5 fC5 8, x ∈ tbl := by decide +kernel
def nC6 : String := "SoundPaid$Text"
def fC6 : u_T := fun k => match k with
  | 0 => ("SoundPaid$Text", "bytes", "[I", true)
  | 1 => ("SoundPaid$Text", "period", "I", true)
  | 2 => ("SoundPaid$Text", "kinds", "Ljava/lang/String;", true)
  | _ => ("SoundPaid$Text", "size", "I", false)
def tC6 : Nat → FieldType := fun k => match k with
  | 0 => .array .int
  | 1 => .int
  | 2 => .object "java/lang/String"
  | _ => .int
theorem pC6 : ∀ k, k < 4 → parseFieldDescriptor (fC6 k).2.2.1 = some (tC6 k) := by decide +kernel
theorem dC6 : ∀ a, a < 4 → ∀ b, b < 4 → a ≠ b → (fC6 a).2.1 ≠ (fC6 b).2.1 := by decide +kernel
theorem uC6 : ∀ x ∈ u_ws nC6 fC6 4, x ∈ tbl := by decide +kernel
def nC7 : String := "SoundPaid"
def fC7 : u_T := fun k => match k with
  | 0 => ("SoundPaid", "houseText", "LSoundPaid$Text;", true)
  | 1 => ("SoundPaid", "rulingText", "LSoundPaid$Text;", true)
  | 2 => ("SoundPaid", "debts", "LSoundPaid$Debts;", true)
  | 3 => ("SoundPaid", "street", "LSoundPaid$Street;", true)
  | 4 => ("SoundPaid", "docket", "LSoundPaid$Docket;", true)
  | 5 => ("SoundPaid", "memory", "LSoundPaid$Memory;", true)
  | 6 => ("SoundPaid", "bench", "LSoundPaid$Bench;", true)
  | 7 => ("SoundPaid", "sheets", "[LSoundPaid$Sheet;", true)
  | 8 => ("SoundPaid", "outcomes", "[I", true)
  | _ => ("SoundPaid", "finding", "I", false)
def tC7 : Nat → FieldType := fun k => match k with
  | 0 => .object "SoundPaid$Text"
  | 1 => .object "SoundPaid$Text"
  | 2 => .object "SoundPaid$Debts"
  | 3 => .object "SoundPaid$Street"
  | 4 => .object "SoundPaid$Docket"
  | 5 => .object "SoundPaid$Memory"
  | 6 => .object "SoundPaid$Bench"
  | 7 => .array (.object "SoundPaid$Sheet")
  | 8 => .array .int
  | _ => .int
theorem pC7 : ∀ k, k < 10 → parseFieldDescriptor (fC7 k).2.2.1 = some (tC7 k) := by decide +kernel
theorem dC7 : ∀ a, a < 10 → ∀ b, b < 10 → a ≠ b → (fC7 a).2.1 ≠ (fC7 b).2.1 := by decide +kernel
theorem uC7 : ∀ x ∈ u_ws nC7 fC7 10, x ∈ tbl := by decide +kernel
def nC8 : String := "SoundPaidModel"
def fC8 : u_T := fun k => match k with
  | 0 => ("SoundPaidModel", "typed", "[I", true)
  | 1 => ("SoundPaidModel", "texts", "[I", true)
  | 2 => ("SoundPaidModel", "houses", "I", false)
  | 3 => ("SoundPaidModel", "kinds", "[I", true)
  | 4 => ("SoundPaidModel", "leaks", "[I", true)
  | 5 => ("SoundPaidModel", "enjoys", "[I", true)
  | 6 => ("SoundPaidModel", "coins", "[I", true)
  | 7 => ("SoundPaidModel", "rulings", "I", false)
  | 8 => ("SoundPaidModel", "rates", "[I", true)
  | 9 => ("SoundPaidModel", "thick", "[I", true)
  | 10 => ("SoundPaidModel", "suits", "I", false)
  | 11 => ("SoundPaidModel", "suitDay", "[I", true)
  | 12 => ("SoundPaidModel", "suitBy", "[I", true)
  | 13 => ("SoundPaidModel", "suitAt", "[I", true)
  | 14 => ("SoundPaidModel", "shuts", "I", false)
  | 15 => ("SoundPaidModel", "shutDay", "[I", true)
  | 16 => ("SoundPaidModel", "shutHouse", "[I", true)
  | 17 => ("SoundPaidModel", "dropped", "I", false)
  | 18 => ("SoundPaidModel", "isShut", "[Z", true)
  | 19 => ("SoundPaidModel", "daily", "[I", true)
  | 20 => ("SoundPaidModel", "since", "[I", true)
  | 21 => ("SoundPaidModel", "purse", "[I", true)
  | 22 => ("SoundPaidModel", "parts", "[I", true)
  | 23 => ("SoundPaidModel", "planRow", "[I", true)
  | 24 => ("SoundPaidModel", "seens", "I", false)
  | 25 => ("SoundPaidModel", "seenDay", "[I", true)
  | 26 => ("SoundPaidModel", "seenHouse", "[I", true)
  | 27 => ("SoundPaidModel", "seenMuch", "[I", true)
  | 28 => ("SoundPaidModel", "purseWithout", "[I", true)
  | 29 => ("SoundPaidModel", "isThere", "[Z", true)
  | 30 => ("SoundPaidModel", "forms", "[I", true)
  | 31 => ("SoundPaidModel", "sizes", "[I", true)
  | 32 => ("SoundPaidModel", "items", "[I", true)
  | 33 => ("SoundPaidModel", "moved", "[I", true)
  | _ => ("SoundPaidModel", "finding", "I", false)
def tC8 : Nat → FieldType := fun k => match k with
  | 0 => .array .int
  | 1 => .array .int
  | 2 => .int
  | 3 => .array .int
  | 4 => .array .int
  | 5 => .array .int
  | 6 => .array .int
  | 7 => .int
  | 8 => .array .int
  | 9 => .array .int
  | 10 => .int
  | 11 => .array .int
  | 12 => .array .int
  | 13 => .array .int
  | 14 => .int
  | 15 => .array .int
  | 16 => .array .int
  | 17 => .int
  | 18 => .array .boolean
  | 19 => .array .int
  | 20 => .array .int
  | 21 => .array .int
  | 22 => .array .int
  | 23 => .array .int
  | 24 => .int
  | 25 => .array .int
  | 26 => .array .int
  | 27 => .array .int
  | 28 => .array .int
  | 29 => .array .boolean
  | 30 => .array .int
  | 31 => .array .int
  | 32 => .array .int
  | 33 => .array .int
  | _ => .int
theorem pC8 : ∀ k, k < 35 → parseFieldDescriptor (fC8 k).2.2.1 = some (tC8 k) := by decide +kernel
theorem dC8 : ∀ a, a < 35 → ∀ b, b < 35 → a ≠ b → (fC8 a).2.1 ≠ (fC8 b).2.1 := by decide +kernel
theorem uC8 : ∀ x ∈ u_ws nC8 fC8 35, x ∈ tbl := by decide +kernel
abbrev classes : List vw_C := [(nC0, fC0, 3), (nC1, fC1, 7), (nC2, fC2, 8), (nC3, fC3, 4), (nC4, fC4, 3), (nC5, fC5, 8), (nC6, fC6, 4), (nC7, fC7, 10), (nC8, fC8, 35)]
