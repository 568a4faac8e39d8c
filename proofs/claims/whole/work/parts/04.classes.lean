/-! ===== the classes whose objects are made, and the relation between the two heaps ===== -/
def RX1 : String := "KeptAnswers$Condition"
def TX1 : u_T := fun k => match k with
  | 0 => ("KeptAnswers$Condition", "tape", "LKeptAnswers$Tape;", true)
  | 1 => ("KeptAnswers$Condition", "parts", "[[I", true)
  | 2 => ("KeptAnswers$Condition", "bases", "[[I", true)
  | 3 => ("KeptAnswers$Condition", "choices", "[[I", true)
  | 4 => ("KeptAnswers$Condition", "signs", "[I", true)
  | 5 => ("KeptAnswers$Condition", "signCount", "I", false)
  | _ => ("KeptAnswers$Condition", "signsBegin", "I", false)
def tyX1 : Nat → FieldType := fun k => match k with
  | 0 => .object "KeptAnswers$Tape"
  | 1 => .array (.array .int)
  | 2 => .array (.array .int)
  | 3 => .array (.array .int)
  | 4 => .array .int
  | 5 => .int
  | _ => .int
abbrev wsX10 : List Cond := u_ws RX1 TX1 7
theorem nmX1 : ∀ a, a < 7 → ∀ b, b < 7 → a ≠ b → (TX1 a).2.1 ≠ (TX1 b).2.1 := by decide +kernel
theorem tyX1_ok : ∀ k, k < 7 → parseFieldDescriptor (TX1 k).2.2.1 = some (tyX1 k) := by decide +kernel
def RX2 : String := "KeptAnswers$Draft"
def TX2 : u_T := fun k => match k with
  | 0 => ("KeptAnswers$Draft", "tape", "LKeptAnswers$Tape;", true)
  | 1 => ("KeptAnswers$Draft", "condition", "LKeptAnswers$Condition;", true)
  | 2 => ("KeptAnswers$Draft", "operators", "[LKeptAnswers$Operator;", true)
  | 3 => ("KeptAnswers$Draft", "begun", "I", false)
  | _ => ("KeptAnswers$Draft", "ended", "I", false)
def tyX2 : Nat → FieldType := fun k => match k with
  | 0 => .object "KeptAnswers$Tape"
  | 1 => .object "KeptAnswers$Condition"
  | 2 => .array (.object "KeptAnswers$Operator")
  | 3 => .int
  | _ => .int
abbrev wsX20 : List Cond := u_ws RX2 TX2 5
theorem nmX2 : ∀ a, a < 5 → ∀ b, b < 5 → a ≠ b → (TX2 a).2.1 ≠ (TX2 b).2.1 := by decide +kernel
theorem tyX2_ok : ∀ k, k < 5 → parseFieldDescriptor (TX2 k).2.2.1 = some (tyX2 k) := by decide +kernel
def RX3 : String := "KeptAnswers$Ledger"
def TX3 : u_T := fun k => match k with
  | 0 => ("KeptAnswers$Ledger", "tables", "[I", true)
  | 1 => ("KeptAnswers$Ledger", "cells", "[I", true)
  | 2 => ("KeptAnswers$Ledger", "mores", "[I", true)
  | 3 => ("KeptAnswers$Ledger", "editions", "[I", true)
  | 4 => ("KeptAnswers$Ledger", "lates", "[I", true)
  | 5 => ("KeptAnswers$Ledger", "ends", "[I", true)
  | 6 => ("KeptAnswers$Ledger", "told", "I", false)
  | 7 => ("KeptAnswers$Ledger", "closed", "I", false)
  | _ => ("KeptAnswers$Ledger", "room", "I", false)
def tyX3 : Nat → FieldType := fun k => match k with
  | 0 => .array .int
  | 1 => .array .int
  | 2 => .array .int
  | 3 => .array .int
  | 4 => .array .int
  | 5 => .array .int
  | 6 => .int
  | 7 => .int
  | _ => .int
abbrev wsX30 : List Cond := u_ws RX3 TX3 9
theorem nmX3 : ∀ a, a < 9 → ∀ b, b < 9 → a ≠ b → (TX3 a).2.1 ≠ (TX3 b).2.1 := by decide +kernel
theorem tyX3_ok : ∀ k, k < 9 → parseFieldDescriptor (TX3 k).2.2.1 = some (tyX3 k) := by decide +kernel
def RX5 : String := "KeptAnswers$Operator"
def TX5 : u_T := fun k => match k with
  | 0 => ("KeptAnswers$Operator", "op", "LKeptAnswers$Op;", false)
  | 1 => ("KeptAnswers$Operator", "table", "I", false)
  | 2 => ("KeptAnswers$Operator", "begin", "I", false)
  | 3 => ("KeptAnswers$Operator", "first", "I", false)
  | 4 => ("KeptAnswers$Operator", "second", "I", false)
  | 5 => ("KeptAnswers$Operator", "signsBegin", "I", false)
  | 6 => ("KeptAnswers$Operator", "signsEnd", "I", false)
  | _ => ("KeptAnswers$Operator", "holds", "[I", true)
def tyX5 : Nat → FieldType := fun k => match k with
  | 0 => .object "KeptAnswers$Op"
  | 1 => .int
  | 2 => .int
  | 3 => .int
  | 4 => .int
  | 5 => .int
  | 6 => .int
  | _ => .array .int
abbrev wsX50 : List Cond := u_ws RX5 TX5 8
theorem nmX5 : ∀ a, a < 8 → ∀ b, b < 8 → a ≠ b → (TX5 a).2.1 ≠ (TX5 b).2.1 := by decide +kernel
theorem tyX5_ok : ∀ k, k < 8 → parseFieldDescriptor (TX5 k).2.2.1 = some (tyX5 k) := by decide +kernel
def RX6 : String := "KeptAnswers$Question"
def TX6 : u_T := fun k => match k with
  | 0 => ("KeptAnswers$Question", "nodes", "I", true)
  | 1 => ("KeptAnswers$Question", "shelves", "[LKeptAnswers$Shelf;", true)
  | 2 => ("KeptAnswers$Question", "begins", "[I", true)
  | 3 => ("KeptAnswers$Question", "repeated", "[Z", true)
  | _ => ("KeptAnswers$Question", "left", "Z", false)
def tyX6 : Nat → FieldType := fun k => match k with
  | 0 => .int
  | 1 => .array (.object "KeptAnswers$Shelf")
  | 2 => .array .int
  | 3 => .array .boolean
  | _ => .boolean
abbrev wsX60 : List Cond := u_ws RX6 TX6 5
theorem nmX6 : ∀ a, a < 5 → ∀ b, b < 5 → a ≠ b → (TX6 a).2.1 ≠ (TX6 b).2.1 := by decide +kernel
theorem tyX6_ok : ∀ k, k < 5 → parseFieldDescriptor (TX6 k).2.2.1 = some (tyX6 k) := by decide +kernel
def RX7 : String := "KeptAnswers$Shelf"
def TX7 : u_T := fun k => match k with
  | 0 => ("KeptAnswers$Shelf", "number", "I", true)
  | 1 => ("KeptAnswers$Shelf", "op", "LKeptAnswers$Op;", true)
  | 2 => ("KeptAnswers$Shelf", "table", "I", true)
  | 3 => ("KeptAnswers$Shelf", "signs", "[I", true)
  | 4 => ("KeptAnswers$Shelf", "holds", "[I", true)
  | 5 => ("KeptAnswers$Shelf", "first", "LKeptAnswers$Shelf;", true)
  | 6 => ("KeptAnswers$Shelf", "second", "LKeptAnswers$Shelf;", true)
  | 7 => ("KeptAnswers$Shelf", "tables", "I", true)
  | 8 => ("KeptAnswers$Shelf", "counts", "[I", true)
  | 9 => ("KeptAnswers$Shelf", "tried", "[I", true)
  | 10 => ("KeptAnswers$Shelf", "front", "I", false)
  | 11 => ("KeptAnswers$Shelf", "questions", "I", false)
  | 12 => ("KeptAnswers$Shelf", "state", "I", false)
  | _ => ("KeptAnswers$Shelf", "altered", "I", false)
def tyX7 : Nat → FieldType := fun k => match k with
  | 0 => .int
  | 1 => .object "KeptAnswers$Op"
  | 2 => .int
  | 3 => .array .int
  | 4 => .array .int
  | 5 => .object "KeptAnswers$Shelf"
  | 6 => .object "KeptAnswers$Shelf"
  | 7 => .int
  | 8 => .array .int
  | 9 => .array .int
  | 10 => .int
  | 11 => .int
  | 12 => .int
  | _ => .int
abbrev wsX70 : List Cond := u_ws RX7 TX7 14
theorem nmX7 : ∀ a, a < 14 → ∀ b, b < 14 → a ≠ b → (TX7 a).2.1 ≠ (TX7 b).2.1 := by decide +kernel
theorem tyX7_ok : ∀ k, k < 14 → parseFieldDescriptor (TX7 k).2.2.1 = some (tyX7 k) := by decide +kernel
def RX8 : String := "KeptAnswers$Tape"
def TX8 : u_T := fun k => match k with
  | 0 => ("KeptAnswers$Tape", "bytes", "[I", true)
  | 1 => ("KeptAnswers$Tape", "fed", "I", false)
  | 2 => ("KeptAnswers$Tape", "at", "I", false)
  | 3 => ("KeptAnswers$Tape", "kind", "I", false)
  | 4 => ("KeptAnswers$Tape", "place", "I", false)
  | _ => ("KeptAnswers$Tape", "end", "I", false)
def tyX8 : Nat → FieldType := fun k => match k with
  | 0 => .array .int
  | 1 => .int
  | 2 => .int
  | 3 => .int
  | 4 => .int
  | _ => .int
abbrev wsX80 : List Cond := u_ws RX8 TX8 6
theorem nmX8 : ∀ a, a < 6 → ∀ b, b < 6 → a ≠ b → (TX8 a).2.1 ≠ (TX8 b).2.1 := by decide +kernel
theorem tyX8_ok : ∀ k, k < 6 → parseFieldDescriptor (TX8 k).2.2.1 = some (tyX8 k) := by decide +kernel
def RX9 : String := "KeptAnswers$Worker"
def TX9 : u_T := fun k => match k with
  | 0 => ("KeptAnswers$Worker", "nothing", "[I", true)
  | 1 => ("KeptAnswers$Worker", "fresh", "[I", true)
  | 2 => ("KeptAnswers$Worker", "links", "[I", true)
  | _ => ("KeptAnswers$Worker", "steps", "[I", true)
def tyX9 : Nat → FieldType := fun k => match k with
  | 0 => .array .int
  | 1 => .array .int
  | 2 => .array .int
  | _ => .array .int
abbrev wsX90 : List Cond := u_ws RX9 TX9 4
theorem nmX9 : ∀ a, a < 4 → ∀ b, b < 4 → a ≠ b → (TX9 a).2.1 ≠ (TX9 b).2.1 := by decide +kernel
theorem tyX9_ok : ∀ k, k < 4 → parseFieldDescriptor (TX9 k).2.2.1 = some (tyX9 k) := by decide +kernel
def RX10 : String := "KeptAnswers"
def TX10 : u_T := fun k => match k with
  | 0 => ("KeptAnswers", "ledger", "LKeptAnswers$Ledger;", true)
  | 1 => ("KeptAnswers", "tape", "LKeptAnswers$Tape;", true)
  | 2 => ("KeptAnswers", "draft", "LKeptAnswers$Draft;", true)
  | 3 => ("KeptAnswers", "worker", "LKeptAnswers$Worker;", true)
  | 4 => ("KeptAnswers", "shelves", "[LKeptAnswers$Shelf;", true)
  | 5 => ("KeptAnswers", "questions", "[LKeptAnswers$Question;", true)
  | 6 => ("KeptAnswers", "held", "[I", true)
  | 7 => ("KeptAnswers", "earlier", "[I", true)
  | 8 => ("KeptAnswers", "shelvesMade", "I", false)
  | 9 => ("KeptAnswers", "asked", "I", false)
  | 10 => ("KeptAnswers", "readersMade", "I", false)
  | _ => ("KeptAnswers", "folded", "I", false)
def tyX10 : Nat → FieldType := fun k => match k with
  | 0 => .object "KeptAnswers$Ledger"
  | 1 => .object "KeptAnswers$Tape"
  | 2 => .object "KeptAnswers$Draft"
  | 3 => .object "KeptAnswers$Worker"
  | 4 => .array (.object "KeptAnswers$Shelf")
  | 5 => .array (.object "KeptAnswers$Question")
  | 6 => .array .int
  | 7 => .array .int
  | 8 => .int
  | 9 => .int
  | 10 => .int
  | _ => .int
abbrev wsX100 : List Cond := u_ws RX10 TX10 12
theorem nmX10 : ∀ a, a < 12 → ∀ b, b < 12 → a ≠ b → (TX10 a).2.1 ≠ (TX10 b).2.1 := by decide +kernel
theorem tyX10_ok : ∀ k, k < 12 → parseFieldDescriptor (TX10 k).2.2.1 = some (tyX10 k) := by decide +kernel
def RX11 : String := "KeptAnswersModel"
def TX11 : u_T := fun k => match k with
  | 0 => ("KeptAnswersModel", "thrown", "I", false)
  | 1 => ("KeptAnswersModel", "closed", "I", false)
  | 2 => ("KeptAnswersModel", "changes", "I", false)
  | 3 => ("KeptAnswersModel", "room", "I", false)
  | 4 => ("KeptAnswersModel", "cTable", "[I", true)
  | 5 => ("KeptAnswersModel", "cRow", "[I", true)
  | 6 => ("KeptAnswersModel", "cMore", "[I", true)
  | 7 => ("KeptAnswersModel", "cEdition", "[I", true)
  | 8 => ("KeptAnswersModel", "cLate", "[Z", true)
  | 9 => ("KeptAnswersModel", "questions", "I", false)
  | 10 => ("KeptAnswersModel", "isLeft", "[Z", true)
  | 11 => ("KeptAnswersModel", "nodes", "[I", true)
  | 12 => ("KeptAnswersModel", "what", "[I", true)
  | 13 => ("KeptAnswersModel", "table", "[I", true)
  | 14 => ("KeptAnswersModel", "one", "[I", true)
  | 15 => ("KeptAnswersModel", "two", "[I", true)
  | 16 => ("KeptAnswersModel", "shelfOf", "[I", true)
  | 17 => ("KeptAnswersModel", "tokens", "[I", true)
  | 18 => ("KeptAnswersModel", "tokenMany", "[I", true)
  | 19 => ("KeptAnswersModel", "code", "[I", true)
  | 20 => ("KeptAnswersModel", "codeMany", "[I", true)
  | 21 => ("KeptAnswersModel", "taped", "I", false)
  | 22 => ("KeptAnswersModel", "size", "I", false)
  | 23 => ("KeptAnswersModel", "at", "I", false)
  | 24 => ("KeptAnswersModel", "bad", "I", false)
  | 25 => ("KeptAnswersModel", "badKind", "I", false)
  | 26 => ("KeptAnswersModel", "opens", "I", false)
  | 27 => ("KeptAnswersModel", "begun", "I", false)
  | 28 => ("KeptAnswersModel", "faultAt", "I", false)
  | 29 => ("KeptAnswersModel", "tape", "[I", true)
  | 30 => ("KeptAnswersModel", "newTokens", "I", false)
  | 31 => ("KeptAnswersModel", "newCodes", "I", false)
  | 32 => ("KeptAnswersModel", "newToken", "[I", true)
  | 33 => ("KeptAnswersModel", "newCode", "[I", true)
  | 34 => ("KeptAnswersModel", "shelves", "I", false)
  | 35 => ("KeptAnswersModel", "folded", "I", false)
  | 36 => ("KeptAnswersModel", "shelfNode", "[I", true)
  | 37 => ("KeptAnswersModel", "front", "[I", true)
  | 38 => ("KeptAnswersModel", "isThere", "[Z", true)
  | 39 => ("KeptAnswersModel", "isOff", "[Z", true)
  | 40 => ("KeptAnswersModel", "moreRow", "I", false)
  | 41 => ("KeptAnswersModel", "has", "[I", true)
  | 42 => ("KeptAnswersModel", "stack", "[I", true)
  | 43 => ("KeptAnswersModel", "ahead", "[I", true)
  | 44 => ("KeptAnswersModel", "readers", "I", false)
  | 45 => ("KeptAnswersModel", "holdsAt", "[I", true)
  | 46 => ("KeptAnswersModel", "isGone", "[Z", true)
  | _ => ("KeptAnswersModel", "steps", "[I", true)
def tyX11 : Nat → FieldType := fun k => match k with
  | 0 => .int
  | 1 => .int
  | 2 => .int
  | 3 => .int
  | 4 => .array .int
  | 5 => .array .int
  | 6 => .array .int
  | 7 => .array .int
  | 8 => .array .boolean
  | 9 => .int
  | 10 => .array .boolean
  | 11 => .array .int
  | 12 => .array .int
  | 13 => .array .int
  | 14 => .array .int
  | 15 => .array .int
  | 16 => .array .int
  | 17 => .array .int
  | 18 => .array .int
  | 19 => .array .int
  | 20 => .array .int
  | 21 => .int
  | 22 => .int
  | 23 => .int
  | 24 => .int
  | 25 => .int
  | 26 => .int
  | 27 => .int
  | 28 => .int
  | 29 => .array .int
  | 30 => .int
  | 31 => .int
  | 32 => .array .int
  | 33 => .array .int
  | 34 => .int
  | 35 => .int
  | 36 => .array .int
  | 37 => .array .int
  | 38 => .array .boolean
  | 39 => .array .boolean
  | 40 => .int
  | 41 => .array .int
  | 42 => .array .int
  | 43 => .array .int
  | 44 => .int
  | 45 => .array .int
  | 46 => .array .boolean
  | _ => .array .int
abbrev wsX110 : List Cond := u_ws RX11 TX11 48
theorem nmX11 : ∀ a, a < 48 → ∀ b, b < 48 → a ≠ b → (TX11 a).2.1 ≠ (TX11 b).2.1 := by decide +kernel
theorem tyX11_ok : ∀ k, k < 48 → parseFieldDescriptor (TX11 k).2.2.1 = some (tyX11 k) := by decide +kernel
abbrev ka_cl : List vw_C := [(RX1, TX1, 7), (RX2, TX2, 5), (RX3, TX3, 9), (RX5, TX5, 8), (RX6, TX6, 5), (RX7, TX7, 14), (RX8, TX8, 6), (RX9, TX9, 4), (RX10, TX10, 12), (RX11, TX11, 48)]
def ka_T (ci : Nat) : vw_C := ka_cl.getD ci ("", fun _ => ("", "", "", false), 0)
def ka_ty : Nat → Nat → FieldType
  | 0 => tyX1 | 1 => tyX2 | 2 => tyX3 | 3 => tyX5 | 4 => tyX6 | 5 => tyX7 | 6 => tyX8 | 7 => tyX9 | 8 => tyX10 | _ => tyX11
theorem ka_ty_ok : ∀ ci, ci < 10 → ∀ k, k < (ka_T ci).2.2 → parseFieldDescriptor ((ka_T ci).2.1 k).2.2.1 = some (ka_ty ci k) := by decide +kernel
theorem ka_nm_ok : ∀ ci, ci < 10 → ∀ a, a < (ka_T ci).2.2 → ∀ b, b < (ka_T ci).2.2 → a ≠ b → ((ka_T ci).2.1 a).2.1 ≠ ((ka_T ci).2.1 b).2.1 := by decide +kernel
theorem ka_cl_T {ci : Nat} (h : ci < 10) : ka_cl[ci]? = some (ka_T ci) := by
  match ci, h with
  | 0, _ => rfl
  | 1, _ => rfl
  | 2, _ => rfl
  | 3, _ => rfl
  | 4, _ => rfl
  | 5, _ => rfl
  | 6, _ => rfl
  | 7, _ => rfl
  | 8, _ => rfl
  | 9, _ => rfl
/-- the names of what is thrown -/
def ka_en : Nat → String
  | 0 => "java/lang/IllegalArgumentException" | 1 => "java/lang/IndexOutOfBoundsException" | 2 => "java/util/NoSuchElementException" | _ => "java/lang/IllegalStateException"
def ka_isr (t : FieldType) : Bool := match t with
  | .object _ => true
  | .array _ => true
  | _ => false
/-- fields and places of the constants: declaring name, field, descriptor, value -/
def ka_soF (i f : Nat) : String × String × String := if i < 14 then (if f = 0 then ("java/lang/Enum", "ordinal", "I") else if f = 1 then ("KeptAnswers$Op", "word", "Ljava/lang/String;") else ("KeptAnswers$Op", "operands", "I")) else (if f = 0 then ("java/lang/String", "value", "[B") else ("java/lang/String", "coder", "B"))
