/-! the classes: names, fields in the order of the slots, types; printed by wip/whole/gen1.py -/
def ck_R0 : String := "TokenMouth$Groups"
def ck_T0 : u_T := fun k => match k with
  | 0 => ("TokenMouth$Groups", "starts", "LTokenMouth$Row;", true)
  | 1 => ("TokenMouth$Groups", "keys", "LTokenMouth$Row;", true)
  | _ => ("TokenMouth$Groups", "values", "LTokenMouth$Row;", true)
def ck_y0 : Nat → FieldType := fun k => match k with
  | 0 => .object "TokenMouth$Row"
  | 1 => .object "TokenMouth$Row"
  | _ => .object "TokenMouth$Row"
theorem ck_n0 : ∀ a, a < 3 → ∀ b, b < 3 → a ≠ b → (ck_T0 a).2.1 ≠ (ck_T0 b).2.1 := by decide +kernel
theorem ck_o0 : ∀ k, k < 3 → parseFieldDescriptor (ck_T0 k).2.2.1 = some (ck_y0 k) := by decide +kernel
def ck_R1 : String := "TokenMouth$Macro"
def ck_T1 : u_T := fun k => match k with
  | 0 => ("TokenMouth$Macro", "text", "LTokenMouth$Row;", true)
  | 1 => ("TokenMouth$Macro", "body", "LTokenMouth$Row;", true)
  | _ => ("TokenMouth$Macro", "parameters", "I", false)
def ck_y1 : Nat → FieldType := fun k => match k with
  | 0 => .object "TokenMouth$Row"
  | 1 => .object "TokenMouth$Row"
  | _ => .int
theorem ck_n1 : ∀ a, a < 3 → ∀ b, b < 3 → a ≠ b → (ck_T1 a).2.1 ≠ (ck_T1 b).2.1 := by decide +kernel
theorem ck_o1 : ∀ k, k < 3 → parseFieldDescriptor (ck_T1 k).2.2.1 = some (ck_y1 k) := by decide +kernel
def ck_R2 : String := "TokenMouth$Names"
def ck_T2 : u_T := fun k => match k with
  | 0 => ("TokenMouth$Names", "heads", "[J", true)
  | 1 => ("TokenMouth$Names", "tails", "[J", true)
  | 2 => ("TokenMouth$Names", "meanings", "[I", true)
  | _ => ("TokenMouth$Names", "known", "I", false)
def ck_y2 : Nat → FieldType := fun k => match k with
  | 0 => .array (.long)
  | 1 => .array (.long)
  | 2 => .array (.int)
  | _ => .int
theorem ck_n2 : ∀ a, a < 4 → ∀ b, b < 4 → a ≠ b → (ck_T2 a).2.1 ≠ (ck_T2 b).2.1 := by decide +kernel
theorem ck_o2 : ∀ k, k < 4 → parseFieldDescriptor (ck_T2 k).2.2.1 = some (ck_y2 k) := by decide +kernel
def ck_R3 : String := "TokenMouth$Reader"
def ck_T3 : u_T := fun k => match k with
  | 0 => ("TokenMouth$Reader", "text", "[I", true)
  | 1 => ("TokenMouth$Reader", "categories", "[I", true)
  | 2 => ("TokenMouth$Reader", "length", "I", false)
  | 3 => ("TokenMouth$Reader", "state", "I", false)
  | 4 => ("TokenMouth$Reader", "place", "I", false)
  | 5 => ("TokenMouth$Reader", "trouble", "I", false)
  | 6 => ("TokenMouth$Reader", "head", "J", false)
  | _ => ("TokenMouth$Reader", "tail", "J", false)
def ck_y3 : Nat → FieldType := fun k => match k with
  | 0 => .array (.int)
  | 1 => .array (.int)
  | 2 => .int
  | 3 => .int
  | 4 => .int
  | 5 => .int
  | 6 => .long
  | _ => .long
theorem ck_n3 : ∀ a, a < 8 → ∀ b, b < 8 → a ≠ b → (ck_T3 a).2.1 ≠ (ck_T3 b).2.1 := by decide +kernel
theorem ck_o3 : ∀ k, k < 8 → parseFieldDescriptor (ck_T3 k).2.2.1 = some (ck_y3 k) := by decide +kernel
def ck_R4 : String := "TokenMouth$Row"
def ck_T4 : u_T := fun k => match k with
  | 0 => ("TokenMouth$Row", "items", "[I", true)
  | _ => ("TokenMouth$Row", "size", "I", false)
def ck_y4 : Nat → FieldType := fun k => match k with
  | 0 => .array (.int)
  | _ => .int
theorem ck_n4 : ∀ a, a < 2 → ∀ b, b < 2 → a ≠ b → (ck_T4 a).2.1 ≠ (ck_T4 b).2.1 := by decide +kernel
theorem ck_o4 : ∀ k, k < 2 → parseFieldDescriptor (ck_T4 k).2.2.1 = some (ck_y4 k) := by decide +kernel
def ck_R5 : String := "TokenMouth"
def ck_T5 : u_T := fun k => match k with
  | 0 => ("TokenMouth", "reader", "LTokenMouth$Reader;", true)
  | 1 => ("TokenMouth", "names", "LTokenMouth$Names;", true)
  | 2 => ("TokenMouth", "groups", "LTokenMouth$Groups;", true)
  | 3 => ("TokenMouth", "pending", "LTokenMouth$Row;", true)
  | 4 => ("TokenMouth", "outs", "LTokenMouth$Row;", true)
  | 5 => ("TokenMouth", "conditionals", "LTokenMouth$Row;", true)
  | 6 => ("TokenMouth", "arguments", "[LTokenMouth$Row;", true)
  | 7 => ("TokenMouth", "macros", "[LTokenMouth$Macro;", true)
  | 8 => ("TokenMouth", "draft", "LTokenMouth$Macro;", false)
  | 9 => ("TokenMouth", "made", "I", false)
  | 10 => ("TokenMouth", "steps", "I", false)
  | 11 => ("TokenMouth", "faultKind", "I", false)
  | 12 => ("TokenMouth", "expansions", "I", false)
  | _ => ("TokenMouth", "openExpansions", "I", false)
def ck_y5 : Nat → FieldType := fun k => match k with
  | 0 => .object "TokenMouth$Reader"
  | 1 => .object "TokenMouth$Names"
  | 2 => .object "TokenMouth$Groups"
  | 3 => .object "TokenMouth$Row"
  | 4 => .object "TokenMouth$Row"
  | 5 => .object "TokenMouth$Row"
  | 6 => .array (.object "TokenMouth$Row")
  | 7 => .array (.object "TokenMouth$Macro")
  | 8 => .object "TokenMouth$Macro"
  | 9 => .int
  | 10 => .int
  | 11 => .int
  | 12 => .int
  | _ => .int
theorem ck_n5 : ∀ a, a < 14 → ∀ b, b < 14 → a ≠ b → (ck_T5 a).2.1 ≠ (ck_T5 b).2.1 := by decide +kernel
theorem ck_o5 : ∀ k, k < 14 → parseFieldDescriptor (ck_T5 k).2.2.1 = some (ck_y5 k) := by decide +kernel
def ck_R6 : String := "TokenMouthModel"
def ck_T6 : u_T := fun k => match k with
  | 0 => ("TokenMouthModel", "thrown", "I", false)
  | 1 => ("TokenMouthModel", "length", "I", false)
  | 2 => ("TokenMouthModel", "text", "[I", true)
  | 3 => ("TokenMouthModel", "at", "I", false)
  | 4 => ("TokenMouthModel", "state", "I", false)
  | 5 => ("TokenMouthModel", "fault", "I", false)
  | 6 => ("TokenMouthModel", "steps", "I", false)
  | 7 => ("TokenMouthModel", "expansions", "I", false)
  | 8 => ("TokenMouthModel", "categories", "[I", true)
  | 9 => ("TokenMouthModel", "pending", "I", false)
  | 10 => ("TokenMouthModel", "waiting", "[I", true)
  | 11 => ("TokenMouthModel", "names", "I", false)
  | 12 => ("TokenMouthModel", "letters", "[I", true)
  | 13 => ("TokenMouthModel", "size", "[I", true)
  | 14 => ("TokenMouthModel", "active", "[Z", true)
  | 15 => ("TokenMouthModel", "means", "[I", true)
  | 16 => ("TokenMouthModel", "spelt", "I", false)
  | 17 => ("TokenMouthModel", "spelling", "[I", true)
  | 18 => ("TokenMouthModel", "groups", "I", false)
  | 19 => ("TokenMouthModel", "kept", "I", false)
  | 20 => ("TokenMouthModel", "keptGroup", "[I", true)
  | 21 => ("TokenMouthModel", "keptOf", "[I", true)
  | 22 => ("TokenMouthModel", "keptWas", "[I", true)
  | 23 => ("TokenMouthModel", "macros", "I", false)
  | 24 => ("TokenMouthModel", "textSize", "[I", true)
  | 25 => ("TokenMouthModel", "texts", "[I", true)
  | 26 => ("TokenMouthModel", "bodySize", "[I", true)
  | 27 => ("TokenMouthModel", "bodies", "[I", true)
  | 28 => ("TokenMouthModel", "parameters", "[I", true)
  | 29 => ("TokenMouthModel", "conditionals", "I", false)
  | 30 => ("TokenMouthModel", "part", "[I", true)
  | 31 => ("TokenMouthModel", "frames", "I", false)
  | 32 => ("TokenMouthModel", "doing", "[I", true)
  | 33 => ("TokenMouthModel", "holds", "[I", true)
  | 34 => ("TokenMouthModel", "stage", "[I", true)
  | 35 => ("TokenMouthModel", "opened", "[I", true)
  | 36 => ("TokenMouthModel", "spell", "[I", true)
  | 37 => ("TokenMouthModel", "outs", "I", false)
  | 38 => ("TokenMouthModel", "outputs", "[I", true)
  | 39 => ("TokenMouthModel", "argument", "[I", true)
  | _ => ("TokenMouthModel", "argumentSize", "[I", true)
def ck_y6 : Nat → FieldType := fun k => match k with
  | 0 => .int
  | 1 => .int
  | 2 => .array (.int)
  | 3 => .int
  | 4 => .int
  | 5 => .int
  | 6 => .int
  | 7 => .int
  | 8 => .array (.int)
  | 9 => .int
  | 10 => .array (.int)
  | 11 => .int
  | 12 => .array (.int)
  | 13 => .array (.int)
  | 14 => .array (.boolean)
  | 15 => .array (.int)
  | 16 => .int
  | 17 => .array (.int)
  | 18 => .int
  | 19 => .int
  | 20 => .array (.int)
  | 21 => .array (.int)
  | 22 => .array (.int)
  | 23 => .int
  | 24 => .array (.int)
  | 25 => .array (.int)
  | 26 => .array (.int)
  | 27 => .array (.int)
  | 28 => .array (.int)
  | 29 => .int
  | 30 => .array (.int)
  | 31 => .int
  | 32 => .array (.int)
  | 33 => .array (.int)
  | 34 => .array (.int)
  | 35 => .array (.int)
  | 36 => .array (.int)
  | 37 => .int
  | 38 => .array (.int)
  | 39 => .array (.int)
  | _ => .array (.int)
theorem ck_n6 : ∀ a, a < 41 → ∀ b, b < 41 → a ≠ b → (ck_T6 a).2.1 ≠ (ck_T6 b).2.1 := by decide +kernel
theorem ck_o6 : ∀ k, k < 41 → parseFieldDescriptor (ck_T6 k).2.2.1 = some (ck_y6 k) := by decide +kernel
abbrev ck_cl : List vw_C := [(ck_R0, ck_T0, 3), (ck_R1, ck_T1, 3), (ck_R2, ck_T2, 4), (ck_R3, ck_T3, 8), (ck_R4, ck_T4, 2), (ck_R5, ck_T5, 14), (ck_R6, ck_T6, 41)]
def ck_R : Nat → String := fun i => match i with
  | 0 => ck_R0
  | 1 => ck_R1
  | 2 => ck_R2
  | 3 => ck_R3
  | 4 => ck_R4
  | 5 => ck_R5
  | _ => ck_R6
def ck_T : Nat → u_T := fun i => match i with
  | 0 => ck_T0
  | 1 => ck_T1
  | 2 => ck_T2
  | 3 => ck_T3
  | 4 => ck_T4
  | 5 => ck_T5
  | _ => ck_T6
def ck_y : Nat → (Nat → FieldType) := fun i => match i with
  | 0 => ck_y0
  | 1 => ck_y1
  | 2 => ck_y2
  | 3 => ck_y3
  | 4 => ck_y4
  | 5 => ck_y5
  | _ => ck_y6
def ck_N : Nat → Nat := fun i => match i with
  | 0 => 3
  | 1 => 3
  | 2 => 4
  | 3 => 8
  | 4 => 2
  | 5 => 14
  | _ => 41
theorem ck_at : ∀ i, i < 7 → ck_cl[i]? = some (ck_R i, ck_T i, ck_N i)
  | 0, _ => rfl
  | 1, _ => rfl
  | 2, _ => rfl
  | 3, _ => rfl
  | 4, _ => rfl
  | 5, _ => rfl
  | 6, _ => rfl
  | n + 7, h => absurd h (by omega)
theorem ck_ty : ∀ i, i < 7 → ∀ k, k < ck_N i → parseFieldDescriptor (ck_T i k).2.2.1 = some (ck_y i k)
  | 0, _ => ck_o0
  | 1, _ => ck_o1
  | 2, _ => ck_o2
  | 3, _ => ck_o3
  | 4, _ => ck_o4
  | 5, _ => ck_o5
  | 6, _ => ck_o6
  | n + 7, h => absurd h (by omega)
theorem ck_nm : ∀ i, i < 7 → ∀ a, a < ck_N i → ∀ b, b < ck_N i → a ≠ b → (ck_T i a).2.1 ≠ (ck_T i b).2.1
  | 0, _ => ck_n0
  | 1, _ => ck_n1
  | 2, _ => ck_n2
  | 3, _ => ck_n3
  | 4, _ => ck_n4
  | 5, _ => ck_n5
  | 6, _ => ck_n6
  | n + 7, h => absurd h (by omega)
theorem ck_own : ∀ i, i < 7 → ∀ k, k < ck_N i → (ck_T i k).1 = ck_R i := by decide +kernel
theorem ck_w0 : ∀ w ∈ u_ws ck_R0 ck_T0 3, w ∈ tables_1 := by decide +kernel
theorem ck_w1 : ∀ w ∈ u_ws ck_R1 ck_T1 3, w ∈ tables_1 := by decide +kernel
theorem ck_w2 : ∀ w ∈ u_ws ck_R2 ck_T2 4, w ∈ tables_1 := by decide +kernel
theorem ck_w3 : ∀ w ∈ u_ws ck_R3 ck_T3 8, w ∈ tables_1 := by decide +kernel
theorem ck_w4 : ∀ w ∈ u_ws ck_R4 ck_T4 2, w ∈ tables_1 := by decide +kernel
theorem ck_w5 : ∀ w ∈ u_ws ck_R5 ck_T5 14, w ∈ tables_1 := by decide +kernel
theorem ck_w6 : ∀ w ∈ u_ws ck_R6 ck_T6 41, w ∈ tables_1 := by decide +kernel
theorem ck_ws : ∀ i, i < 7 → ∀ w ∈ u_ws (ck_R i) (ck_T i) (ck_N i), w ∈ tables_1
  | 0, _ => ck_w0
  | 1, _ => ck_w1
  | 2, _ => ck_w2
  | 3, _ => ck_w3
  | 4, _ => ck_w4
  | 5, _ => ck_w5
  | 6, _ => ck_w6
  | n + 7, h => absurd h (by omega)
