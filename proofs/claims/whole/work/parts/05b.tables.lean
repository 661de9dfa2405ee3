/-! printed: classes, methods by name -/
def kR0 : String := "SequentKernel"
def kT0 : u_T := fun k => match k with
  | 0 => ("SequentKernel", "types", "LSequentKernel$Types;", true)
  | 1 => ("SequentKernel", "terms", "LSequentKernel$Terms;", true)
  | 2 => ("SequentKernel", "facts", "LSequentKernel$Facts;", true)
  | 3 => ("SequentKernel", "change", "LSequentKernel$Change;", true)
  | 4 => ("SequentKernel", "rules", "LSequentKernel$Rules;", true)
  | 5 => ("SequentKernel", "trace", "LSequentKernel$Trace;", true)
  | 6 => ("SequentKernel", "constants", "I", false)
  | _ => ("SequentKernel", "definedTypes", "I", false)
def kt0 : Nat → FieldType := fun k => match k with
  | 0 => .object "SequentKernel$Types"
  | 1 => .object "SequentKernel$Terms"
  | 2 => .object "SequentKernel$Facts"
  | 3 => .object "SequentKernel$Change"
  | 4 => .object "SequentKernel$Rules"
  | 5 => .object "SequentKernel$Trace"
  | 6 => .int
  | _ => .int
theorem knm0 : ∀ a, a < 8 → ∀ b, b < 8 → a ≠ b → (kT0 a).2.1 ≠ (kT0 b).2.1 := by decide +kernel
theorem kty0 : ∀ k, k < 8 → parseFieldDescriptor (kT0 k).2.2.1 = some (kt0 k) := by decide +kernel
set_option maxRecDepth 20000 in
theorem kin0 : ∀ w ∈ u_ws kR0 kT0 8, w ∈ lw_tbl := by decide +kernel
def kR1 : String := "SequentKernel$Types"
def kT1 : u_T := fun k => match k with
  | 0 => ("SequentKernel$Types", "numbers", "LSequentKernel$Numbers;", true)
  | 1 => ("SequentKernel$Types", "sort", "[I", true)
  | 2 => ("SequentKernel$Types", "first", "[I", true)
  | 3 => ("SequentKernel$Types", "second", "[I", true)
  | 4 => ("SequentKernel$Types", "general", "[Z", true)
  | 5 => ("SequentKernel$Types", "height", "[I", true)
  | 6 => ("SequentKernel$Types", "count", "I", false)
  | _ => ("SequentKernel$Types", "kept", "I", false)
def kt1 : Nat → FieldType := fun k => match k with
  | 0 => .object "SequentKernel$Numbers"
  | 1 => .array .int
  | 2 => .array .int
  | 3 => .array .int
  | 4 => .array .boolean
  | 5 => .array .int
  | 6 => .int
  | _ => .int
theorem knm1 : ∀ a, a < 8 → ∀ b, b < 8 → a ≠ b → (kT1 a).2.1 ≠ (kT1 b).2.1 := by decide +kernel
theorem kty1 : ∀ k, k < 8 → parseFieldDescriptor (kT1 k).2.2.1 = some (kt1 k) := by decide +kernel
set_option maxRecDepth 20000 in
theorem kin1 : ∀ w ∈ u_ws kR1 kT1 8, w ∈ lw_tbl := by decide +kernel
def kR2 : String := "SequentKernel$Numbers"
def kT2 : u_T := fun k => match k with
  | 0 => ("SequentKernel$Numbers", "place", "[I", true)
  | 1 => ("SequentKernel$Numbers", "number", "[I", true)
  | _ => ("SequentKernel$Numbers", "count", "I", false)
def kt2 : Nat → FieldType := fun k => match k with
  | 0 => .array .int
  | 1 => .array .int
  | _ => .int
theorem knm2 : ∀ a, a < 3 → ∀ b, b < 3 → a ≠ b → (kT2 a).2.1 ≠ (kT2 b).2.1 := by decide +kernel
theorem kty2 : ∀ k, k < 3 → parseFieldDescriptor (kT2 k).2.2.1 = some (kt2 k) := by decide +kernel
set_option maxRecDepth 20000 in
theorem kin2 : ∀ w ∈ u_ws kR2 kT2 3, w ∈ lw_tbl := by decide +kernel
def kR3 : String := "SequentKernel$Terms"
def kT3 : u_T := fun k => match k with
  | 0 => ("SequentKernel$Terms", "numbers", "LSequentKernel$Numbers;", true)
  | 1 => ("SequentKernel$Terms", "sort", "[I", true)
  | 2 => ("SequentKernel$Terms", "first", "[I", true)
  | 3 => ("SequentKernel$Terms", "second", "[I", true)
  | 4 => ("SequentKernel$Terms", "type", "[I", true)
  | 5 => ("SequentKernel$Terms", "general", "[Z", true)
  | 6 => ("SequentKernel$Terms", "marked", "[Z", true)
  | 7 => ("SequentKernel$Terms", "anyFree", "[Z", true)
  | 8 => ("SequentKernel$Terms", "height", "[I", true)
  | 9 => ("SequentKernel$Terms", "newest", "[I", true)
  | 10 => ("SequentKernel$Terms", "older", "[I", true)
  | 11 => ("SequentKernel$Terms", "bucket", "[I", true)
  | 12 => ("SequentKernel$Terms", "types", "LSequentKernel$Types;", true)
  | 13 => ("SequentKernel$Terms", "count", "I", false)
  | _ => ("SequentKernel$Terms", "kept", "I", false)
def kt3 : Nat → FieldType := fun k => match k with
  | 0 => .object "SequentKernel$Numbers"
  | 1 => .array .int
  | 2 => .array .int
  | 3 => .array .int
  | 4 => .array .int
  | 5 => .array .boolean
  | 6 => .array .boolean
  | 7 => .array .boolean
  | 8 => .array .int
  | 9 => .array .int
  | 10 => .array .int
  | 11 => .array .int
  | 12 => .object "SequentKernel$Types"
  | 13 => .int
  | _ => .int
theorem knm3 : ∀ a, a < 15 → ∀ b, b < 15 → a ≠ b → (kT3 a).2.1 ≠ (kT3 b).2.1 := by decide +kernel
theorem kty3 : ∀ k, k < 15 → parseFieldDescriptor (kT3 k).2.2.1 = some (kt3 k) := by decide +kernel
set_option maxRecDepth 20000 in
theorem kin3 : ∀ w ∈ u_ws kR3 kT3 15, w ∈ lw_tbl := by decide +kernel
def kR4 : String := "SequentKernel$Facts"
def kT4 : u_T := fun k => match k with
  | 0 => ("SequentKernel$Facts", "conclusion", "[I", true)
  | 1 => ("SequentKernel$Facts", "size", "[I", true)
  | 2 => ("SequentKernel$Facts", "hypotheses", "[I", true)
  | 3 => ("SequentKernel$Facts", "draft", "[I", true)
  | 4 => ("SequentKernel$Facts", "draftSize", "I", false)
  | 5 => ("SequentKernel$Facts", "draftRefused", "Z", false)
  | 6 => ("SequentKernel$Facts", "count", "I", false)
  | _ => ("SequentKernel$Facts", "kept", "I", false)
def kt4 : Nat → FieldType := fun k => match k with
  | 0 => .array .int
  | 1 => .array .int
  | 2 => .array .int
  | 3 => .array .int
  | 4 => .int
  | 5 => .boolean
  | 6 => .int
  | _ => .int
theorem knm4 : ∀ a, a < 8 → ∀ b, b < 8 → a ≠ b → (kT4 a).2.1 ≠ (kT4 b).2.1 := by decide +kernel
theorem kty4 : ∀ k, k < 8 → parseFieldDescriptor (kT4 k).2.2.1 = some (kt4 k) := by decide +kernel
set_option maxRecDepth 20000 in
theorem kin4 : ∀ w ∈ u_ws kR4 kT4 8, w ∈ lw_tbl := by decide +kernel
def kR5 : String := "SequentKernel$Change"
def kT5 : u_T := fun k => match k with
  | 0 => ("SequentKernel$Change", "types", "LSequentKernel$Types;", true)
  | 1 => ("SequentKernel$Change", "terms", "LSequentKernel$Terms;", true)
  | 2 => ("SequentKernel$Change", "termMemory", "[I", true)
  | 3 => ("SequentKernel$Change", "typeMemory", "[I", true)
  | 4 => ("SequentKernel$Change", "turn", "I", false)
  | 5 => ("SequentKernel$Change", "way", "I", false)
  | 6 => ("SequentKernel$Change", "old", "I", false)
  | _ => ("SequentKernel$Change", "put", "I", false)
def kt5 : Nat → FieldType := fun k => match k with
  | 0 => .object "SequentKernel$Types"
  | 1 => .object "SequentKernel$Terms"
  | 2 => .array .int
  | 3 => .array .int
  | 4 => .int
  | 5 => .int
  | 6 => .int
  | _ => .int
theorem knm5 : ∀ a, a < 8 → ∀ b, b < 8 → a ≠ b → (kT5 a).2.1 ≠ (kT5 b).2.1 := by decide +kernel
theorem kty5 : ∀ k, k < 8 → parseFieldDescriptor (kT5 k).2.2.1 = some (kt5 k) := by decide +kernel
set_option maxRecDepth 20000 in
theorem kin5 : ∀ w ∈ u_ws kR5 kT5 8, w ∈ lw_tbl := by decide +kernel
def kR6 : String := "SequentKernel$Rules"
def kT6 : u_T := fun k => match k with
  | 0 => ("SequentKernel$Rules", "types", "LSequentKernel$Types;", true)
  | 1 => ("SequentKernel$Rules", "terms", "LSequentKernel$Terms;", true)
  | 2 => ("SequentKernel$Rules", "facts", "LSequentKernel$Facts;", true)
  | 3 => ("SequentKernel$Rules", "change", "LSequentKernel$Change;", true)
  | 4 => ("SequentKernel$Rules", "firstReplayed", "I", false)
  | _ => ("SequentKernel$Rules", "replayed", "I", false)
def kt6 : Nat → FieldType := fun k => match k with
  | 0 => .object "SequentKernel$Types"
  | 1 => .object "SequentKernel$Terms"
  | 2 => .object "SequentKernel$Facts"
  | 3 => .object "SequentKernel$Change"
  | 4 => .int
  | _ => .int
theorem knm6 : ∀ a, a < 6 → ∀ b, b < 6 → a ≠ b → (kT6 a).2.1 ≠ (kT6 b).2.1 := by decide +kernel
theorem kty6 : ∀ k, k < 6 → parseFieldDescriptor (kT6 k).2.2.1 = some (kt6 k) := by decide +kernel
set_option maxRecDepth 20000 in
theorem kin6 : ∀ w ∈ u_ws kR6 kT6 6, w ∈ lw_tbl := by decide +kernel
def kR7 : String := "SequentKernel$Trace"
def kT7 : u_T := fun k => match k with
  | 0 => ("SequentKernel$Trace", "op", "[I", true)
  | 1 => ("SequentKernel$Trace", "a", "[I", true)
  | 2 => ("SequentKernel$Trace", "b", "[I", true)
  | 3 => ("SequentKernel$Trace", "c", "[I", true)
  | _ => ("SequentKernel$Trace", "count", "I", false)
def kt7 : Nat → FieldType := fun k => match k with
  | 0 => .array .int
  | 1 => .array .int
  | 2 => .array .int
  | 3 => .array .int
  | _ => .int
theorem knm7 : ∀ a, a < 5 → ∀ b, b < 5 → a ≠ b → (kT7 a).2.1 ≠ (kT7 b).2.1 := by decide +kernel
theorem kty7 : ∀ k, k < 5 → parseFieldDescriptor (kT7 k).2.2.1 = some (kt7 k) := by decide +kernel
set_option maxRecDepth 20000 in
theorem kin7 : ∀ w ∈ u_ws kR7 kT7 5, w ∈ lw_tbl := by decide +kernel
def kR8 : String := "SequentKernelModel"
def kT8 : u_T := fun k => match k with
  | 0 => ("SequentKernelModel", "types", "I", false)
  | 1 => ("SequentKernelModel", "tSort", "[I", true)
  | 2 => ("SequentKernelModel", "tA", "[I", true)
  | 3 => ("SequentKernelModel", "tB", "[I", true)
  | 4 => ("SequentKernelModel", "tHeight", "[I", true)
  | 5 => ("SequentKernelModel", "tOpen", "[Z", true)
  | 6 => ("SequentKernelModel", "tNumber", "[I", true)
  | 7 => ("SequentKernelModel", "typeAt", "[I", true)
  | 8 => ("SequentKernelModel", "typeNumbers", "I", false)
  | 9 => ("SequentKernelModel", "terms", "I", false)
  | 10 => ("SequentKernelModel", "sort", "[I", true)
  | 11 => ("SequentKernelModel", "one", "[I", true)
  | 12 => ("SequentKernelModel", "two", "[I", true)
  | 13 => ("SequentKernelModel", "type", "[I", true)
  | 14 => ("SequentKernelModel", "height", "[I", true)
  | 15 => ("SequentKernelModel", "number", "[I", true)
  | 16 => ("SequentKernelModel", "termAt", "[I", true)
  | 17 => ("SequentKernelModel", "termNumbers", "I", false)
  | 18 => ("SequentKernelModel", "constants", "I", false)
  | 19 => ("SequentKernelModel", "defined", "I", false)
  | 20 => ("SequentKernelModel", "facts", "I", false)
  | 21 => ("SequentKernelModel", "conclusion", "[I", true)
  | 22 => ("SequentKernelModel", "many", "[I", true)
  | 23 => ("SequentKernelModel", "hypothesis", "[I", true)
  | 24 => ("SequentKernelModel", "count", "I", false)
  | 25 => ("SequentKernelModel", "set", "[I", true)
  | 26 => ("SequentKernelModel", "lines", "I", false)
  | 27 => ("SequentKernelModel", "op", "[I", true)
  | 28 => ("SequentKernelModel", "argument", "[I", true)
  | 29 => ("SequentKernelModel", "result", "[I", true)
  | 30 => ("SequentKernelModel", "oldTypes", "I", false)
  | 31 => ("SequentKernelModel", "oldTerms", "I", false)
  | 32 => ("SequentKernelModel", "oldFacts", "I", false)
  | 33 => ("SequentKernelModel", "bad", "Z", false)
  | 34 => ("SequentKernelModel", "need", "[Z", true)
  | 35 => ("SequentKernelModel", "image", "[I", true)
  | 36 => ("SequentKernelModel", "tNeed", "[Z", true)
  | _ => ("SequentKernelModel", "tImage", "[I", true)
def kt8 : Nat → FieldType := fun k => match k with
  | 0 => .int
  | 1 => .array .int
  | 2 => .array .int
  | 3 => .array .int
  | 4 => .array .int
  | 5 => .array .boolean
  | 6 => .array .int
  | 7 => .array .int
  | 8 => .int
  | 9 => .int
  | 10 => .array .int
  | 11 => .array .int
  | 12 => .array .int
  | 13 => .array .int
  | 14 => .array .int
  | 15 => .array .int
  | 16 => .array .int
  | 17 => .int
  | 18 => .int
  | 19 => .int
  | 20 => .int
  | 21 => .array .int
  | 22 => .array .int
  | 23 => .array .int
  | 24 => .int
  | 25 => .array .int
  | 26 => .int
  | 27 => .array .int
  | 28 => .array .int
  | 29 => .array .int
  | 30 => .int
  | 31 => .int
  | 32 => .int
  | 33 => .boolean
  | 34 => .array .boolean
  | 35 => .array .int
  | 36 => .array .boolean
  | _ => .array .int
theorem knm8 : ∀ a, a < 38 → ∀ b, b < 38 → a ≠ b → (kT8 a).2.1 ≠ (kT8 b).2.1 := by decide +kernel
theorem kty8 : ∀ k, k < 38 → parseFieldDescriptor (kT8 k).2.2.1 = some (kt8 k) := by decide +kernel
set_option maxRecDepth 20000 in
theorem kin8 : ∀ w ∈ u_ws kR8 kT8 38, w ∈ lw_tbl := by decide +kernel
abbrev kcl : List vw_C := [(kR0, kT0, 8), (kR1, kT1, 8), (kR2, kT2, 3), (kR3, kT3, 15), (kR4, kT4, 8), (kR5, kT5, 8), (kR6, kT6, 6), (kR7, kT7, 5), (kR8, kT8, 38)]
def kyl : List MethodName := [⟨"SequentKernel$Types", "store", "(III)I"⟩, ⟨"SequentKernel$Numbers", "numberOf", "(I)I"⟩, ⟨"SequentKernel", "typeVariable", "(I)I"⟩, ⟨"SequentKernel", "answeredType", "(I)I"⟩, ⟨"SequentKernel", "settled", "(I)I"⟩, ⟨"SequentKernel$Types", "settle", "(Z)V"⟩, ⟨"SequentKernel$Terms", "settle", "(Z)V"⟩, ⟨"SequentKernel$Facts", "settle", "(Z)V"⟩, ⟨"SequentKernel", "arrow", "(II)I"⟩, ⟨"SequentKernel$Numbers", "placeOf", "(I)I"⟩, ⟨"SequentKernel", "variable", "(II)I"⟩, ⟨"SequentKernel$Terms", "store", "(IIII)I"⟩, ⟨"SequentKernel", "answeredTerm", "(I)I"⟩, ⟨"SequentKernel", "equality", "(I)I"⟩, ⟨"SequentKernel$Terms", "equalityOf", "(I)I"⟩, ⟨"SequentKernel", "apply", "(II)I"⟩, ⟨"SequentKernel$Terms", "application", "(II)I"⟩, ⟨"SequentKernel$Types", "isArrowFrom", "(II)Z"⟩, ⟨"SequentKernel", "lambda", "(II)I"⟩, ⟨"SequentKernel$Change", "abstracted", "(II)I"⟩, ⟨"SequentKernel$Terms", "sortAt", "(I)I"⟩, ⟨"SequentKernel$Change", "begin", "(III)V"⟩, ⟨"SequentKernel$Change", "changed", "(III)I"⟩, ⟨"SequentKernel$Change", "madeAnew", "(III)I"⟩, ⟨"SequentKernel$Change", "stands", "(II)Z"⟩, ⟨"SequentKernel$Change", "retyped", "(II)I"⟩, ⟨"SequentKernel$Change", "retypedParts", "(II)I"⟩, ⟨"SequentKernel$Terms", "abstraction", "(II)I"⟩, ⟨"SequentKernel", "rule", "(IIII)I"⟩, ⟨"SequentKernel$Rules", "refer", "(II)V"⟩, ⟨"SequentKernel$Rules", "make", "(IIII)I"⟩, ⟨"SequentKernel$Facts", "open", "()V"⟩, ⟨"SequentKernel$Rules", "termAt", "(I)I"⟩, ⟨"SequentKernel$Rules", "reflexivity", "(I)I"⟩, ⟨"SequentKernel$Terms", "equation", "(II)I"⟩, ⟨"SequentKernel$Terms", "typeAt", "(I)I"⟩, ⟨"SequentKernel$Facts", "close", "(I)I"⟩, ⟨"SequentKernel$Rules", "factAt", "(I)I"⟩, ⟨"SequentKernel$Facts", "size", "()I"⟩, ⟨"SequentKernel$Rules", "transitivity", "(II)I"⟩, ⟨"SequentKernel$Rules", "leftOf", "(I)I"⟩, ⟨"SequentKernel$Facts", "conclusionOf", "(I)I"⟩, ⟨"SequentKernel$Facts", "isFact", "(I)Z"⟩, ⟨"SequentKernel$Terms", "leftOf", "(I)I"⟩, ⟨"SequentKernel$Terms", "functionOf", "(I)I"⟩, ⟨"SequentKernel$Rules", "rightOf", "(I)I"⟩, ⟨"SequentKernel$Terms", "argumentOf", "(I)I"⟩, ⟨"SequentKernel$Rules", "closeWithBoth", "(III)I"⟩, ⟨"SequentKernel$Facts", "assumeAllBut", "(II)V"⟩, ⟨"SequentKernel$Facts", "sizeOf", "(I)I"⟩, ⟨"SequentKernel$Facts", "hypothesis", "(II)I"⟩, ⟨"SequentKernel$Facts", "assume", "(I)V"⟩, ⟨"SequentKernel$Rules", "congruence", "(II)I"⟩, ⟨"SequentKernel$Rules", "underAbstraction", "(II)I"⟩, ⟨"SequentKernel$Rules", "isAssumedOf", "(II)Z"⟩, ⟨"SequentKernel$Terms", "mark", "(I)V"⟩, ⟨"SequentKernel$Terms", "hasParts", "(I)Z"⟩, ⟨"SequentKernel$Rules", "opening", "(I)I"⟩, ⟨"SequentKernel$Change", "opened", "(II)I"⟩, ⟨"SequentKernel$Rules", "assumption", "(I)I"⟩, ⟨"SequentKernel$Rules", "equalTruth", "(II)I"⟩, ⟨"SequentKernel$Rules", "equivalence", "(II)I"⟩, ⟨"SequentKernel$Rules", "beginsWithTerm", "(II)Z"⟩, ⟨"SequentKernel$Rules", "instance", "(IZ)I"⟩, ⟨"SequentKernel$Change", "of", "(I)I"⟩, ⟨"SequentKernel$Rules", "typeAt", "(I)I"⟩, ⟨"SequentKernel$Rules", "beginsWithType", "(II)Z"⟩, ⟨"SequentKernel$Types", "isVariable", "(I)Z"⟩, ⟨"SequentKernel$Rules", "rewriting", "(II)I"⟩, ⟨"SequentKernel", "define", "(I)I"⟩, ⟨"SequentKernel$Terms", "isFixed", "(I)Z"⟩, ⟨"SequentKernel", "defineType", "(I)I"⟩, ⟨"SequentKernel", "newTypeFacts", "(II)I"⟩, ⟨"SequentKernel", "line", "(IIII)I"⟩, ⟨"SequentKernel$Rules", "has", "(I)Z"⟩, ⟨"SequentKernel$Trace", "add", "(IIII)I"⟩, ⟨"SequentKernel", "clear", "()I"⟩, ⟨"SequentKernel$Trace", "empty", "()I"⟩, ⟨"SequentKernel", "replay", "()I"⟩, ⟨"SequentKernel$Trace", "size", "()I"⟩, ⟨"SequentKernel", "typeOf", "(I)I"⟩, ⟨"SequentKernel", "kind", "(I)I"⟩, ⟨"SequentKernel", "part", "(II)I"⟩, ⟨"SequentKernel", "free", "(II)Z"⟩, ⟨"SequentKernel", "conclusion", "(I)I"⟩, ⟨"SequentKernel", "hypotheses", "(I)I"⟩, ⟨"SequentKernel", "assumes", "(II)Z"⟩, ⟨"SequentKernel$Facts", "has", "(II)Z"⟩, ⟨"SequentKernel", "count", "(I)I"⟩, ⟨"SequentKernel$Terms", "size", "()I"⟩, ⟨"SequentKernel$Types", "size", "()I"⟩, ⟨"SequentKernel$Numbers", "size", "()I"⟩, ⟨"SequentKernelModel", "typeVariable", "(I)I"⟩, ⟨"SequentKernelModel", "begin", "()V"⟩, ⟨"SequentKernelModel", "type", "(III)I"⟩, ⟨"SequentKernelModel", "answerType", "(I)I"⟩, ⟨"SequentKernelModel", "stays", "()Z"⟩, ⟨"SequentKernelModel", "numberOfType", "(I)I"⟩, ⟨"SequentKernelModel", "arrow", "(II)I"⟩, ⟨"SequentKernelModel", "isType", "(I)Z"⟩, ⟨"SequentKernelModel", "variable", "(II)I"⟩, ⟨"SequentKernelModel", "term", "(IIII)I"⟩, ⟨"SequentKernelModel", "answer", "(I)I"⟩, ⟨"SequentKernelModel", "numberOf", "(I)I"⟩, ⟨"SequentKernelModel", "equality", "(I)I"⟩, ⟨"SequentKernelModel", "same", "(I)I"⟩, ⟨"SequentKernelModel", "apply", "(II)I"⟩, ⟨"SequentKernelModel", "isTerm", "(I)Z"⟩, ⟨"SequentKernelModel", "fits", "(II)Z"⟩, ⟨"SequentKernelModel", "application", "(II)I"⟩, ⟨"SequentKernelModel", "lambda", "(II)I"⟩, ⟨"SequentKernelModel", "closedOver", "(II)I"⟩, ⟨"SequentKernelModel", "changed", "(IIII)I"⟩, ⟨"SequentKernelModel", "mark", "(III)V"⟩, ⟨"SequentKernelModel", "become", "(IIIII)I"⟩, ⟨"SequentKernelModel", "retyped", "(III)I"⟩, ⟨"SequentKernelModel", "abstraction", "(II)I"⟩, ⟨"SequentKernelModel", "rule", "(IIII)I"⟩, ⟨"SequentKernelModel", "derive", "(IIII)I"⟩, ⟨"SequentKernelModel", "takesFact", "(II)Z"⟩, ⟨"SequentKernelModel", "isFact", "(I)Z"⟩, ⟨"SequentKernelModel", "equal", "(III)I"⟩, ⟨"SequentKernelModel", "equation", "(II)I"⟩, ⟨"SequentKernelModel", "isEquation", "(I)Z"⟩, ⟨"SequentKernelModel", "has", "(II)Z"⟩, ⟨"SequentKernelModel", "assumeAll", "(II)V"⟩, ⟨"SequentKernelModel", "assume", "(I)V"⟩, ⟨"SequentKernelModel", "left", "(I)I"⟩, ⟨"SequentKernelModel", "logical", "(III)I"⟩, ⟨"SequentKernelModel", "replacing", "(IIII)I"⟩, ⟨"SequentKernelModel", "fact", "(I)I"⟩, ⟨"SequentKernelModel", "define", "(I)I"⟩, ⟨"SequentKernelModel", "closed", "(I)Z"⟩, ⟨"SequentKernelModel", "defineType", "(I)I"⟩, ⟨"SequentKernelModel", "around", "(III)I"⟩, ⟨"SequentKernelModel", "line", "(IIII)I"⟩, ⟨"SequentKernelModel", "clear", "()I"⟩, ⟨"SequentKernelModel", "replay", "()I"⟩, ⟨"SequentKernelModel", "meant", "(II)I"⟩, ⟨"SequentKernelModel", "typeOf", "(I)I"⟩, ⟨"SequentKernelModel", "kind", "(I)I"⟩, ⟨"SequentKernelModel", "part", "(II)I"⟩, ⟨"SequentKernelModel", "free", "(II)Z"⟩, ⟨"SequentKernelModel", "conclusion", "(I)I"⟩, ⟨"SequentKernelModel", "hypotheses", "(I)I"⟩, ⟨"SequentKernelModel", "assumes", "(II)Z"⟩, ⟨"SequentKernelModel", "count", "(I)I"⟩]
def kbyl : List ByteArray := [prog_8_method_6_code, prog_4_method_4_code, prog_1_method_2_code, prog_1_method_23_code, prog_1_method_25_code, prog_8_method_3_code, prog_6_method_3_code, prog_3_method_3_code, prog_1_method_3_code, prog_4_method_3_code, prog_1_method_4_code, prog_6_method_16_code, prog_1_method_24_code, prog_1_method_5_code, prog_6_method_12_code, prog_1_method_6_code, prog_6_method_13_code, prog_8_method_5_code, prog_1_method_7_code, prog_2_method_3_code, prog_6_method_4_code, prog_2_method_2_code, prog_2_method_6_code, prog_2_method_7_code, prog_2_method_8_code, prog_2_method_9_code, prog_2_method_10_code, prog_6_method_14_code, prog_1_method_8_code, prog_5_method_3_code, prog_5_method_4_code, prog_3_method_9_code, prog_5_method_5_code, prog_5_method_11_code, prog_6_method_15_code, prog_6_method_5_code, prog_3_method_12_code, prog_5_method_7_code, prog_3_method_2_code, prog_5_method_12_code, prog_5_method_8_code, prog_3_method_5_code, prog_3_method_4_code, prog_6_method_8_code, prog_6_method_6_code, prog_5_method_9_code, prog_6_method_7_code, prog_5_method_10_code, prog_3_method_11_code, prog_3_method_6_code, prog_3_method_7_code, prog_3_method_10_code, prog_5_method_13_code, prog_5_method_14_code, prog_5_method_15_code, prog_6_method_11_code, prog_6_method_10_code, prog_5_method_16_code, prog_2_method_4_code, prog_5_method_17_code, prog_5_method_18_code, prog_5_method_19_code, prog_5_method_20_code, prog_5_method_22_code, prog_2_method_5_code, prog_5_method_6_code, prog_5_method_21_code, prog_8_method_4_code, prog_5_method_23_code, prog_1_method_9_code, prog_6_method_9_code, prog_1_method_10_code, prog_1_method_22_code, prog_1_method_11_code, prog_5_method_2_code, prog_7_method_3_code, prog_1_method_12_code, prog_7_method_4_code, prog_1_method_13_code, prog_7_method_2_code, prog_1_method_14_code, prog_1_method_15_code, prog_1_method_16_code, prog_1_method_17_code, prog_1_method_18_code, prog_1_method_19_code, prog_1_method_20_code, prog_3_method_8_code, prog_1_method_21_code, prog_6_method_2_code, prog_8_method_2_code, prog_4_method_2_code, prog_10_method_25_code, prog_10_method_21_code, prog_10_method_2_code, prog_10_method_23_code, prog_10_method_22_code, prog_10_method_3_code, prog_10_method_26_code, prog_10_method_4_code, prog_10_method_27_code, prog_10_method_5_code, prog_10_method_24_code, prog_10_method_6_code, prog_10_method_28_code, prog_10_method_8_code, prog_10_method_29_code, prog_10_method_7_code, prog_10_method_12_code, prog_10_method_9_code, prog_10_method_30_code, prog_10_method_31_code, prog_10_method_17_code, prog_10_method_16_code, prog_10_method_18_code, prog_10_method_15_code, prog_10_method_10_code, prog_10_method_41_code, prog_10_method_37_code, prog_10_method_36_code, prog_10_method_32_code, prog_10_method_38_code, prog_10_method_11_code, prog_10_method_13_code, prog_10_method_19_code, prog_10_method_34_code, prog_10_method_33_code, prog_10_method_14_code, prog_10_method_39_code, prog_10_method_40_code, prog_10_method_35_code, prog_10_method_42_code, prog_10_method_20_code, prog_10_method_43_code, prog_10_method_44_code, prog_10_method_45_code, prog_10_method_46_code, prog_10_method_48_code, prog_10_method_47_code, prog_10_method_49_code, prog_10_method_50_code, prog_10_method_51_code, prog_10_method_52_code, prog_10_method_53_code, prog_10_method_54_code, prog_10_method_55_code, prog_10_method_56_code]
def krtl : List (Option FieldType) := [some .int, some .int, some .int, some .int, some .int, none, none, none, some .int, some .int, some .int, some .int, some .int, some .int, some .int, some .int, some .int, some .boolean, some .int, some .int, some .int, none, some .int, some .int, some .boolean, some .int, some .int, some .int, some .int, none, some .int, none, some .int, some .int, some .int, some .int, some .int, some .int, some .int, some .int, some .int, some .int, some .boolean, some .int, some .int, some .int, some .int, some .int, none, some .int, some .int, none, some .int, some .int, some .boolean, none, some .boolean, some .int, some .int, some .int, some .int, some .int, some .boolean, some .int, some .int, some .int, some .boolean, some .boolean, some .int, some .int, some .boolean, some .int, some .int, some .int, some .boolean, some .int, some .int, some .int, some .int, some .int, some .int, some .int, some .int, some .boolean, some .int, some .int, some .boolean, some .boolean, some .int, some .int, some .int, some .int, some .int, none, some .int, some .int, some .boolean, some .int, some .int, some .boolean, some .int, some .int, some .int, some .int, some .int, some .int, some .int, some .boolean, some .boolean, some .int, some .int, some .int, some .int, none, some .int, some .int, some .int, some .int, some .int, some .boolean, some .boolean, some .int, some .int, some .boolean, some .boolean, none, none, some .int, some .int, some .int, some .int, some .int, some .boolean, some .int, some .int, some .int, some .int, some .int, some .int, some .int, some .int, some .int, some .boolean, some .int, some .int, some .boolean, some .int]
def karl : List Nat := [4, 2, 2, 2, 2, 2, 2, 2, 3, 2, 3, 5, 2, 2, 2, 3, 3, 3, 3, 3, 2, 4, 4, 4, 3, 3, 3, 3, 5, 3, 5, 1, 2, 2, 3, 2, 2, 2, 1, 3, 2, 2, 2, 2, 2, 2, 2, 4, 3, 2, 3, 2, 3, 3, 3, 2, 2, 2, 3, 2, 3, 3, 3, 3, 2, 2, 3, 2, 3, 2, 2, 2, 3, 5, 2, 5, 1, 1, 1, 1, 2, 2, 3, 3, 2, 2, 3, 3, 2, 1, 1, 1, 2, 1, 4, 2, 1, 2, 3, 2, 3, 5, 2, 2, 2, 2, 3, 2, 3, 3, 3, 3, 5, 4, 6, 4, 3, 5, 5, 2, 2, 4, 3, 2, 3, 3, 2, 2, 4, 5, 2, 2, 2, 2, 4, 5, 1, 1, 3, 2, 2, 3, 3, 2, 2, 3, 2]
def ky (μ : Nat) : MethodName := kix ⟨"", "", ""⟩ kyl μ
def kby (μ : Nat) : ByteArray := kix ⟨#[]⟩ kbyl μ
def krt (μ : Nat) : Option FieldType := kix none krtl μ
def kar (μ : Nat) : Nat := kix 0 karl μ
