/-! printed: words and instructions of the constructors -/
theorem kdf0 : ∀ j, j < 8 → defaultValue (kt0 j) = vp_V [.null, .null, .null, .null, .null, .null, .int 0, .int 0] j := by
  intro j hj
  rcases (show j = 0 ∨ j = 1 ∨ j = 2 ∨ j = 3 ∨ j = 4 ∨ j = 5 ∨ j = 6 ∨ j = 7 by omega) with rfl | rfl | rfl | rfl | rfl | rfl | rfl | rfl <;> rfl
theorem kdf1 : ∀ j, j < 8 → defaultValue (kt1 j) = vp_V [.null, .null, .null, .null, .null, .null, .int 0, .int 0] j := by
  intro j hj
  rcases (show j = 0 ∨ j = 1 ∨ j = 2 ∨ j = 3 ∨ j = 4 ∨ j = 5 ∨ j = 6 ∨ j = 7 by omega) with rfl | rfl | rfl | rfl | rfl | rfl | rfl | rfl <;> rfl
theorem kdf2 : ∀ j, j < 3 → defaultValue (kt2 j) = vp_V [.null, .null, .int 0] j := by
  intro j hj
  rcases (show j = 0 ∨ j = 1 ∨ j = 2 by omega) with rfl | rfl | rfl <;> rfl
theorem kdf3 : ∀ j, j < 15 → defaultValue (kt3 j) = vp_V [.null, .null, .null, .null, .null, .null, .null, .null, .null, .null, .null, .null, .null, .int 0, .int 0] j := by
  intro j hj
  rcases (show j = 0 ∨ j = 1 ∨ j = 2 ∨ j = 3 ∨ j = 4 ∨ j = 5 ∨ j = 6 ∨ j = 7 ∨ j = 8 ∨ j = 9 ∨ j = 10 ∨ j = 11 ∨ j = 12 ∨ j = 13 ∨ j = 14 by omega) with rfl | rfl | rfl | rfl | rfl | rfl | rfl | rfl | rfl | rfl | rfl | rfl | rfl | rfl | rfl <;> rfl
theorem kdf4 : ∀ j, j < 8 → defaultValue (kt4 j) = vp_V [.null, .null, .null, .null, .int 0, .int 0, .int 0, .int 0] j := by
  intro j hj
  rcases (show j = 0 ∨ j = 1 ∨ j = 2 ∨ j = 3 ∨ j = 4 ∨ j = 5 ∨ j = 6 ∨ j = 7 by omega) with rfl | rfl | rfl | rfl | rfl | rfl | rfl | rfl <;> rfl
theorem kdf5 : ∀ j, j < 8 → defaultValue (kt5 j) = vp_V [.null, .null, .null, .null, .int 0, .int 0, .int 0, .int 0] j := by
  intro j hj
  rcases (show j = 0 ∨ j = 1 ∨ j = 2 ∨ j = 3 ∨ j = 4 ∨ j = 5 ∨ j = 6 ∨ j = 7 by omega) with rfl | rfl | rfl | rfl | rfl | rfl | rfl | rfl <;> rfl
theorem kdf6 : ∀ j, j < 6 → defaultValue (kt6 j) = vp_V [.null, .null, .null, .null, .int 0, .int 0] j := by
  intro j hj
  rcases (show j = 0 ∨ j = 1 ∨ j = 2 ∨ j = 3 ∨ j = 4 ∨ j = 5 by omega) with rfl | rfl | rfl | rfl | rfl | rfl <;> rfl
theorem kdf7 : ∀ j, j < 5 → defaultValue (kt7 j) = vp_V [.null, .null, .null, .null, .int 0] j := by
  intro j hj
  rcases (show j = 0 ∨ j = 1 ∨ j = 2 ∨ j = 3 ∨ j = 4 by omega) with rfl | rfl | rfl | rfl | rfl <;> rfl
theorem kdf8 : ∀ j, j < 38 → defaultValue (kt8 j) = vp_V [.int 0, .null, .null, .null, .null, .null, .null, .null, .int 0, .int 0, .null, .null, .null, .null, .null, .null, .null, .int 0, .int 0, .int 0, .int 0, .null, .null, .null, .int 0, .null, .int 0, .null, .null, .null, .int 0, .int 0, .int 0, .int 0, .null, .null, .null, .null] j := by
  intro j hj
  rcases (show j = 0 ∨ j = 1 ∨ j = 2 ∨ j = 3 ∨ j = 4 ∨ j = 5 ∨ j = 6 ∨ j = 7 ∨ j = 8 ∨ j = 9 ∨ j = 10 ∨ j = 11 ∨ j = 12 ∨ j = 13 ∨ j = 14 ∨ j = 15 ∨ j = 16 ∨ j = 17 ∨ j = 18 ∨ j = 19 ∨ j = 20 ∨ j = 21 ∨ j = 22 ∨ j = 23 ∨ j = 24 ∨ j = 25 ∨ j = 26 ∨ j = 27 ∨ j = 28 ∨ j = 29 ∨ j = 30 ∨ j = 31 ∨ j = 32 ∨ j = 33 ∨ j = 34 ∨ j = 35 ∨ j = 36 ∨ j = 37 by omega) with rfl | rfl | rfl | rfl | rfl | rfl | rfl | rfl | rfl | rfl | rfl | rfl | rfl | rfl | rfl | rfl | rfl | rfl | rfl | rfl | rfl | rfl | rfl | rfl | rfl | rfl | rfl | rfl | rfl | rfl | rfl | rfl | rfl | rfl | rfl | rfl | rfl | rfl <;> rfl
theorem kv_0 : Cond.methodLink kR0 1 Lib.objectInit ∈ kwl := kwl_in (List.mem_of_getElem? (i := 81) (by decide +kernel)) rfl
theorem kv_1 : Cond.instanceMethod Lib.objectInit ∈ kwl := kwl_in (List.mem_of_getElem? (i := 82) (by decide +kernel)) rfl
theorem kv_2 : Cond.code Lib.objectInit ⟨#[0xb1]⟩ 1 none ∈ kwl := kwl_in (List.mem_of_getElem? (i := 83) (by decide +kernel)) rfl
theorem kv_3 : Cond.classLink kR0 7 kR1 ∈ kwl := kwl_in (List.mem_of_getElem? (i := 84) (by decide +kernel)) rfl
theorem kv_4 : Cond.instantiable kR1 8 ∈ kwl := kwl_in (List.mem_of_getElem? (i := 85) (by decide +kernel)) rfl
theorem kv_5 : Cond.initialized kR1 ∈ kwl := kwl_in (List.mem_of_getElem? (i := 65) (by decide +kernel)) rfl
theorem kv_6 : Cond.methodLink kR1 3 Lib.objectInit ∈ kwl := kwl_in (List.mem_of_getElem? (i := 89) (by decide +kernel)) rfl
theorem kv_7 : Cond.classLink kR1 9 kR2 ∈ kwl := kwl_in (List.mem_of_getElem? (i := 90) (by decide +kernel)) rfl
theorem kv_8 : Cond.instantiable kR2 3 ∈ kwl := kwl_in (List.mem_of_getElem? (i := 91) (by decide +kernel)) rfl
theorem kv_9 : Cond.initialized kR2 ∈ kwl := kwl_in (List.mem_of_getElem? (i := 66) (by decide +kernel)) rfl
theorem kv_10 : Cond.methodLink kR2 3 Lib.objectInit ∈ kwl := kwl_in (List.mem_of_getElem? (i := 95) (by decide +kernel)) rfl
theorem kv_11 : Cond.arrayClass .int ∈ kwl := kwl_in (List.mem_of_getElem? (i := 109) (by decide +kernel)) rfl
theorem kv_12 : Cond.fieldLink kR2 9 "SequentKernel$Numbers" "place" "[I" ∈ kwl := kwl_in (List.mem_of_getElem? (i := 99) (by decide +kernel)) rfl
theorem kv_13 : Cond.fieldLink kR2 15 "SequentKernel$Numbers" "number" "[I" ∈ kwl := kwl_in (List.mem_of_getElem? (i := 100) (by decide +kernel)) rfl
theorem kv_14 : Cond.code ⟨"java/util/Arrays", "fill", "([II)V"⟩ prog_13_method_103_code 4 none ∈ kwl := kwl_in (List.mem_of_getElem? (i := 98) (by decide +kernel)) rfl
theorem kv_15 : Cond.initialized "java/util/Arrays" ∈ kwl := kwl_in (List.mem_of_getElem? (i := 67) (by decide +kernel)) rfl
theorem kv_16 : Cond.methodLink kR2 18 ⟨"java/util/Arrays", "fill", "([II)V"⟩ ∈ kwl := kwl_in (List.mem_of_getElem? (i := 96) (by decide +kernel)) rfl
theorem kv_17 : Cond.static ⟨"java/util/Arrays", "fill", "([II)V"⟩ ∈ kwl := kwl_in (List.mem_of_getElem? (i := 97) (by decide +kernel)) rfl
theorem kv_18 : Cond.code ⟨"SequentKernel$Numbers", "<init>", "(I)V"⟩ prog_4_method_1_code 2 none ∈ kwl := kwl_in (List.mem_of_getElem? (i := 94) (by decide +kernel)) rfl
theorem kv_19 : Cond.methodLink kR1 13 ⟨"SequentKernel$Numbers", "<init>", "(I)V"⟩ ∈ kwl := kwl_in (List.mem_of_getElem? (i := 92) (by decide +kernel)) rfl
theorem kv_20 : Cond.instanceMethod ⟨"SequentKernel$Numbers", "<init>", "(I)V"⟩ ∈ kwl := kwl_in (List.mem_of_getElem? (i := 93) (by decide +kernel)) rfl
theorem kv_21 : Cond.fieldLink kR1 16 "SequentKernel$Types" "numbers" "LSequentKernel$Numbers;" ∈ kwl := kwl_in (List.mem_of_getElem? (i := 121) (by decide +kernel)) rfl
theorem kv_22 : Cond.fieldLink kR1 20 "SequentKernel$Types" "sort" "[I" ∈ kwl := kwl_in (List.mem_of_getElem? (i := 124) (by decide +kernel)) rfl
theorem kv_23 : Cond.fieldLink kR1 24 "SequentKernel$Types" "first" "[I" ∈ kwl := kwl_in (List.mem_of_getElem? (i := 126) (by decide +kernel)) rfl
theorem kv_24 : Cond.fieldLink kR1 27 "SequentKernel$Types" "second" "[I" ∈ kwl := kwl_in (List.mem_of_getElem? (i := 128) (by decide +kernel)) rfl
theorem kv_25 : Cond.arrayClass .boolean ∈ kwl := kwl_in (List.mem_of_getElem? (i := 154) (by decide +kernel)) rfl
theorem kv_26 : Cond.fieldLink kR1 30 "SequentKernel$Types" "general" "[Z" ∈ kwl := kwl_in (List.mem_of_getElem? (i := 131) (by decide +kernel)) rfl
theorem kv_27 : Cond.fieldLink kR1 34 "SequentKernel$Types" "height" "[I" ∈ kwl := kwl_in (List.mem_of_getElem? (i := 134) (by decide +kernel)) rfl
theorem kv_28 : Cond.fieldLink kR1 45 "SequentKernel$Types" "count" "I" ∈ kwl := kwl_in (List.mem_of_getElem? (i := 135) (by decide +kernel)) rfl
theorem kv_29 : Cond.methodLink kR1 37 ⟨"SequentKernel$Types", "store", "(III)I"⟩ ∈ kwl := kwl_in (List.mem_of_getElem? (i := 110) (by decide +kernel)) rfl
theorem kv_30 : Cond.fieldLink kR2 24 "SequentKernel$Numbers" "count" "I" ∈ kwl := kwl_in (List.mem_of_getElem? (i := 101) (by decide +kernel)) rfl
theorem kv_31 : Cond.methodLink kR1 41 ⟨"SequentKernel$Numbers", "numberOf", "(I)I"⟩ ∈ kwl := kwl_in (List.mem_of_getElem? (i := 117) (by decide +kernel)) rfl
theorem kv_32 : Cond.fieldLink kR1 49 "SequentKernel$Types" "kept" "I" ∈ kwl := kwl_in (List.mem_of_getElem? (i := 136) (by decide +kernel)) rfl
theorem kv_33 : Cond.code ⟨"SequentKernel$Types", "<init>", "()V"⟩ prog_8_method_1_code 1 none ∈ kwl := kwl_in (List.mem_of_getElem? (i := 88) (by decide +kernel)) rfl
theorem kv_34 : Cond.methodLink kR0 9 ⟨"SequentKernel$Types", "<init>", "()V"⟩ ∈ kwl := kwl_in (List.mem_of_getElem? (i := 86) (by decide +kernel)) rfl
theorem kv_35 : Cond.instanceMethod ⟨"SequentKernel$Types", "<init>", "()V"⟩ ∈ kwl := kwl_in (List.mem_of_getElem? (i := 87) (by decide +kernel)) rfl
theorem kv_36 : Cond.fieldLink kR0 10 "SequentKernel" "types" "LSequentKernel$Types;" ∈ kwl := kwl_in (List.mem_of_getElem? (i := 335) (by decide +kernel)) rfl
theorem kv_37 : Cond.classLink kR0 16 kR3 ∈ kwl := kwl_in (List.mem_of_getElem? (i := 155) (by decide +kernel)) rfl
theorem kv_38 : Cond.instantiable kR3 15 ∈ kwl := kwl_in (List.mem_of_getElem? (i := 156) (by decide +kernel)) rfl
theorem kv_39 : Cond.initialized kR3 ∈ kwl := kwl_in (List.mem_of_getElem? (i := 69) (by decide +kernel)) rfl
theorem kv_40 : Cond.methodLink kR3 3 Lib.objectInit ∈ kwl := kwl_in (List.mem_of_getElem? (i := 160) (by decide +kernel)) rfl
theorem kv_41 : Cond.classLink kR3 9 kR2 ∈ kwl := kwl_in (List.mem_of_getElem? (i := 161) (by decide +kernel)) rfl
theorem kv_42 : Cond.methodLink kR3 13 ⟨"SequentKernel$Numbers", "<init>", "(I)V"⟩ ∈ kwl := kwl_in (List.mem_of_getElem? (i := 162) (by decide +kernel)) rfl
theorem kv_43 : Cond.fieldLink kR3 16 "SequentKernel$Terms" "numbers" "LSequentKernel$Numbers;" ∈ kwl := kwl_in (List.mem_of_getElem? (i := 164) (by decide +kernel)) rfl
theorem kv_44 : Cond.fieldLink kR3 20 "SequentKernel$Terms" "sort" "[I" ∈ kwl := kwl_in (List.mem_of_getElem? (i := 167) (by decide +kernel)) rfl
theorem kv_45 : Cond.fieldLink kR3 24 "SequentKernel$Terms" "first" "[I" ∈ kwl := kwl_in (List.mem_of_getElem? (i := 169) (by decide +kernel)) rfl
theorem kv_46 : Cond.fieldLink kR3 27 "SequentKernel$Terms" "second" "[I" ∈ kwl := kwl_in (List.mem_of_getElem? (i := 172) (by decide +kernel)) rfl
theorem kv_47 : Cond.fieldLink kR3 30 "SequentKernel$Terms" "type" "[I" ∈ kwl := kwl_in (List.mem_of_getElem? (i := 175) (by decide +kernel)) rfl
theorem kv_48 : Cond.fieldLink kR3 33 "SequentKernel$Terms" "general" "[Z" ∈ kwl := kwl_in (List.mem_of_getElem? (i := 178) (by decide +kernel)) rfl
theorem kv_49 : Cond.fieldLink kR3 37 "SequentKernel$Terms" "marked" "[Z" ∈ kwl := kwl_in (List.mem_of_getElem? (i := 180) (by decide +kernel)) rfl
theorem kv_50 : Cond.fieldLink kR3 40 "SequentKernel$Terms" "anyFree" "[Z" ∈ kwl := kwl_in (List.mem_of_getElem? (i := 183) (by decide +kernel)) rfl
theorem kv_51 : Cond.fieldLink kR3 43 "SequentKernel$Terms" "height" "[I" ∈ kwl := kwl_in (List.mem_of_getElem? (i := 184) (by decide +kernel)) rfl
theorem kv_52 : Cond.fieldLink kR3 46 "SequentKernel$Terms" "newest" "[I" ∈ kwl := kwl_in (List.mem_of_getElem? (i := 185) (by decide +kernel)) rfl
theorem kv_53 : Cond.fieldLink kR3 49 "SequentKernel$Terms" "older" "[I" ∈ kwl := kwl_in (List.mem_of_getElem? (i := 186) (by decide +kernel)) rfl
theorem kv_54 : Cond.fieldLink kR3 52 "SequentKernel$Terms" "bucket" "[I" ∈ kwl := kwl_in (List.mem_of_getElem? (i := 187) (by decide +kernel)) rfl
theorem kv_55 : Cond.fieldLink kR3 55 "SequentKernel$Terms" "types" "LSequentKernel$Types;" ∈ kwl := kwl_in (List.mem_of_getElem? (i := 188) (by decide +kernel)) rfl
theorem kv_56 : Cond.methodLink kR3 59 ⟨"java/util/Arrays", "fill", "([II)V"⟩ ∈ kwl := kwl_in (List.mem_of_getElem? (i := 163) (by decide +kernel)) rfl
theorem kv_57 : Cond.code ⟨"SequentKernel$Terms", "<init>", "(LSequentKernel$Types;)V"⟩ prog_6_method_1_code 2 none ∈ kwl := kwl_in (List.mem_of_getElem? (i := 159) (by decide +kernel)) rfl
theorem kv_58 : Cond.methodLink kR0 18 ⟨"SequentKernel$Terms", "<init>", "(LSequentKernel$Types;)V"⟩ ∈ kwl := kwl_in (List.mem_of_getElem? (i := 157) (by decide +kernel)) rfl
theorem kv_59 : Cond.instanceMethod ⟨"SequentKernel$Terms", "<init>", "(LSequentKernel$Types;)V"⟩ ∈ kwl := kwl_in (List.mem_of_getElem? (i := 158) (by decide +kernel)) rfl
theorem kv_60 : Cond.fieldLink kR0 21 "SequentKernel" "terms" "LSequentKernel$Terms;" ∈ kwl := kwl_in (List.mem_of_getElem? (i := 336) (by decide +kernel)) rfl
theorem kv_61 : Cond.classLink kR0 25 kR4 ∈ kwl := kwl_in (List.mem_of_getElem? (i := 222) (by decide +kernel)) rfl
theorem kv_62 : Cond.instantiable kR4 8 ∈ kwl := kwl_in (List.mem_of_getElem? (i := 223) (by decide +kernel)) rfl
theorem kv_63 : Cond.initialized kR4 ∈ kwl := kwl_in (List.mem_of_getElem? (i := 70) (by decide +kernel)) rfl
theorem kv_64 : Cond.methodLink kR4 3 Lib.objectInit ∈ kwl := kwl_in (List.mem_of_getElem? (i := 227) (by decide +kernel)) rfl
theorem kv_65 : Cond.fieldLink kR4 11 "SequentKernel$Facts" "conclusion" "[I" ∈ kwl := kwl_in (List.mem_of_getElem? (i := 228) (by decide +kernel)) rfl
theorem kv_66 : Cond.fieldLink kR4 15 "SequentKernel$Facts" "size" "[I" ∈ kwl := kwl_in (List.mem_of_getElem? (i := 229) (by decide +kernel)) rfl
theorem kv_67 : Cond.fieldLink kR4 18 "SequentKernel$Facts" "hypotheses" "[I" ∈ kwl := kwl_in (List.mem_of_getElem? (i := 230) (by decide +kernel)) rfl
theorem kv_68 : Cond.fieldLink kR4 21 "SequentKernel$Facts" "draft" "[I" ∈ kwl := kwl_in (List.mem_of_getElem? (i := 231) (by decide +kernel)) rfl
theorem kv_69 : Cond.code ⟨"SequentKernel$Facts", "<init>", "()V"⟩ prog_3_method_1_code 1 none ∈ kwl := kwl_in (List.mem_of_getElem? (i := 226) (by decide +kernel)) rfl
theorem kv_70 : Cond.instanceMethod ⟨"SequentKernel$Facts", "<init>", "()V"⟩ ∈ kwl := kwl_in (List.mem_of_getElem? (i := 225) (by decide +kernel)) rfl
theorem kv_71 : Cond.fieldLink kR0 28 "SequentKernel" "facts" "LSequentKernel$Facts;" ∈ kwl := kwl_in (List.mem_of_getElem? (i := 337) (by decide +kernel)) rfl
theorem kv_72 : Cond.classLink kR0 32 kR5 ∈ kwl := kwl_in (List.mem_of_getElem? (i := 253) (by decide +kernel)) rfl
theorem kv_73 : Cond.instantiable kR5 8 ∈ kwl := kwl_in (List.mem_of_getElem? (i := 254) (by decide +kernel)) rfl
theorem kv_74 : Cond.initialized kR5 ∈ kwl := kwl_in (List.mem_of_getElem? (i := 71) (by decide +kernel)) rfl
theorem kv_75 : Cond.methodLink kR5 5 Lib.objectInit ∈ kwl := kwl_in (List.mem_of_getElem? (i := 258) (by decide +kernel)) rfl
theorem kv_76 : Cond.fieldLink kR5 13 "SequentKernel$Change" "termMemory" "[I" ∈ kwl := kwl_in (List.mem_of_getElem? (i := 261) (by decide +kernel)) rfl
theorem kv_77 : Cond.fieldLink kR5 19 "SequentKernel$Change" "typeMemory" "[I" ∈ kwl := kwl_in (List.mem_of_getElem? (i := 262) (by decide +kernel)) rfl
theorem kv_78 : Cond.fieldLink kR5 22 "SequentKernel$Change" "types" "LSequentKernel$Types;" ∈ kwl := kwl_in (List.mem_of_getElem? (i := 259) (by decide +kernel)) rfl
theorem kv_79 : Cond.fieldLink kR5 26 "SequentKernel$Change" "terms" "LSequentKernel$Terms;" ∈ kwl := kwl_in (List.mem_of_getElem? (i := 260) (by decide +kernel)) rfl
theorem kv_80 : Cond.code ⟨"SequentKernel$Change", "<init>", "(LSequentKernel$Types;LSequentKernel$Terms;)V"⟩ prog_2_method_1_code 3 none ∈ kwl := kwl_in (List.mem_of_getElem? (i := 257) (by decide +kernel)) rfl
theorem kv_81 : Cond.methodLink kR0 34 ⟨"SequentKernel$Change", "<init>", "(LSequentKernel$Types;LSequentKernel$Terms;)V"⟩ ∈ kwl := kwl_in (List.mem_of_getElem? (i := 255) (by decide +kernel)) rfl
theorem kv_82 : Cond.instanceMethod ⟨"SequentKernel$Change", "<init>", "(LSequentKernel$Types;LSequentKernel$Terms;)V"⟩ ∈ kwl := kwl_in (List.mem_of_getElem? (i := 256) (by decide +kernel)) rfl
theorem kv_83 : Cond.fieldLink kR0 37 "SequentKernel" "change" "LSequentKernel$Change;" ∈ kwl := kwl_in (List.mem_of_getElem? (i := 338) (by decide +kernel)) rfl
theorem kv_84 : Cond.classLink kR0 41 kR6 ∈ kwl := kwl_in (List.mem_of_getElem? (i := 284) (by decide +kernel)) rfl
theorem kv_85 : Cond.instantiable kR6 6 ∈ kwl := kwl_in (List.mem_of_getElem? (i := 285) (by decide +kernel)) rfl
theorem kv_86 : Cond.initialized kR6 ∈ kwl := kwl_in (List.mem_of_getElem? (i := 72) (by decide +kernel)) rfl
theorem kv_87 : Cond.methodLink kR6 3 Lib.objectInit ∈ kwl := kwl_in (List.mem_of_getElem? (i := 289) (by decide +kernel)) rfl
theorem kv_88 : Cond.fieldLink kR6 9 "SequentKernel$Rules" "types" "LSequentKernel$Types;" ∈ kwl := kwl_in (List.mem_of_getElem? (i := 290) (by decide +kernel)) rfl
theorem kv_89 : Cond.fieldLink kR6 15 "SequentKernel$Rules" "terms" "LSequentKernel$Terms;" ∈ kwl := kwl_in (List.mem_of_getElem? (i := 291) (by decide +kernel)) rfl
theorem kv_90 : Cond.fieldLink kR6 19 "SequentKernel$Rules" "facts" "LSequentKernel$Facts;" ∈ kwl := kwl_in (List.mem_of_getElem? (i := 292) (by decide +kernel)) rfl
theorem kv_91 : Cond.fieldLink kR6 23 "SequentKernel$Rules" "change" "LSequentKernel$Change;" ∈ kwl := kwl_in (List.mem_of_getElem? (i := 293) (by decide +kernel)) rfl
theorem kv_92 : Cond.code ⟨"SequentKernel$Rules", "<init>", "(LSequentKernel$Types;LSequentKernel$Terms;LSequentKernel$Facts;LSequentKernel$Change;)V"⟩ prog_5_method_1_code 5 none ∈ kwl := kwl_in (List.mem_of_getElem? (i := 288) (by decide +kernel)) rfl
theorem kv_93 : Cond.methodLink kR0 43 ⟨"SequentKernel$Rules", "<init>", "(LSequentKernel$Types;LSequentKernel$Terms;LSequentKernel$Facts;LSequentKernel$Change;)V"⟩ ∈ kwl := kwl_in (List.mem_of_getElem? (i := 286) (by decide +kernel)) rfl
theorem kv_94 : Cond.instanceMethod ⟨"SequentKernel$Rules", "<init>", "(LSequentKernel$Types;LSequentKernel$Terms;LSequentKernel$Facts;LSequentKernel$Change;)V"⟩ ∈ kwl := kwl_in (List.mem_of_getElem? (i := 287) (by decide +kernel)) rfl
theorem kv_95 : Cond.fieldLink kR0 46 "SequentKernel" "rules" "LSequentKernel$Rules;" ∈ kwl := kwl_in (List.mem_of_getElem? (i := 339) (by decide +kernel)) rfl
theorem kv_96 : Cond.classLink kR0 50 kR7 ∈ kwl := kwl_in (List.mem_of_getElem? (i := 309) (by decide +kernel)) rfl
theorem kv_97 : Cond.instantiable kR7 5 ∈ kwl := kwl_in (List.mem_of_getElem? (i := 310) (by decide +kernel)) rfl
theorem kv_98 : Cond.initialized kR7 ∈ kwl := kwl_in (List.mem_of_getElem? (i := 73) (by decide +kernel)) rfl
theorem kv_99 : Cond.methodLink kR7 3 Lib.objectInit ∈ kwl := kwl_in (List.mem_of_getElem? (i := 314) (by decide +kernel)) rfl
theorem kv_100 : Cond.fieldLink kR7 11 "SequentKernel$Trace" "op" "[I" ∈ kwl := kwl_in (List.mem_of_getElem? (i := 315) (by decide +kernel)) rfl
theorem kv_101 : Cond.fieldLink kR7 15 "SequentKernel$Trace" "a" "[I" ∈ kwl := kwl_in (List.mem_of_getElem? (i := 317) (by decide +kernel)) rfl
theorem kv_102 : Cond.fieldLink kR7 18 "SequentKernel$Trace" "b" "[I" ∈ kwl := kwl_in (List.mem_of_getElem? (i := 319) (by decide +kernel)) rfl
theorem kv_103 : Cond.fieldLink kR7 21 "SequentKernel$Trace" "c" "[I" ∈ kwl := kwl_in (List.mem_of_getElem? (i := 321) (by decide +kernel)) rfl
theorem kv_104 : Cond.code ⟨"SequentKernel$Trace", "<init>", "()V"⟩ prog_7_method_1_code 1 none ∈ kwl := kwl_in (List.mem_of_getElem? (i := 313) (by decide +kernel)) rfl
theorem kv_105 : Cond.instanceMethod ⟨"SequentKernel$Trace", "<init>", "()V"⟩ ∈ kwl := kwl_in (List.mem_of_getElem? (i := 312) (by decide +kernel)) rfl
theorem kv_106 : Cond.fieldLink kR0 53 "SequentKernel" "trace" "LSequentKernel$Trace;" ∈ kwl := kwl_in (List.mem_of_getElem? (i := 340) (by decide +kernel)) rfl
theorem kv_107 : Cond.methodLink kR8 1 Lib.objectInit ∈ kwl := kwl_in (List.mem_of_getElem? (i := 760) (by decide +kernel)) rfl
theorem kv_108 : Cond.fieldLink kR8 7 "SequentKernelModel" "tSort" "[I" ∈ kwl := kwl_in (List.mem_of_getElem? (i := 762) (by decide +kernel)) rfl
theorem kv_109 : Cond.fieldLink kR8 13 "SequentKernelModel" "tA" "[I" ∈ kwl := kwl_in (List.mem_of_getElem? (i := 763) (by decide +kernel)) rfl
theorem kv_110 : Cond.fieldLink kR8 16 "SequentKernelModel" "tB" "[I" ∈ kwl := kwl_in (List.mem_of_getElem? (i := 764) (by decide +kernel)) rfl
theorem kv_111 : Cond.fieldLink kR8 19 "SequentKernelModel" "tHeight" "[I" ∈ kwl := kwl_in (List.mem_of_getElem? (i := 765) (by decide +kernel)) rfl
theorem kv_112 : Cond.fieldLink kR8 22 "SequentKernelModel" "tOpen" "[Z" ∈ kwl := kwl_in (List.mem_of_getElem? (i := 766) (by decide +kernel)) rfl
theorem kv_113 : Cond.fieldLink kR8 26 "SequentKernelModel" "tNumber" "[I" ∈ kwl := kwl_in (List.mem_of_getElem? (i := 767) (by decide +kernel)) rfl
theorem kv_114 : Cond.fieldLink kR8 29 "SequentKernelModel" "typeAt" "[I" ∈ kwl := kwl_in (List.mem_of_getElem? (i := 768) (by decide +kernel)) rfl
theorem kv_115 : Cond.fieldLink kR8 32 "SequentKernelModel" "sort" "[I" ∈ kwl := kwl_in (List.mem_of_getElem? (i := 771) (by decide +kernel)) rfl
theorem kv_116 : Cond.fieldLink kR8 35 "SequentKernelModel" "one" "[I" ∈ kwl := kwl_in (List.mem_of_getElem? (i := 772) (by decide +kernel)) rfl
theorem kv_117 : Cond.fieldLink kR8 38 "SequentKernelModel" "two" "[I" ∈ kwl := kwl_in (List.mem_of_getElem? (i := 773) (by decide +kernel)) rfl
theorem kv_118 : Cond.fieldLink kR8 41 "SequentKernelModel" "type" "[I" ∈ kwl := kwl_in (List.mem_of_getElem? (i := 774) (by decide +kernel)) rfl
theorem kv_119 : Cond.fieldLink kR8 44 "SequentKernelModel" "height" "[I" ∈ kwl := kwl_in (List.mem_of_getElem? (i := 775) (by decide +kernel)) rfl
theorem kv_120 : Cond.fieldLink kR8 47 "SequentKernelModel" "number" "[I" ∈ kwl := kwl_in (List.mem_of_getElem? (i := 776) (by decide +kernel)) rfl
theorem kv_121 : Cond.fieldLink kR8 50 "SequentKernelModel" "termAt" "[I" ∈ kwl := kwl_in (List.mem_of_getElem? (i := 777) (by decide +kernel)) rfl
theorem kv_122 : Cond.fieldLink kR8 53 "SequentKernelModel" "conclusion" "[I" ∈ kwl := kwl_in (List.mem_of_getElem? (i := 782) (by decide +kernel)) rfl
theorem kv_123 : Cond.fieldLink kR8 56 "SequentKernelModel" "many" "[I" ∈ kwl := kwl_in (List.mem_of_getElem? (i := 783) (by decide +kernel)) rfl
theorem kv_124 : Cond.fieldLink kR8 59 "SequentKernelModel" "hypothesis" "[I" ∈ kwl := kwl_in (List.mem_of_getElem? (i := 784) (by decide +kernel)) rfl
theorem kv_125 : Cond.fieldLink kR8 62 "SequentKernelModel" "set" "[I" ∈ kwl := kwl_in (List.mem_of_getElem? (i := 786) (by decide +kernel)) rfl
theorem kv_126 : Cond.fieldLink kR8 65 "SequentKernelModel" "op" "[I" ∈ kwl := kwl_in (List.mem_of_getElem? (i := 788) (by decide +kernel)) rfl
theorem kv_127 : Cond.fieldLink kR8 68 "SequentKernelModel" "argument" "[I" ∈ kwl := kwl_in (List.mem_of_getElem? (i := 789) (by decide +kernel)) rfl
theorem kv_128 : Cond.fieldLink kR8 71 "SequentKernelModel" "result" "[I" ∈ kwl := kwl_in (List.mem_of_getElem? (i := 790) (by decide +kernel)) rfl
theorem kv_129 : Cond.fieldLink kR8 74 "SequentKernelModel" "need" "[Z" ∈ kwl := kwl_in (List.mem_of_getElem? (i := 795) (by decide +kernel)) rfl
theorem kv_130 : Cond.fieldLink kR8 77 "SequentKernelModel" "image" "[I" ∈ kwl := kwl_in (List.mem_of_getElem? (i := 796) (by decide +kernel)) rfl
theorem kv_131 : Cond.fieldLink kR8 80 "SequentKernelModel" "tNeed" "[Z" ∈ kwl := kwl_in (List.mem_of_getElem? (i := 797) (by decide +kernel)) rfl
theorem kv_132 : Cond.fieldLink kR8 83 "SequentKernelModel" "tImage" "[I" ∈ kwl := kwl_in (List.mem_of_getElem? (i := 798) (by decide +kernel)) rfl
theorem kv_133 : Cond.fieldLink kR8 86 "SequentKernelModel" "types" "I" ∈ kwl := kwl_in (List.mem_of_getElem? (i := 761) (by decide +kernel)) rfl
theorem kv_134 : Cond.fieldLink kR8 90 "SequentKernelModel" "typeNumbers" "I" ∈ kwl := kwl_in (List.mem_of_getElem? (i := 769) (by decide +kernel)) rfl
theorem dn_K_0 : decode prog_1_method_1_code 0 = .ok (.aload_n 0, 1) := by decide +kernel
theorem dn_K_1 : decode prog_1_method_1_code 1 = .ok (.invokespecial 1, 3) := by decide +kernel
theorem dn_K_4 : decode prog_1_method_1_code 4 = .ok (.aload_n 0, 1) := by decide +kernel
theorem dn_K_5 : decode prog_1_method_1_code 5 = .ok (.new 7, 3) := by decide +kernel
theorem dn_K_8 : decode prog_1_method_1_code 8 = .ok (.dup, 1) := by decide +kernel
theorem dn_K_9 : decode prog_1_method_1_code 9 = .ok (.invokespecial 9, 3) := by decide +kernel
theorem dn_Ty_0 : decode prog_8_method_1_code 0 = .ok (.aload_n 0, 1) := by decide +kernel
theorem dn_Ty_1 : decode prog_8_method_1_code 1 = .ok (.invokespecial 3, 3) := by decide +kernel
theorem dn_Ty_4 : decode prog_8_method_1_code 4 = .ok (.aload_n 0, 1) := by decide +kernel
theorem dn_Ty_5 : decode prog_8_method_1_code 5 = .ok (.new 9, 3) := by decide +kernel
theorem dn_Ty_8 : decode prog_8_method_1_code 8 = .ok (.dup, 1) := by decide +kernel
theorem dn_Ty_9 : decode prog_8_method_1_code 9 = .ok (.bipush 50, 2) := by decide +kernel
theorem dn_Ty_11 : decode prog_8_method_1_code 11 = .ok (.invokespecial 13, 3) := by decide +kernel
theorem dn_Nu_0 : decode prog_4_method_1_code 0 = .ok (.aload_n 0, 1) := by decide +kernel
theorem dn_Nu_1 : decode prog_4_method_1_code 1 = .ok (.invokespecial 3, 3) := by decide +kernel
theorem dn_Nu_4 : decode prog_4_method_1_code 4 = .ok (.aload_n 0, 1) := by decide +kernel
theorem dn_Nu_5 : decode prog_4_method_1_code 5 = .ok (.iload_n 1, 1) := by decide +kernel
theorem dn_Nu_6 : decode prog_4_method_1_code 6 = .ok (.newarray .int, 2) := by decide +kernel
theorem dn_Nu_8 : decode prog_4_method_1_code 8 = .ok (.putfield 9, 3) := by decide +kernel
theorem dn_Nu_11 : decode prog_4_method_1_code 11 = .ok (.aload_n 0, 1) := by decide +kernel
theorem dn_Nu_12 : decode prog_4_method_1_code 12 = .ok (.iload_n 1, 1) := by decide +kernel
theorem dn_Nu_13 : decode prog_4_method_1_code 13 = .ok (.newarray .int, 2) := by decide +kernel
theorem dn_Nu_15 : decode prog_4_method_1_code 15 = .ok (.putfield 15, 3) := by decide +kernel
theorem dn_Nu_18 : decode prog_4_method_1_code 18 = .ok (.aload_n 0, 1) := by decide +kernel
theorem dn_Nu_19 : decode prog_4_method_1_code 19 = .ok (.getfield 15, 3) := by decide +kernel
theorem dn_Nu_22 : decode prog_4_method_1_code 22 = .ok (.iconst (-1), 1) := by decide +kernel
theorem dn_Nu_23 : decode prog_4_method_1_code 23 = .ok (.invokestatic 18, 3) := by decide +kernel
theorem dn_Nu_26 : decode prog_4_method_1_code 26 = .ok (.return_, 1) := by decide +kernel
theorem dn_Ty_14 : decode prog_8_method_1_code 14 = .ok (.putfield 16, 3) := by decide +kernel
theorem dn_Ty_17 : decode prog_8_method_1_code 17 = .ok (.aload_n 0, 1) := by decide +kernel
theorem dn_Ty_18 : decode prog_8_method_1_code 18 = .ok (.bipush 50, 2) := by decide +kernel
theorem dn_Ty_20 : decode prog_8_method_1_code 20 = .ok (.newarray .int, 2) := by decide +kernel
theorem dn_Ty_22 : decode prog_8_method_1_code 22 = .ok (.putfield 20, 3) := by decide +kernel
theorem dn_Ty_25 : decode prog_8_method_1_code 25 = .ok (.aload_n 0, 1) := by decide +kernel
theorem dn_Ty_26 : decode prog_8_method_1_code 26 = .ok (.bipush 50, 2) := by decide +kernel
theorem dn_Ty_28 : decode prog_8_method_1_code 28 = .ok (.newarray .int, 2) := by decide +kernel
theorem dn_Ty_30 : decode prog_8_method_1_code 30 = .ok (.putfield 24, 3) := by decide +kernel
theorem dn_Ty_33 : decode prog_8_method_1_code 33 = .ok (.aload_n 0, 1) := by decide +kernel
theorem dn_Ty_34 : decode prog_8_method_1_code 34 = .ok (.bipush 50, 2) := by decide +kernel
theorem dn_Ty_36 : decode prog_8_method_1_code 36 = .ok (.newarray .int, 2) := by decide +kernel
theorem dn_Ty_38 : decode prog_8_method_1_code 38 = .ok (.putfield 27, 3) := by decide +kernel
theorem dn_Ty_41 : decode prog_8_method_1_code 41 = .ok (.aload_n 0, 1) := by decide +kernel
theorem dn_Ty_42 : decode prog_8_method_1_code 42 = .ok (.bipush 50, 2) := by decide +kernel
theorem dn_Ty_44 : decode prog_8_method_1_code 44 = .ok (.newarray .boolean, 2) := by decide +kernel
theorem dn_Ty_46 : decode prog_8_method_1_code 46 = .ok (.putfield 30, 3) := by decide +kernel
theorem dn_Ty_49 : decode prog_8_method_1_code 49 = .ok (.aload_n 0, 1) := by decide +kernel
theorem dn_Ty_50 : decode prog_8_method_1_code 50 = .ok (.bipush 50, 2) := by decide +kernel
theorem dn_Ty_52 : decode prog_8_method_1_code 52 = .ok (.newarray .int, 2) := by decide +kernel
theorem dn_Ty_54 : decode prog_8_method_1_code 54 = .ok (.putfield 34, 3) := by decide +kernel
theorem dn_Ty_57 : decode prog_8_method_1_code 57 = .ok (.aload_n 0, 1) := by decide +kernel
theorem dn_Ty_58 : decode prog_8_method_1_code 58 = .ok (.getfield 16, 3) := by decide +kernel
theorem dn_Ty_61 : decode prog_8_method_1_code 61 = .ok (.aload_n 0, 1) := by decide +kernel
theorem dn_Ty_62 : decode prog_8_method_1_code 62 = .ok (.iconst 0, 1) := by decide +kernel
theorem dn_Ty_63 : decode prog_8_method_1_code 63 = .ok (.iconst 0, 1) := by decide +kernel
theorem dn_Ty_64 : decode prog_8_method_1_code 64 = .ok (.iconst 0, 1) := by decide +kernel
theorem dn_Ty_65 : decode prog_8_method_1_code 65 = .ok (.invokevirtual 37, 3) := by decide +kernel
theorem dn_Ty_store_0 : decode (kby 0) 0 = .ok (.iload_n 2, 1) := by decide +kernel
theorem dn_Ty_store_1 : decode (kby 0) 1 = .ok (.ifCond .lt 7, 3) := by decide +kernel
theorem dn_Ty_store_4 : decode (kby 0) 4 = .ok (.iload_n 3, 1) := by decide +kernel
theorem dn_Ty_store_5 : decode (kby 0) 5 = .ok (.ifCond .ge 5, 3) := by decide +kernel
theorem dn_Ty_store_10 : decode (kby 0) 10 = .ok (.iconst 0, 1) := by decide +kernel
theorem dn_Ty_store_11 : decode (kby 0) 11 = .ok (.istore 4, 2) := by decide +kernel
theorem dn_Ty_store_13 : decode (kby 0) 13 = .ok (.iload 4, 2) := by decide +kernel
theorem dn_Ty_store_15 : decode (kby 0) 15 = .ok (.aload_n 0, 1) := by decide +kernel
theorem dn_Ty_store_16 : decode (kby 0) 16 = .ok (.getfield 45, 3) := by decide +kernel
theorem dn_Ty_store_19 : decode (kby 0) 19 = .ok (.if_icmp .ge 45, 3) := by decide +kernel
theorem dn_Ty_store_64 : decode (kby 0) 64 = .ok (.iload_n 1, 1) := by decide +kernel
theorem dn_Ty_store_65 : decode (kby 0) 65 = .ok (.iconst 3, 1) := by decide +kernel
theorem dn_Ty_store_66 : decode (kby 0) 66 = .ok (.if_icmp .ne 7, 3) := by decide +kernel
theorem dn_Ty_store_73 : decode (kby 0) 73 = .ok (.iconst 0, 1) := by decide +kernel
theorem dn_Ty_store_74 : decode (kby 0) 74 = .ok (.istore 4, 2) := by decide +kernel
theorem dn_Ty_store_76 : decode (kby 0) 76 = .ok (.iload 4, 2) := by decide +kernel
theorem dn_Ty_store_78 : decode (kby 0) 78 = .ok (.ifCond .eq 23, 3) := by decide +kernel
theorem dn_Ty_store_101 : decode (kby 0) 101 = .ok (.iconst 1, 1) := by decide +kernel
theorem dn_Ty_store_102 : decode (kby 0) 102 = .ok (.istore 5, 2) := by decide +kernel
theorem dn_Ty_store_104 : decode (kby 0) 104 = .ok (.iload 5, 2) := by decide +kernel
theorem dn_Ty_store_106 : decode (kby 0) 106 = .ok (.bipush 10, 2) := by decide +kernel
theorem dn_Ty_store_108 : decode (kby 0) 108 = .ok (.if_icmp .gt 12, 3) := by decide +kernel
theorem dn_Ty_store_111 : decode (kby 0) 111 = .ok (.aload_n 0, 1) := by decide +kernel
theorem dn_Ty_store_112 : decode (kby 0) 112 = .ok (.getfield 45, 3) := by decide +kernel
theorem dn_Ty_store_115 : decode (kby 0) 115 = .ok (.bipush 50, 2) := by decide +kernel
theorem dn_Ty_store_117 : decode (kby 0) 117 = .ok (.if_icmp .lt 5, 3) := by decide +kernel
theorem dn_Ty_store_122 : decode (kby 0) 122 = .ok (.aload_n 0, 1) := by decide +kernel
theorem dn_Ty_store_123 : decode (kby 0) 123 = .ok (.getfield 20, 3) := by decide +kernel
theorem dn_Ty_store_126 : decode (kby 0) 126 = .ok (.aload_n 0, 1) := by decide +kernel
theorem dn_Ty_store_127 : decode (kby 0) 127 = .ok (.getfield 45, 3) := by decide +kernel
theorem dn_Ty_store_130 : decode (kby 0) 130 = .ok (.iload_n 1, 1) := by decide +kernel
theorem dn_Ty_store_131 : decode (kby 0) 131 = .ok (.iastore, 1) := by decide +kernel
theorem dn_Ty_store_132 : decode (kby 0) 132 = .ok (.aload_n 0, 1) := by decide +kernel
theorem dn_Ty_store_133 : decode (kby 0) 133 = .ok (.getfield 24, 3) := by decide +kernel
theorem dn_Ty_store_136 : decode (kby 0) 136 = .ok (.aload_n 0, 1) := by decide +kernel
theorem dn_Ty_store_137 : decode (kby 0) 137 = .ok (.getfield 45, 3) := by decide +kernel
theorem dn_Ty_store_140 : decode (kby 0) 140 = .ok (.iload_n 2, 1) := by decide +kernel
theorem dn_Ty_store_141 : decode (kby 0) 141 = .ok (.iastore, 1) := by decide +kernel
theorem dn_Ty_store_142 : decode (kby 0) 142 = .ok (.aload_n 0, 1) := by decide +kernel
theorem dn_Ty_store_143 : decode (kby 0) 143 = .ok (.getfield 27, 3) := by decide +kernel
theorem dn_Ty_store_146 : decode (kby 0) 146 = .ok (.aload_n 0, 1) := by decide +kernel
theorem dn_Ty_store_147 : decode (kby 0) 147 = .ok (.getfield 45, 3) := by decide +kernel
theorem dn_Ty_store_150 : decode (kby 0) 150 = .ok (.iload_n 3, 1) := by decide +kernel
theorem dn_Ty_store_151 : decode (kby 0) 151 = .ok (.iastore, 1) := by decide +kernel
theorem dn_Ty_store_152 : decode (kby 0) 152 = .ok (.aload_n 0, 1) := by decide +kernel
theorem dn_Ty_store_153 : decode (kby 0) 153 = .ok (.getfield 34, 3) := by decide +kernel
theorem dn_Ty_store_156 : decode (kby 0) 156 = .ok (.aload_n 0, 1) := by decide +kernel
theorem dn_Ty_store_157 : decode (kby 0) 157 = .ok (.getfield 45, 3) := by decide +kernel
theorem dn_Ty_store_160 : decode (kby 0) 160 = .ok (.iload 5, 2) := by decide +kernel
theorem dn_Ty_store_162 : decode (kby 0) 162 = .ok (.iastore, 1) := by decide +kernel
theorem dn_Ty_store_163 : decode (kby 0) 163 = .ok (.aload_n 0, 1) := by decide +kernel
theorem dn_Ty_store_164 : decode (kby 0) 164 = .ok (.getfield 30, 3) := by decide +kernel
theorem dn_Ty_store_167 : decode (kby 0) 167 = .ok (.aload_n 0, 1) := by decide +kernel
theorem dn_Ty_store_168 : decode (kby 0) 168 = .ok (.getfield 45, 3) := by decide +kernel
theorem dn_Ty_store_171 : decode (kby 0) 171 = .ok (.iload_n 1, 1) := by decide +kernel
theorem dn_Ty_store_172 : decode (kby 0) 172 = .ok (.iconst 1, 1) := by decide +kernel
theorem dn_Ty_store_173 : decode (kby 0) 173 = .ok (.if_icmp .eq 26, 3) := by decide +kernel
theorem dn_Ty_store_176 : decode (kby 0) 176 = .ok (.iload 4, 2) := by decide +kernel
theorem dn_Ty_store_178 : decode (kby 0) 178 = .ok (.ifCond .eq 25, 3) := by decide +kernel
theorem dn_Ty_store_203 : decode (kby 0) 203 = .ok (.iconst 0, 1) := by decide +kernel
theorem dn_Ty_store_204 : decode (kby 0) 204 = .ok (.bastore, 1) := by decide +kernel
theorem dn_Ty_store_205 : decode (kby 0) 205 = .ok (.aload_n 0, 1) := by decide +kernel
theorem dn_Ty_store_206 : decode (kby 0) 206 = .ok (.dup, 1) := by decide +kernel
theorem dn_Ty_store_207 : decode (kby 0) 207 = .ok (.getfield 45, 3) := by decide +kernel
theorem dn_Ty_store_210 : decode (kby 0) 210 = .ok (.dup_x1, 1) := by decide +kernel
theorem dn_Ty_store_211 : decode (kby 0) 211 = .ok (.iconst 1, 1) := by decide +kernel
theorem dn_Ty_store_212 : decode (kby 0) 212 = .ok (.iadd, 1) := by decide +kernel
theorem dn_Ty_store_213 : decode (kby 0) 213 = .ok (.putfield 45, 3) := by decide +kernel
theorem dn_Ty_store_216 : decode (kby 0) 216 = .ok (.ireturn, 1) := by decide +kernel
theorem dn_Ty_68 : decode prog_8_method_1_code 68 = .ok (.invokevirtual 41, 3) := by decide +kernel
theorem dn_Nu_numberOf_0 : decode (kby 1) 0 = .ok (.iload_n 1, 1) := by decide +kernel
theorem dn_Nu_numberOf_1 : decode (kby 1) 1 = .ok (.ifCond .lt 12, 3) := by decide +kernel
theorem dn_Nu_numberOf_4 : decode (kby 1) 4 = .ok (.iload_n 1, 1) := by decide +kernel
theorem dn_Nu_numberOf_5 : decode (kby 1) 5 = .ok (.aload_n 0, 1) := by decide +kernel
theorem dn_Nu_numberOf_6 : decode (kby 1) 6 = .ok (.getfield 15, 3) := by decide +kernel
theorem dn_Nu_numberOf_9 : decode (kby 1) 9 = .ok (.arraylength, 1) := by decide +kernel
theorem dn_Nu_numberOf_10 : decode (kby 1) 10 = .ok (.if_icmp .lt 5, 3) := by decide +kernel
theorem dn_Nu_numberOf_15 : decode (kby 1) 15 = .ok (.aload_n 0, 1) := by decide +kernel
theorem dn_Nu_numberOf_16 : decode (kby 1) 16 = .ok (.getfield 15, 3) := by decide +kernel
theorem dn_Nu_numberOf_19 : decode (kby 1) 19 = .ok (.iload_n 1, 1) := by decide +kernel
theorem dn_Nu_numberOf_20 : decode (kby 1) 20 = .ok (.iaload, 1) := by decide +kernel
theorem dn_Nu_numberOf_21 : decode (kby 1) 21 = .ok (.ifCond .ge 33, 3) := by decide +kernel
theorem dn_Nu_numberOf_24 : decode (kby 1) 24 = .ok (.aload_n 0, 1) := by decide +kernel
theorem dn_Nu_numberOf_25 : decode (kby 1) 25 = .ok (.getfield 9, 3) := by decide +kernel
theorem dn_Nu_numberOf_28 : decode (kby 1) 28 = .ok (.aload_n 0, 1) := by decide +kernel
theorem dn_Nu_numberOf_29 : decode (kby 1) 29 = .ok (.getfield 24, 3) := by decide +kernel
theorem dn_Nu_numberOf_32 : decode (kby 1) 32 = .ok (.iload_n 1, 1) := by decide +kernel
theorem dn_Nu_numberOf_33 : decode (kby 1) 33 = .ok (.iastore, 1) := by decide +kernel
theorem dn_Nu_numberOf_34 : decode (kby 1) 34 = .ok (.aload_n 0, 1) := by decide +kernel
theorem dn_Nu_numberOf_35 : decode (kby 1) 35 = .ok (.getfield 15, 3) := by decide +kernel
theorem dn_Nu_numberOf_38 : decode (kby 1) 38 = .ok (.iload_n 1, 1) := by decide +kernel
theorem dn_Nu_numberOf_39 : decode (kby 1) 39 = .ok (.aload_n 0, 1) := by decide +kernel
theorem dn_Nu_numberOf_40 : decode (kby 1) 40 = .ok (.getfield 24, 3) := by decide +kernel
theorem dn_Nu_numberOf_43 : decode (kby 1) 43 = .ok (.iastore, 1) := by decide +kernel
theorem dn_Nu_numberOf_44 : decode (kby 1) 44 = .ok (.aload_n 0, 1) := by decide +kernel
theorem dn_Nu_numberOf_45 : decode (kby 1) 45 = .ok (.dup, 1) := by decide +kernel
theorem dn_Nu_numberOf_46 : decode (kby 1) 46 = .ok (.getfield 24, 3) := by decide +kernel
theorem dn_Nu_numberOf_49 : decode (kby 1) 49 = .ok (.iconst 1, 1) := by decide +kernel
theorem dn_Nu_numberOf_50 : decode (kby 1) 50 = .ok (.iadd, 1) := by decide +kernel
theorem dn_Nu_numberOf_51 : decode (kby 1) 51 = .ok (.putfield 24, 3) := by decide +kernel
theorem dn_Nu_numberOf_54 : decode (kby 1) 54 = .ok (.aload_n 0, 1) := by decide +kernel
theorem dn_Nu_numberOf_55 : decode (kby 1) 55 = .ok (.getfield 15, 3) := by decide +kernel
theorem dn_Nu_numberOf_58 : decode (kby 1) 58 = .ok (.iload_n 1, 1) := by decide +kernel
theorem dn_Nu_numberOf_59 : decode (kby 1) 59 = .ok (.iaload, 1) := by decide +kernel
theorem dn_Nu_numberOf_60 : decode (kby 1) 60 = .ok (.ireturn, 1) := by decide +kernel
theorem dn_Ty_71 : decode prog_8_method_1_code 71 = .ok (.pop, 1) := by decide +kernel
theorem dn_Ty_72 : decode prog_8_method_1_code 72 = .ok (.aload_n 0, 1) := by decide +kernel
theorem dn_Ty_73 : decode prog_8_method_1_code 73 = .ok (.getfield 16, 3) := by decide +kernel
theorem dn_Ty_76 : decode prog_8_method_1_code 76 = .ok (.aload_n 0, 1) := by decide +kernel
theorem dn_Ty_77 : decode prog_8_method_1_code 77 = .ok (.iconst 0, 1) := by decide +kernel
theorem dn_Ty_78 : decode prog_8_method_1_code 78 = .ok (.iconst 1, 1) := by decide +kernel
theorem dn_Ty_79 : decode prog_8_method_1_code 79 = .ok (.iconst 0, 1) := by decide +kernel
theorem dn_Ty_80 : decode prog_8_method_1_code 80 = .ok (.invokevirtual 37, 3) := by decide +kernel
theorem dn_Ty_store_22 : decode (kby 0) 22 = .ok (.aload_n 0, 1) := by decide +kernel
theorem dn_Ty_store_23 : decode (kby 0) 23 = .ok (.getfield 20, 3) := by decide +kernel
theorem dn_Ty_store_26 : decode (kby 0) 26 = .ok (.iload 4, 2) := by decide +kernel
theorem dn_Ty_store_28 : decode (kby 0) 28 = .ok (.iaload, 1) := by decide +kernel
theorem dn_Ty_store_29 : decode (kby 0) 29 = .ok (.iload_n 1, 1) := by decide +kernel
theorem dn_Ty_store_30 : decode (kby 0) 30 = .ok (.if_icmp .ne 28, 3) := by decide +kernel
theorem dn_Ty_store_33 : decode (kby 0) 33 = .ok (.aload_n 0, 1) := by decide +kernel
theorem dn_Ty_store_34 : decode (kby 0) 34 = .ok (.getfield 24, 3) := by decide +kernel
theorem dn_Ty_store_37 : decode (kby 0) 37 = .ok (.iload 4, 2) := by decide +kernel
theorem dn_Ty_store_39 : decode (kby 0) 39 = .ok (.iaload, 1) := by decide +kernel
theorem dn_Ty_store_40 : decode (kby 0) 40 = .ok (.iload_n 2, 1) := by decide +kernel
theorem dn_Ty_store_41 : decode (kby 0) 41 = .ok (.if_icmp .ne 17, 3) := by decide +kernel
theorem dn_Ty_store_58 : decode (kby 0) 58 = .ok (.iinc 4 1, 3) := by decide +kernel
theorem dn_Ty_store_61 : decode (kby 0) 61 = .ok (.goto (-48), 3) := by decide +kernel
theorem dn_Ty_83 : decode prog_8_method_1_code 83 = .ok (.invokevirtual 41, 3) := by decide +kernel
theorem dn_Ty_86 : decode prog_8_method_1_code 86 = .ok (.pop, 1) := by decide +kernel
theorem dn_Ty_87 : decode prog_8_method_1_code 87 = .ok (.aload_n 0, 1) := by decide +kernel
theorem dn_Ty_88 : decode prog_8_method_1_code 88 = .ok (.aload_n 0, 1) := by decide +kernel
theorem dn_Ty_89 : decode prog_8_method_1_code 89 = .ok (.getfield 45, 3) := by decide +kernel
theorem dn_Ty_92 : decode prog_8_method_1_code 92 = .ok (.putfield 49, 3) := by decide +kernel
theorem dn_Ty_95 : decode prog_8_method_1_code 95 = .ok (.return_, 1) := by decide +kernel
theorem dn_K_12 : decode prog_1_method_1_code 12 = .ok (.putfield 10, 3) := by decide +kernel
theorem dn_K_15 : decode prog_1_method_1_code 15 = .ok (.aload_n 0, 1) := by decide +kernel
theorem dn_K_16 : decode prog_1_method_1_code 16 = .ok (.new 16, 3) := by decide +kernel
theorem dn_K_19 : decode prog_1_method_1_code 19 = .ok (.dup, 1) := by decide +kernel
theorem dn_K_20 : decode prog_1_method_1_code 20 = .ok (.aload_n 0, 1) := by decide +kernel
theorem dn_K_21 : decode prog_1_method_1_code 21 = .ok (.getfield 10, 3) := by decide +kernel
theorem dn_K_24 : decode prog_1_method_1_code 24 = .ok (.invokespecial 18, 3) := by decide +kernel
theorem dn_Te_0 : decode prog_6_method_1_code 0 = .ok (.aload_n 0, 1) := by decide +kernel
theorem dn_Te_1 : decode prog_6_method_1_code 1 = .ok (.invokespecial 3, 3) := by decide +kernel
theorem dn_Te_4 : decode prog_6_method_1_code 4 = .ok (.aload_n 0, 1) := by decide +kernel
theorem dn_Te_5 : decode prog_6_method_1_code 5 = .ok (.new 9, 3) := by decide +kernel
theorem dn_Te_8 : decode prog_6_method_1_code 8 = .ok (.dup, 1) := by decide +kernel
theorem dn_Te_9 : decode prog_6_method_1_code 9 = .ok (.sipush 250, 3) := by decide +kernel
theorem dn_Te_12 : decode prog_6_method_1_code 12 = .ok (.invokespecial 13, 3) := by decide +kernel
theorem dn_Te_15 : decode prog_6_method_1_code 15 = .ok (.putfield 16, 3) := by decide +kernel
theorem dn_Te_18 : decode prog_6_method_1_code 18 = .ok (.aload_n 0, 1) := by decide +kernel
theorem dn_Te_19 : decode prog_6_method_1_code 19 = .ok (.sipush 250, 3) := by decide +kernel
theorem dn_Te_22 : decode prog_6_method_1_code 22 = .ok (.newarray .int, 2) := by decide +kernel
theorem dn_Te_24 : decode prog_6_method_1_code 24 = .ok (.putfield 20, 3) := by decide +kernel
theorem dn_Te_27 : decode prog_6_method_1_code 27 = .ok (.aload_n 0, 1) := by decide +kernel
theorem dn_Te_28 : decode prog_6_method_1_code 28 = .ok (.sipush 250, 3) := by decide +kernel
theorem dn_Te_31 : decode prog_6_method_1_code 31 = .ok (.newarray .int, 2) := by decide +kernel
theorem dn_Te_33 : decode prog_6_method_1_code 33 = .ok (.putfield 24, 3) := by decide +kernel
theorem dn_Te_36 : decode prog_6_method_1_code 36 = .ok (.aload_n 0, 1) := by decide +kernel
theorem dn_Te_37 : decode prog_6_method_1_code 37 = .ok (.sipush 250, 3) := by decide +kernel
theorem dn_Te_40 : decode prog_6_method_1_code 40 = .ok (.newarray .int, 2) := by decide +kernel
theorem dn_Te_42 : decode prog_6_method_1_code 42 = .ok (.putfield 27, 3) := by decide +kernel
theorem dn_Te_45 : decode prog_6_method_1_code 45 = .ok (.aload_n 0, 1) := by decide +kernel
theorem dn_Te_46 : decode prog_6_method_1_code 46 = .ok (.sipush 250, 3) := by decide +kernel
theorem dn_Te_49 : decode prog_6_method_1_code 49 = .ok (.newarray .int, 2) := by decide +kernel
theorem dn_Te_51 : decode prog_6_method_1_code 51 = .ok (.putfield 30, 3) := by decide +kernel
theorem dn_Te_54 : decode prog_6_method_1_code 54 = .ok (.aload_n 0, 1) := by decide +kernel
theorem dn_Te_55 : decode prog_6_method_1_code 55 = .ok (.sipush 250, 3) := by decide +kernel
theorem dn_Te_58 : decode prog_6_method_1_code 58 = .ok (.newarray .boolean, 2) := by decide +kernel
theorem dn_Te_60 : decode prog_6_method_1_code 60 = .ok (.putfield 33, 3) := by decide +kernel
theorem dn_Te_63 : decode prog_6_method_1_code 63 = .ok (.aload_n 0, 1) := by decide +kernel
theorem dn_Te_64 : decode prog_6_method_1_code 64 = .ok (.sipush 250, 3) := by decide +kernel
theorem dn_Te_67 : decode prog_6_method_1_code 67 = .ok (.newarray .boolean, 2) := by decide +kernel
theorem dn_Te_69 : decode prog_6_method_1_code 69 = .ok (.putfield 37, 3) := by decide +kernel
theorem dn_Te_72 : decode prog_6_method_1_code 72 = .ok (.aload_n 0, 1) := by decide +kernel
theorem dn_Te_73 : decode prog_6_method_1_code 73 = .ok (.sipush 250, 3) := by decide +kernel
theorem dn_Te_76 : decode prog_6_method_1_code 76 = .ok (.newarray .boolean, 2) := by decide +kernel
theorem dn_Te_78 : decode prog_6_method_1_code 78 = .ok (.putfield 40, 3) := by decide +kernel
theorem dn_Te_81 : decode prog_6_method_1_code 81 = .ok (.aload_n 0, 1) := by decide +kernel
theorem dn_Te_82 : decode prog_6_method_1_code 82 = .ok (.sipush 250, 3) := by decide +kernel
theorem dn_Te_85 : decode prog_6_method_1_code 85 = .ok (.newarray .int, 2) := by decide +kernel
theorem dn_Te_87 : decode prog_6_method_1_code 87 = .ok (.putfield 43, 3) := by decide +kernel
theorem dn_Te_90 : decode prog_6_method_1_code 90 = .ok (.aload_n 0, 1) := by decide +kernel
theorem dn_Te_91 : decode prog_6_method_1_code 91 = .ok (.bipush 64, 2) := by decide +kernel
theorem dn_Te_93 : decode prog_6_method_1_code 93 = .ok (.newarray .int, 2) := by decide +kernel
theorem dn_Te_95 : decode prog_6_method_1_code 95 = .ok (.putfield 46, 3) := by decide +kernel
theorem dn_Te_98 : decode prog_6_method_1_code 98 = .ok (.aload_n 0, 1) := by decide +kernel
theorem dn_Te_99 : decode prog_6_method_1_code 99 = .ok (.sipush 250, 3) := by decide +kernel
theorem dn_Te_102 : decode prog_6_method_1_code 102 = .ok (.newarray .int, 2) := by decide +kernel
theorem dn_Te_104 : decode prog_6_method_1_code 104 = .ok (.putfield 49, 3) := by decide +kernel
theorem dn_Te_107 : decode prog_6_method_1_code 107 = .ok (.aload_n 0, 1) := by decide +kernel
theorem dn_Te_108 : decode prog_6_method_1_code 108 = .ok (.sipush 250, 3) := by decide +kernel
theorem dn_Te_111 : decode prog_6_method_1_code 111 = .ok (.newarray .int, 2) := by decide +kernel
theorem dn_Te_113 : decode prog_6_method_1_code 113 = .ok (.putfield 52, 3) := by decide +kernel
theorem dn_Te_116 : decode prog_6_method_1_code 116 = .ok (.aload_n 0, 1) := by decide +kernel
theorem dn_Te_117 : decode prog_6_method_1_code 117 = .ok (.aload_n 1, 1) := by decide +kernel
theorem dn_Te_118 : decode prog_6_method_1_code 118 = .ok (.putfield 55, 3) := by decide +kernel
theorem dn_Te_121 : decode prog_6_method_1_code 121 = .ok (.aload_n 0, 1) := by decide +kernel
theorem dn_Te_122 : decode prog_6_method_1_code 122 = .ok (.getfield 46, 3) := by decide +kernel
theorem dn_Te_125 : decode prog_6_method_1_code 125 = .ok (.iconst (-1), 1) := by decide +kernel
theorem dn_Te_126 : decode prog_6_method_1_code 126 = .ok (.invokestatic 59, 3) := by decide +kernel
theorem dn_Te_129 : decode prog_6_method_1_code 129 = .ok (.return_, 1) := by decide +kernel
theorem dn_K_27 : decode prog_1_method_1_code 27 = .ok (.putfield 21, 3) := by decide +kernel
theorem dn_K_30 : decode prog_1_method_1_code 30 = .ok (.aload_n 0, 1) := by decide +kernel
theorem dn_K_31 : decode prog_1_method_1_code 31 = .ok (.new 25, 3) := by decide +kernel
theorem dn_K_34 : decode prog_1_method_1_code 34 = .ok (.dup, 1) := by decide +kernel
theorem dn_K_35 : decode prog_1_method_1_code 35 = .ok (.invokespecial 27, 3) := by decide +kernel
theorem dn_Fa_0 : decode prog_3_method_1_code 0 = .ok (.aload_n 0, 1) := by decide +kernel
theorem dn_Fa_1 : decode prog_3_method_1_code 1 = .ok (.invokespecial 3, 3) := by decide +kernel
theorem dn_Fa_4 : decode prog_3_method_1_code 4 = .ok (.aload_n 0, 1) := by decide +kernel
theorem dn_Fa_5 : decode prog_3_method_1_code 5 = .ok (.bipush 60, 2) := by decide +kernel
theorem dn_Fa_7 : decode prog_3_method_1_code 7 = .ok (.newarray .int, 2) := by decide +kernel
theorem dn_Fa_9 : decode prog_3_method_1_code 9 = .ok (.putfield 11, 3) := by decide +kernel
theorem dn_Fa_12 : decode prog_3_method_1_code 12 = .ok (.aload_n 0, 1) := by decide +kernel
theorem dn_Fa_13 : decode prog_3_method_1_code 13 = .ok (.bipush 60, 2) := by decide +kernel
theorem dn_Fa_15 : decode prog_3_method_1_code 15 = .ok (.newarray .int, 2) := by decide +kernel
theorem dn_Fa_17 : decode prog_3_method_1_code 17 = .ok (.putfield 15, 3) := by decide +kernel
theorem dn_Fa_20 : decode prog_3_method_1_code 20 = .ok (.aload_n 0, 1) := by decide +kernel
theorem dn_Fa_21 : decode prog_3_method_1_code 21 = .ok (.sipush 720, 3) := by decide +kernel
theorem dn_Fa_24 : decode prog_3_method_1_code 24 = .ok (.newarray .int, 2) := by decide +kernel
theorem dn_Fa_26 : decode prog_3_method_1_code 26 = .ok (.putfield 18, 3) := by decide +kernel
theorem dn_Fa_29 : decode prog_3_method_1_code 29 = .ok (.aload_n 0, 1) := by decide +kernel
theorem dn_Fa_30 : decode prog_3_method_1_code 30 = .ok (.bipush 12, 2) := by decide +kernel
theorem dn_Fa_32 : decode prog_3_method_1_code 32 = .ok (.newarray .int, 2) := by decide +kernel
theorem dn_Fa_34 : decode prog_3_method_1_code 34 = .ok (.putfield 21, 3) := by decide +kernel
theorem dn_Fa_37 : decode prog_3_method_1_code 37 = .ok (.return_, 1) := by decide +kernel
theorem dn_K_38 : decode prog_1_method_1_code 38 = .ok (.putfield 28, 3) := by decide +kernel
theorem dn_K_41 : decode prog_1_method_1_code 41 = .ok (.aload_n 0, 1) := by decide +kernel
theorem dn_K_42 : decode prog_1_method_1_code 42 = .ok (.new 32, 3) := by decide +kernel
theorem dn_K_45 : decode prog_1_method_1_code 45 = .ok (.dup, 1) := by decide +kernel
theorem dn_K_46 : decode prog_1_method_1_code 46 = .ok (.aload_n 0, 1) := by decide +kernel
theorem dn_K_47 : decode prog_1_method_1_code 47 = .ok (.getfield 10, 3) := by decide +kernel
theorem dn_K_50 : decode prog_1_method_1_code 50 = .ok (.aload_n 0, 1) := by decide +kernel
theorem dn_K_51 : decode prog_1_method_1_code 51 = .ok (.getfield 21, 3) := by decide +kernel
theorem dn_K_54 : decode prog_1_method_1_code 54 = .ok (.invokespecial 34, 3) := by decide +kernel
theorem dn_Ch_0 : decode prog_2_method_1_code 0 = .ok (.aload_n 0, 1) := by decide +kernel
theorem dn_Ch_1 : decode prog_2_method_1_code 1 = .ok (.invokespecial 5, 3) := by decide +kernel
theorem dn_Ch_4 : decode prog_2_method_1_code 4 = .ok (.aload_n 0, 1) := by decide +kernel
theorem dn_Ch_5 : decode prog_2_method_1_code 5 = .ok (.sipush 5000, 3) := by decide +kernel
theorem dn_Ch_8 : decode prog_2_method_1_code 8 = .ok (.newarray .int, 2) := by decide +kernel
theorem dn_Ch_10 : decode prog_2_method_1_code 10 = .ok (.putfield 13, 3) := by decide +kernel
theorem dn_Ch_13 : decode prog_2_method_1_code 13 = .ok (.aload_n 0, 1) := by decide +kernel
theorem dn_Ch_14 : decode prog_2_method_1_code 14 = .ok (.bipush 50, 2) := by decide +kernel
theorem dn_Ch_16 : decode prog_2_method_1_code 16 = .ok (.newarray .int, 2) := by decide +kernel
theorem dn_Ch_18 : decode prog_2_method_1_code 18 = .ok (.putfield 19, 3) := by decide +kernel
theorem dn_Ch_21 : decode prog_2_method_1_code 21 = .ok (.aload_n 0, 1) := by decide +kernel
theorem dn_Ch_22 : decode prog_2_method_1_code 22 = .ok (.aload_n 1, 1) := by decide +kernel
theorem dn_Ch_23 : decode prog_2_method_1_code 23 = .ok (.putfield 22, 3) := by decide +kernel
theorem dn_Ch_26 : decode prog_2_method_1_code 26 = .ok (.aload_n 0, 1) := by decide +kernel
theorem dn_Ch_27 : decode prog_2_method_1_code 27 = .ok (.aload_n 2, 1) := by decide +kernel
theorem dn_Ch_28 : decode prog_2_method_1_code 28 = .ok (.putfield 26, 3) := by decide +kernel
theorem dn_Ch_31 : decode prog_2_method_1_code 31 = .ok (.return_, 1) := by decide +kernel
theorem dn_K_57 : decode prog_1_method_1_code 57 = .ok (.putfield 37, 3) := by decide +kernel
theorem dn_K_60 : decode prog_1_method_1_code 60 = .ok (.aload_n 0, 1) := by decide +kernel
theorem dn_K_61 : decode prog_1_method_1_code 61 = .ok (.new 41, 3) := by decide +kernel
theorem dn_K_64 : decode prog_1_method_1_code 64 = .ok (.dup, 1) := by decide +kernel
theorem dn_K_65 : decode prog_1_method_1_code 65 = .ok (.aload_n 0, 1) := by decide +kernel
theorem dn_K_66 : decode prog_1_method_1_code 66 = .ok (.getfield 10, 3) := by decide +kernel
theorem dn_K_69 : decode prog_1_method_1_code 69 = .ok (.aload_n 0, 1) := by decide +kernel
theorem dn_K_70 : decode prog_1_method_1_code 70 = .ok (.getfield 21, 3) := by decide +kernel
theorem dn_K_73 : decode prog_1_method_1_code 73 = .ok (.aload_n 0, 1) := by decide +kernel
theorem dn_K_74 : decode prog_1_method_1_code 74 = .ok (.getfield 28, 3) := by decide +kernel
theorem dn_K_77 : decode prog_1_method_1_code 77 = .ok (.aload_n 0, 1) := by decide +kernel
theorem dn_K_78 : decode prog_1_method_1_code 78 = .ok (.getfield 37, 3) := by decide +kernel
theorem dn_K_81 : decode prog_1_method_1_code 81 = .ok (.invokespecial 43, 3) := by decide +kernel
theorem dn_Ru_0 : decode prog_5_method_1_code 0 = .ok (.aload_n 0, 1) := by decide +kernel
theorem dn_Ru_1 : decode prog_5_method_1_code 1 = .ok (.invokespecial 3, 3) := by decide +kernel
theorem dn_Ru_4 : decode prog_5_method_1_code 4 = .ok (.aload_n 0, 1) := by decide +kernel
theorem dn_Ru_5 : decode prog_5_method_1_code 5 = .ok (.aload_n 1, 1) := by decide +kernel
theorem dn_Ru_6 : decode prog_5_method_1_code 6 = .ok (.putfield 9, 3) := by decide +kernel
theorem dn_Ru_9 : decode prog_5_method_1_code 9 = .ok (.aload_n 0, 1) := by decide +kernel
theorem dn_Ru_10 : decode prog_5_method_1_code 10 = .ok (.aload_n 2, 1) := by decide +kernel
theorem dn_Ru_11 : decode prog_5_method_1_code 11 = .ok (.putfield 15, 3) := by decide +kernel
theorem dn_Ru_14 : decode prog_5_method_1_code 14 = .ok (.aload_n 0, 1) := by decide +kernel
theorem dn_Ru_15 : decode prog_5_method_1_code 15 = .ok (.aload_n 3, 1) := by decide +kernel
theorem dn_Ru_16 : decode prog_5_method_1_code 16 = .ok (.putfield 19, 3) := by decide +kernel
theorem dn_Ru_19 : decode prog_5_method_1_code 19 = .ok (.aload_n 0, 1) := by decide +kernel
theorem dn_Ru_20 : decode prog_5_method_1_code 20 = .ok (.aload 4, 2) := by decide +kernel
theorem dn_Ru_22 : decode prog_5_method_1_code 22 = .ok (.putfield 23, 3) := by decide +kernel
theorem dn_Ru_25 : decode prog_5_method_1_code 25 = .ok (.return_, 1) := by decide +kernel
theorem dn_K_84 : decode prog_1_method_1_code 84 = .ok (.putfield 46, 3) := by decide +kernel
theorem dn_K_87 : decode prog_1_method_1_code 87 = .ok (.aload_n 0, 1) := by decide +kernel
theorem dn_K_88 : decode prog_1_method_1_code 88 = .ok (.new 50, 3) := by decide +kernel
theorem dn_K_91 : decode prog_1_method_1_code 91 = .ok (.dup, 1) := by decide +kernel
theorem dn_K_92 : decode prog_1_method_1_code 92 = .ok (.invokespecial 52, 3) := by decide +kernel
theorem dn_Tr_0 : decode prog_7_method_1_code 0 = .ok (.aload_n 0, 1) := by decide +kernel
theorem dn_Tr_1 : decode prog_7_method_1_code 1 = .ok (.invokespecial 3, 3) := by decide +kernel
theorem dn_Tr_4 : decode prog_7_method_1_code 4 = .ok (.aload_n 0, 1) := by decide +kernel
theorem dn_Tr_5 : decode prog_7_method_1_code 5 = .ok (.bipush 12, 2) := by decide +kernel
theorem dn_Tr_7 : decode prog_7_method_1_code 7 = .ok (.newarray .int, 2) := by decide +kernel
theorem dn_Tr_9 : decode prog_7_method_1_code 9 = .ok (.putfield 11, 3) := by decide +kernel
theorem dn_Tr_12 : decode prog_7_method_1_code 12 = .ok (.aload_n 0, 1) := by decide +kernel
theorem dn_Tr_13 : decode prog_7_method_1_code 13 = .ok (.bipush 12, 2) := by decide +kernel
theorem dn_Tr_15 : decode prog_7_method_1_code 15 = .ok (.newarray .int, 2) := by decide +kernel
theorem dn_Tr_17 : decode prog_7_method_1_code 17 = .ok (.putfield 15, 3) := by decide +kernel
theorem dn_Tr_20 : decode prog_7_method_1_code 20 = .ok (.aload_n 0, 1) := by decide +kernel
theorem dn_Tr_21 : decode prog_7_method_1_code 21 = .ok (.bipush 12, 2) := by decide +kernel
theorem dn_Tr_23 : decode prog_7_method_1_code 23 = .ok (.newarray .int, 2) := by decide +kernel
theorem dn_Tr_25 : decode prog_7_method_1_code 25 = .ok (.putfield 18, 3) := by decide +kernel
theorem dn_Tr_28 : decode prog_7_method_1_code 28 = .ok (.aload_n 0, 1) := by decide +kernel
theorem dn_Tr_29 : decode prog_7_method_1_code 29 = .ok (.bipush 12, 2) := by decide +kernel
theorem dn_Tr_31 : decode prog_7_method_1_code 31 = .ok (.newarray .int, 2) := by decide +kernel
theorem dn_Tr_33 : decode prog_7_method_1_code 33 = .ok (.putfield 21, 3) := by decide +kernel
theorem dn_Tr_36 : decode prog_7_method_1_code 36 = .ok (.return_, 1) := by decide +kernel
theorem dn_K_95 : decode prog_1_method_1_code 95 = .ok (.putfield 53, 3) := by decide +kernel
theorem dn_K_98 : decode prog_1_method_1_code 98 = .ok (.return_, 1) := by decide +kernel
theorem dn_Mo_0 : decode prog_10_method_1_code 0 = .ok (.aload_n 0, 1) := by decide +kernel
theorem dn_Mo_1 : decode prog_10_method_1_code 1 = .ok (.invokespecial 1, 3) := by decide +kernel
theorem dn_Mo_4 : decode prog_10_method_1_code 4 = .ok (.aload_n 0, 1) := by decide +kernel
theorem dn_Mo_5 : decode prog_10_method_1_code 5 = .ok (.bipush 50, 2) := by decide +kernel
theorem dn_Mo_7 : decode prog_10_method_1_code 7 = .ok (.newarray .int, 2) := by decide +kernel
theorem dn_Mo_9 : decode prog_10_method_1_code 9 = .ok (.putfield 7, 3) := by decide +kernel
theorem dn_Mo_12 : decode prog_10_method_1_code 12 = .ok (.aload_n 0, 1) := by decide +kernel
theorem dn_Mo_13 : decode prog_10_method_1_code 13 = .ok (.bipush 50, 2) := by decide +kernel
theorem dn_Mo_15 : decode prog_10_method_1_code 15 = .ok (.newarray .int, 2) := by decide +kernel
theorem dn_Mo_17 : decode prog_10_method_1_code 17 = .ok (.putfield 13, 3) := by decide +kernel
theorem dn_Mo_20 : decode prog_10_method_1_code 20 = .ok (.aload_n 0, 1) := by decide +kernel
theorem dn_Mo_21 : decode prog_10_method_1_code 21 = .ok (.bipush 50, 2) := by decide +kernel
theorem dn_Mo_23 : decode prog_10_method_1_code 23 = .ok (.newarray .int, 2) := by decide +kernel
theorem dn_Mo_25 : decode prog_10_method_1_code 25 = .ok (.putfield 16, 3) := by decide +kernel
theorem dn_Mo_28 : decode prog_10_method_1_code 28 = .ok (.aload_n 0, 1) := by decide +kernel
theorem dn_Mo_29 : decode prog_10_method_1_code 29 = .ok (.bipush 50, 2) := by decide +kernel
theorem dn_Mo_31 : decode prog_10_method_1_code 31 = .ok (.newarray .int, 2) := by decide +kernel
theorem dn_Mo_33 : decode prog_10_method_1_code 33 = .ok (.putfield 19, 3) := by decide +kernel
theorem dn_Mo_36 : decode prog_10_method_1_code 36 = .ok (.aload_n 0, 1) := by decide +kernel
theorem dn_Mo_37 : decode prog_10_method_1_code 37 = .ok (.bipush 50, 2) := by decide +kernel
theorem dn_Mo_39 : decode prog_10_method_1_code 39 = .ok (.newarray .boolean, 2) := by decide +kernel
theorem dn_Mo_41 : decode prog_10_method_1_code 41 = .ok (.putfield 22, 3) := by decide +kernel
theorem dn_Mo_44 : decode prog_10_method_1_code 44 = .ok (.aload_n 0, 1) := by decide +kernel
theorem dn_Mo_45 : decode prog_10_method_1_code 45 = .ok (.bipush 50, 2) := by decide +kernel
theorem dn_Mo_47 : decode prog_10_method_1_code 47 = .ok (.newarray .int, 2) := by decide +kernel
theorem dn_Mo_49 : decode prog_10_method_1_code 49 = .ok (.putfield 26, 3) := by decide +kernel
theorem dn_Mo_52 : decode prog_10_method_1_code 52 = .ok (.aload_n 0, 1) := by decide +kernel
theorem dn_Mo_53 : decode prog_10_method_1_code 53 = .ok (.bipush 50, 2) := by decide +kernel
theorem dn_Mo_55 : decode prog_10_method_1_code 55 = .ok (.newarray .int, 2) := by decide +kernel
theorem dn_Mo_57 : decode prog_10_method_1_code 57 = .ok (.putfield 29, 3) := by decide +kernel
theorem dn_Mo_60 : decode prog_10_method_1_code 60 = .ok (.aload_n 0, 1) := by decide +kernel
theorem dn_Mo_61 : decode prog_10_method_1_code 61 = .ok (.sipush 250, 3) := by decide +kernel
theorem dn_Mo_64 : decode prog_10_method_1_code 64 = .ok (.newarray .int, 2) := by decide +kernel
theorem dn_Mo_66 : decode prog_10_method_1_code 66 = .ok (.putfield 32, 3) := by decide +kernel
theorem dn_Mo_69 : decode prog_10_method_1_code 69 = .ok (.aload_n 0, 1) := by decide +kernel
theorem dn_Mo_70 : decode prog_10_method_1_code 70 = .ok (.sipush 250, 3) := by decide +kernel
theorem dn_Mo_73 : decode prog_10_method_1_code 73 = .ok (.newarray .int, 2) := by decide +kernel
theorem dn_Mo_75 : decode prog_10_method_1_code 75 = .ok (.putfield 35, 3) := by decide +kernel
theorem dn_Mo_78 : decode prog_10_method_1_code 78 = .ok (.aload_n 0, 1) := by decide +kernel
theorem dn_Mo_79 : decode prog_10_method_1_code 79 = .ok (.sipush 250, 3) := by decide +kernel
theorem dn_Mo_82 : decode prog_10_method_1_code 82 = .ok (.newarray .int, 2) := by decide +kernel
theorem dn_Mo_84 : decode prog_10_method_1_code 84 = .ok (.putfield 38, 3) := by decide +kernel
theorem dn_Mo_87 : decode prog_10_method_1_code 87 = .ok (.aload_n 0, 1) := by decide +kernel
theorem dn_Mo_88 : decode prog_10_method_1_code 88 = .ok (.sipush 250, 3) := by decide +kernel
theorem dn_Mo_91 : decode prog_10_method_1_code 91 = .ok (.newarray .int, 2) := by decide +kernel
theorem dn_Mo_93 : decode prog_10_method_1_code 93 = .ok (.putfield 41, 3) := by decide +kernel
theorem dn_Mo_96 : decode prog_10_method_1_code 96 = .ok (.aload_n 0, 1) := by decide +kernel
theorem dn_Mo_97 : decode prog_10_method_1_code 97 = .ok (.sipush 250, 3) := by decide +kernel
theorem dn_Mo_100 : decode prog_10_method_1_code 100 = .ok (.newarray .int, 2) := by decide +kernel
theorem dn_Mo_102 : decode prog_10_method_1_code 102 = .ok (.putfield 44, 3) := by decide +kernel
theorem dn_Mo_105 : decode prog_10_method_1_code 105 = .ok (.aload_n 0, 1) := by decide +kernel
theorem dn_Mo_106 : decode prog_10_method_1_code 106 = .ok (.sipush 250, 3) := by decide +kernel
theorem dn_Mo_109 : decode prog_10_method_1_code 109 = .ok (.newarray .int, 2) := by decide +kernel
theorem dn_Mo_111 : decode prog_10_method_1_code 111 = .ok (.putfield 47, 3) := by decide +kernel
theorem dn_Mo_114 : decode prog_10_method_1_code 114 = .ok (.aload_n 0, 1) := by decide +kernel
theorem dn_Mo_115 : decode prog_10_method_1_code 115 = .ok (.sipush 250, 3) := by decide +kernel
theorem dn_Mo_118 : decode prog_10_method_1_code 118 = .ok (.newarray .int, 2) := by decide +kernel
theorem dn_Mo_120 : decode prog_10_method_1_code 120 = .ok (.putfield 50, 3) := by decide +kernel
theorem dn_Mo_123 : decode prog_10_method_1_code 123 = .ok (.aload_n 0, 1) := by decide +kernel
theorem dn_Mo_124 : decode prog_10_method_1_code 124 = .ok (.bipush 60, 2) := by decide +kernel
theorem dn_Mo_126 : decode prog_10_method_1_code 126 = .ok (.newarray .int, 2) := by decide +kernel
theorem dn_Mo_128 : decode prog_10_method_1_code 128 = .ok (.putfield 53, 3) := by decide +kernel
theorem dn_Mo_131 : decode prog_10_method_1_code 131 = .ok (.aload_n 0, 1) := by decide +kernel
theorem dn_Mo_132 : decode prog_10_method_1_code 132 = .ok (.bipush 60, 2) := by decide +kernel
theorem dn_Mo_134 : decode prog_10_method_1_code 134 = .ok (.newarray .int, 2) := by decide +kernel
theorem dn_Mo_136 : decode prog_10_method_1_code 136 = .ok (.putfield 56, 3) := by decide +kernel
theorem dn_Mo_139 : decode prog_10_method_1_code 139 = .ok (.aload_n 0, 1) := by decide +kernel
theorem dn_Mo_140 : decode prog_10_method_1_code 140 = .ok (.sipush 720, 3) := by decide +kernel
theorem dn_Mo_143 : decode prog_10_method_1_code 143 = .ok (.newarray .int, 2) := by decide +kernel
theorem dn_Mo_145 : decode prog_10_method_1_code 145 = .ok (.putfield 59, 3) := by decide +kernel
theorem dn_Mo_148 : decode prog_10_method_1_code 148 = .ok (.aload_n 0, 1) := by decide +kernel
theorem dn_Mo_149 : decode prog_10_method_1_code 149 = .ok (.bipush 12, 2) := by decide +kernel
theorem dn_Mo_151 : decode prog_10_method_1_code 151 = .ok (.newarray .int, 2) := by decide +kernel
theorem dn_Mo_153 : decode prog_10_method_1_code 153 = .ok (.putfield 62, 3) := by decide +kernel
theorem dn_Mo_156 : decode prog_10_method_1_code 156 = .ok (.aload_n 0, 1) := by decide +kernel
theorem dn_Mo_157 : decode prog_10_method_1_code 157 = .ok (.bipush 12, 2) := by decide +kernel
theorem dn_Mo_159 : decode prog_10_method_1_code 159 = .ok (.newarray .int, 2) := by decide +kernel
theorem dn_Mo_161 : decode prog_10_method_1_code 161 = .ok (.putfield 65, 3) := by decide +kernel
theorem dn_Mo_164 : decode prog_10_method_1_code 164 = .ok (.aload_n 0, 1) := by decide +kernel
theorem dn_Mo_165 : decode prog_10_method_1_code 165 = .ok (.bipush 36, 2) := by decide +kernel
theorem dn_Mo_167 : decode prog_10_method_1_code 167 = .ok (.newarray .int, 2) := by decide +kernel
theorem dn_Mo_169 : decode prog_10_method_1_code 169 = .ok (.putfield 68, 3) := by decide +kernel
theorem dn_Mo_172 : decode prog_10_method_1_code 172 = .ok (.aload_n 0, 1) := by decide +kernel
theorem dn_Mo_173 : decode prog_10_method_1_code 173 = .ok (.bipush 12, 2) := by decide +kernel
theorem dn_Mo_175 : decode prog_10_method_1_code 175 = .ok (.newarray .int, 2) := by decide +kernel
theorem dn_Mo_177 : decode prog_10_method_1_code 177 = .ok (.putfield 71, 3) := by decide +kernel
theorem dn_Mo_180 : decode prog_10_method_1_code 180 = .ok (.aload_n 0, 1) := by decide +kernel
theorem dn_Mo_181 : decode prog_10_method_1_code 181 = .ok (.sipush 5250, 3) := by decide +kernel
theorem dn_Mo_184 : decode prog_10_method_1_code 184 = .ok (.newarray .boolean, 2) := by decide +kernel
theorem dn_Mo_186 : decode prog_10_method_1_code 186 = .ok (.putfield 74, 3) := by decide +kernel
theorem dn_Mo_189 : decode prog_10_method_1_code 189 = .ok (.aload_n 0, 1) := by decide +kernel
theorem dn_Mo_190 : decode prog_10_method_1_code 190 = .ok (.sipush 5250, 3) := by decide +kernel
theorem dn_Mo_193 : decode prog_10_method_1_code 193 = .ok (.newarray .int, 2) := by decide +kernel
theorem dn_Mo_195 : decode prog_10_method_1_code 195 = .ok (.putfield 77, 3) := by decide +kernel
theorem dn_Mo_198 : decode prog_10_method_1_code 198 = .ok (.aload_n 0, 1) := by decide +kernel
theorem dn_Mo_199 : decode prog_10_method_1_code 199 = .ok (.bipush 50, 2) := by decide +kernel
theorem dn_Mo_201 : decode prog_10_method_1_code 201 = .ok (.newarray .boolean, 2) := by decide +kernel
theorem dn_Mo_203 : decode prog_10_method_1_code 203 = .ok (.putfield 80, 3) := by decide +kernel
theorem dn_Mo_206 : decode prog_10_method_1_code 206 = .ok (.aload_n 0, 1) := by decide +kernel
theorem dn_Mo_207 : decode prog_10_method_1_code 207 = .ok (.bipush 50, 2) := by decide +kernel
theorem dn_Mo_209 : decode prog_10_method_1_code 209 = .ok (.newarray .int, 2) := by decide +kernel
theorem dn_Mo_211 : decode prog_10_method_1_code 211 = .ok (.putfield 83, 3) := by decide +kernel
theorem dn_Mo_214 : decode prog_10_method_1_code 214 = .ok (.aload_n 0, 1) := by decide +kernel
theorem dn_Mo_215 : decode prog_10_method_1_code 215 = .ok (.iconst 2, 1) := by decide +kernel
theorem dn_Mo_216 : decode prog_10_method_1_code 216 = .ok (.putfield 86, 3) := by decide +kernel
theorem dn_Mo_219 : decode prog_10_method_1_code 219 = .ok (.aload_n 0, 1) := by decide +kernel
theorem dn_Mo_220 : decode prog_10_method_1_code 220 = .ok (.getfield 7, 3) := by decide +kernel
theorem dn_Mo_223 : decode prog_10_method_1_code 223 = .ok (.iconst 1, 1) := by decide +kernel
theorem dn_Mo_224 : decode prog_10_method_1_code 224 = .ok (.iconst 1, 1) := by decide +kernel
theorem dn_Mo_225 : decode prog_10_method_1_code 225 = .ok (.iastore, 1) := by decide +kernel
theorem dn_Mo_226 : decode prog_10_method_1_code 226 = .ok (.aload_n 0, 1) := by decide +kernel
theorem dn_Mo_227 : decode prog_10_method_1_code 227 = .ok (.getfield 19, 3) := by decide +kernel
theorem dn_Mo_230 : decode prog_10_method_1_code 230 = .ok (.iconst 0, 1) := by decide +kernel
theorem dn_Mo_231 : decode prog_10_method_1_code 231 = .ok (.iconst 1, 1) := by decide +kernel
theorem dn_Mo_232 : decode prog_10_method_1_code 232 = .ok (.iastore, 1) := by decide +kernel
theorem dn_Mo_233 : decode prog_10_method_1_code 233 = .ok (.aload_n 0, 1) := by decide +kernel
theorem dn_Mo_234 : decode prog_10_method_1_code 234 = .ok (.getfield 19, 3) := by decide +kernel
theorem dn_Mo_237 : decode prog_10_method_1_code 237 = .ok (.iconst 1, 1) := by decide +kernel
theorem dn_Mo_238 : decode prog_10_method_1_code 238 = .ok (.iconst 1, 1) := by decide +kernel
theorem dn_Mo_239 : decode prog_10_method_1_code 239 = .ok (.iastore, 1) := by decide +kernel
theorem dn_Mo_240 : decode prog_10_method_1_code 240 = .ok (.aload_n 0, 1) := by decide +kernel
theorem dn_Mo_241 : decode prog_10_method_1_code 241 = .ok (.getfield 29, 3) := by decide +kernel
theorem dn_Mo_244 : decode prog_10_method_1_code 244 = .ok (.iconst 1, 1) := by decide +kernel
theorem dn_Mo_245 : decode prog_10_method_1_code 245 = .ok (.iconst 1, 1) := by decide +kernel
theorem dn_Mo_246 : decode prog_10_method_1_code 246 = .ok (.iastore, 1) := by decide +kernel
theorem dn_Mo_247 : decode prog_10_method_1_code 247 = .ok (.aload_n 0, 1) := by decide +kernel
theorem dn_Mo_248 : decode prog_10_method_1_code 248 = .ok (.getfield 26, 3) := by decide +kernel
theorem dn_Mo_251 : decode prog_10_method_1_code 251 = .ok (.iconst 1, 1) := by decide +kernel
theorem dn_Mo_252 : decode prog_10_method_1_code 252 = .ok (.iconst 1, 1) := by decide +kernel
theorem dn_Mo_253 : decode prog_10_method_1_code 253 = .ok (.iastore, 1) := by decide +kernel
theorem dn_Mo_254 : decode prog_10_method_1_code 254 = .ok (.aload_n 0, 1) := by decide +kernel
theorem dn_Mo_255 : decode prog_10_method_1_code 255 = .ok (.iconst 2, 1) := by decide +kernel
theorem dn_Mo_256 : decode prog_10_method_1_code 256 = .ok (.putfield 90, 3) := by decide +kernel
theorem dn_Mo_259 : decode prog_10_method_1_code 259 = .ok (.return_, 1) := by decide +kernel
theorem dn_Arrays_fill_0 : decode prog_13_method_103_code 0 = .ok (.iconst 0, 1) := by decide +kernel
theorem dn_Arrays_fill_1 : decode prog_13_method_103_code 1 = .ok (.istore_n 2, 1) := by decide +kernel
theorem dn_Arrays_fill_2 : decode prog_13_method_103_code 2 = .ok (.aload_n 0, 1) := by decide +kernel
theorem dn_Arrays_fill_3 : decode prog_13_method_103_code 3 = .ok (.arraylength, 1) := by decide +kernel
theorem dn_Arrays_fill_4 : decode prog_13_method_103_code 4 = .ok (.istore_n 3, 1) := by decide +kernel
theorem dn_Arrays_fill_5 : decode prog_13_method_103_code 5 = .ok (.iload_n 2, 1) := by decide +kernel
theorem dn_Arrays_fill_6 : decode prog_13_method_103_code 6 = .ok (.iload_n 3, 1) := by decide +kernel
theorem dn_Arrays_fill_7 : decode prog_13_method_103_code 7 = .ok (.if_icmp .ge 13, 3) := by decide +kernel
theorem dn_Arrays_fill_10 : decode prog_13_method_103_code 10 = .ok (.aload_n 0, 1) := by decide +kernel
theorem dn_Arrays_fill_11 : decode prog_13_method_103_code 11 = .ok (.iload_n 2, 1) := by decide +kernel
theorem dn_Arrays_fill_12 : decode prog_13_method_103_code 12 = .ok (.iload_n 1, 1) := by decide +kernel
theorem dn_Arrays_fill_13 : decode prog_13_method_103_code 13 = .ok (.iastore, 1) := by decide +kernel
theorem dn_Arrays_fill_14 : decode prog_13_method_103_code 14 = .ok (.iinc 2 1, 3) := by decide +kernel
theorem dn_Arrays_fill_17 : decode prog_13_method_103_code 17 = .ok (.goto (-12), 3) := by decide +kernel
theorem dn_Arrays_fill_20 : decode prog_13_method_103_code 20 = .ok (.return_, 1) := by decide +kernel
section FILL
variable {p : Program} {l : Launch} {e : Env} {R : Room} {s : State} {m : MethodId} {args : Array Value} {below : List Frame} {meth : Method} {c : Code} {cells slots : Nat} {Q : State → Prop} {D : va_G} {cI cZ : ClassId} {A : Nat → Prop} {H0 : Heap} {n h0 : Nat} {v : Int32} {f : Nat → Int32}
theorem co_fill_loop (hx : p.tables.exec = Jvm.exec) (hb : c.code = prog_13_method_103_code) (hK : va_K D kcl (kTy cI cZ) s) (hn : n ≤ 5000) (kk : ∀ (H : Heap) (locs : List Loc) (ls : Array Slot), va_P D kcl [(h0, .inl (cI, n, .inl (ko_f n v f)))] H → va_D A [(h0, .inl (cI, n, .inl (ko_f n v f)))] → va_S A H0 H locs → W p l e R s m args below meth c H locs cells slots Q (F0 m 20 ls [])) : ∀ (r k : Nat), k + r = n → ∀ (H : Heap) (locs : List Loc) (ls : Array Slot), lv_has ls 4 [(2, .int (kn k)), (3, .int (kn n)), (0, .ref h0), (1, .int v)] → va_P D kcl [(h0, .inl (cI, n, .inl (ko_f k v f)))] H → va_D A [(h0, .inl (cI, n, .inl (ko_f k v f)))] → va_S A H0 H locs → W p l e R s m args below meth c H locs cells slots Q (F0 m 5 ls []) := by
  intro r
  induction r with
  | zero =>
    intro k hk H locs ls hl hP hD hS
    have e0 : k = n := by omega
    subst e0
    refine lv_iload_n hx hb dn_Arrays_fill_5 rfl (lv_at hl 0 rfl) ?_
    refine lv_iload_n hx hb dn_Arrays_fill_6 rfl (lv_at hl 1 rfl) ?_
    exact lv_icmp_ge (tgt := 20) hx hb dn_Arrays_fill_7 (by decide) (fun _ => kk H locs ls hP hD hS) (fun h => absurd ((kn_le (by omega) (by omega)).mpr (Nat.le_refl _)) h)
  | succ r ih =>
    intro k hk H locs ls hl hP hD hS
    refine lv_iload_n hx hb dn_Arrays_fill_5 rfl (lv_at hl 0 rfl) ?_
    refine lv_iload_n hx hb dn_Arrays_fill_6 rfl (lv_at hl 1 rfl) ?_
    refine lv_icmp_ge (tgt := 20) hx hb dn_Arrays_fill_7 (by decide) (fun h => absurd ((kn_le (by omega) (by omega)).mp h) (by omega)) (fun _ => ?_)
    refine lv_aload_n hx hb dn_Arrays_fill_10 rfl (lv_at hl 2 rfl) ?_
    refine lv_iload_n hx hb dn_Arrays_fill_11 rfl (lv_at hl 0 rfl) ?_
    refine lv_iload_n hx hb dn_Arrays_fill_12 rfl (lv_at hl 3 rfl) ?_
    refine co_iast (k := k) hx hb hK hP hD hS 0 rfl (kn_in (by omega) (by omega)) (kn_tn (by omega)) dn_Arrays_fill_13 (fun H1 locs1 hP1 hD1 hS1 => ?_)
    have hP1 : va_P D kcl [(h0, .inl (cI, n, .inl (upd (ko_f k v f) k v)))] H1 := hP1
    have hD1 : va_D A [(h0, .inl (cI, n, .inl (upd (ko_f k v f) k v)))] := hD1
    rw [ko_fs] at hP1 hD1
    refine lv_iinc (v := kn (k + 1)) (k := 0) hx hb dn_Arrays_fill_14 hl rfl ?_ (by decide) rfl (fun ls1 hl1 => ?_)
    · show kn k + Int32.ofInt 1 = kn (k + 1)
      rw [show Int32.ofInt 1 = kn 1 from by decide, kn_add]
    · refine lv_goto (tgt := 5) hx hb dn_Arrays_fill_17 (by decide) ?_
      exact ih (k + 1) (by omega) H1 locs1 ls1 hl1 hP1 hD1 hS1
end FILL
set_option maxHeartbeats 4000000 in
theorem co_fill {n : Nat} {v : Int32} {f : Nat → Int32} (l : Launch) (D : va_G) (cI cZ : ClassId) (h0 sz : Nat) (hn : n ≤ 5000) : Met l ⟨"java/util/Arrays", "fill", "([II)V"⟩ (Cond.code ⟨"java/util/Arrays", "fill", "([II)V"⟩ prog_13_method_103_code 4 none :: kwl) ({ frames := 0, cells := 0, slots := 0, locals := 0 }) (va_Pc [.ref h0, .int v] (coB D cI cZ [(h0, .inl (cI, n, .inl f))] sz)) (va_Qv (fun _ : Nat → Nat => True) (coE D cI cZ (va_A [(h0, .inl (cI, n, .inl f))] sz) (fun _ => [(h0, .inl (cI, n, .inl (ko_f n v f)))])) (va_A [(h0, .inl (cI, n, .inl f))] sz)) 0 0 (va_A [(h0, .inl (cI, n, .inl f))] sz) := by
  refine Met.ofW (cc := prog_13_method_103_code) (maxL := 4) (ret := none) (by decide +kernel) rfl ?_
  intro p e s m args below meth c s₁ B hml hv
  obtain ⟨rfl, hsz, hP, hK, hD0⟩ := hv
  have hx := B.exec
  have hb := B.bytes
  have hr : meth.sig.returnType = none := B.returns
  have hlocks := B.notSynchronized
  subst hsz
  have hD := hD0.self (sz := s.heap.size)
  generalize hAe : va_A [(h0, .inl (cI, n, .inl f))] s.heap.size = A at hD ⊢
  have hS : va_S A s.heap s.heap [] := va_S.rf
  have hl := lv_entry ([.ref h0, .int v]) (n := 4) (Nat.le_of_ble_eq_true rfl)
  rw [lg_entry_eq]
  generalize (lg_sl ([.ref h0, .int v]) ++ List.replicate (4 - (lg_sl ([.ref h0, .int v])).length) Slot.unset).toArray = ls at hl ⊢
  have hl : lv_has ls 4 [(0, .ref h0), (1, .int v)] := hl
  refine lv_iconst (v := 0) hx hb dn_Arrays_fill_0 (by decide) ?_
  refine lv_istore_n hx hb dn_Arrays_fill_1 rfl hl (by decide) rfl (fun ls hl => ?_)
  have hl : lv_has ls 4 [(2, .int 0), (0, .ref h0), (1, .int v)] := hl
  refine lv_aload_n hx hb dn_Arrays_fill_2 rfl (lv_at hl 1 rfl) ?_
  refine va_alen (v := kn n) hx hb hK hP 0 0 rfl rfl rfl dn_Arrays_fill_3 ?_
  refine lv_istore_n hx hb dn_Arrays_fill_4 rfl hl (by decide) rfl (fun ls hl => ?_)
  have hl : lv_has ls 4 [(3, .int (kn n)), (2, .int 0), (0, .ref h0), (1, .int v)] := hl
  have hl := lv_sub (l' := [(2, .int (kn 0)), (3, .int (kn n)), (0, .ref h0), (1, .int v)]) hl [1, 0, 2, 3] rfl
  have hP2 : va_P D kcl [(h0, .inl (cI, n, .inl (ko_f 0 v f)))] s.heap := by rw [ko_f0]; exact hP
  have hD2 : va_D A [(h0, .inl (cI, n, .inl (ko_f 0 v f)))] := by rw [ko_f0]; exact hD
  refine co_fill_loop hx hb hK hn (fun H locs ls hP hD hS => ?_) n 0 (by omega) s.heap [] ls hl hP2 hD2 hS
  exact W.vret hx hb hr (fun t ht hW => ⟨⟨(fun _ => 0), rfl, trivial, by rw [ht]; exact hP, va_K.moved hW.alike hK, hD⟩, hS.F ht⟩) hS.2.2 dn_Arrays_fill_20
