/-! printed: words by their places -/
theorem kgn0 : (u_ws kR0 kT0 8).all goodWord = true := by decide +kernel
theorem kjn0 : ∀ w ∈ u_ws kR0 kT0 8, w ∈ kwl := fun w h => kwl_in (kin0 w h) (List.all_eq_true.mp kgn0 w h)
theorem kgn1 : (u_ws kR1 kT1 8).all goodWord = true := by decide +kernel
theorem kjn1 : ∀ w ∈ u_ws kR1 kT1 8, w ∈ kwl := fun w h => kwl_in (kin1 w h) (List.all_eq_true.mp kgn1 w h)
theorem kgn2 : (u_ws kR2 kT2 3).all goodWord = true := by decide +kernel
theorem kjn2 : ∀ w ∈ u_ws kR2 kT2 3, w ∈ kwl := fun w h => kwl_in (kin2 w h) (List.all_eq_true.mp kgn2 w h)
theorem kgn3 : (u_ws kR3 kT3 15).all goodWord = true := by decide +kernel
theorem kjn3 : ∀ w ∈ u_ws kR3 kT3 15, w ∈ kwl := fun w h => kwl_in (kin3 w h) (List.all_eq_true.mp kgn3 w h)
theorem kgn4 : (u_ws kR4 kT4 8).all goodWord = true := by decide +kernel
theorem kjn4 : ∀ w ∈ u_ws kR4 kT4 8, w ∈ kwl := fun w h => kwl_in (kin4 w h) (List.all_eq_true.mp kgn4 w h)
theorem kgn5 : (u_ws kR5 kT5 8).all goodWord = true := by decide +kernel
theorem kjn5 : ∀ w ∈ u_ws kR5 kT5 8, w ∈ kwl := fun w h => kwl_in (kin5 w h) (List.all_eq_true.mp kgn5 w h)
theorem kgn6 : (u_ws kR6 kT6 6).all goodWord = true := by decide +kernel
theorem kjn6 : ∀ w ∈ u_ws kR6 kT6 6, w ∈ kwl := fun w h => kwl_in (kin6 w h) (List.all_eq_true.mp kgn6 w h)
theorem kgn7 : (u_ws kR7 kT7 5).all goodWord = true := by decide +kernel
theorem kjn7 : ∀ w ∈ u_ws kR7 kT7 5, w ∈ kwl := fun w h => kwl_in (kin7 w h) (List.all_eq_true.mp kgn7 w h)
theorem kgn8 : (u_ws kR8 kT8 38).all goodWord = true := by decide +kernel
theorem kjn8 : ∀ w ∈ u_ws kR8 kT8 38, w ∈ kwl := fun w h => kwl_in (kin8 w h) (List.all_eq_true.mp kgn8 w h)
theorem k_max1 : Cond.static Lib.Math.max.name ∈ kwl := kwl_in (List.mem_of_getElem? (i := 115) (by decide +kernel)) rfl
theorem k_max2 : Cond.initialized "java/lang/Math" ∈ kwl := kwl_in (List.mem_of_getElem? (i := 68) (by decide +kernel)) rfl
theorem k_max3 : Cond.code Lib.Math.max.name Lib.Math.max.code 2 (some .int) ∈ kwl := kwl_in (List.mem_of_getElem? (i := 116) (by decide +kernel)) rfl
theorem k_cp1 : Cond.native arraycopyName ∈ kwl := kwl_in (List.mem_of_getElem? (i := 513) (by decide +kernel)) rfl
theorem k_cp2 : Cond.static arraycopyName ∈ kwl := kwl_in (List.mem_of_getElem? (i := 512) (by decide +kernel)) rfl
theorem k_cp3 : Cond.initialized "java/lang/System" ∈ kwl := kwl_in (List.mem_of_getElem? (i := 75) (by decide +kernel)) rfl
theorem kf_0_10 : Cond.fieldLink kR0 10 "SequentKernel" "types" "LSequentKernel$Types;" ∈ kwl := kwl_in (List.mem_of_getElem? (i := 335) (by decide +kernel)) rfl
theorem kf_0_21 : Cond.fieldLink kR0 21 "SequentKernel" "terms" "LSequentKernel$Terms;" ∈ kwl := kwl_in (List.mem_of_getElem? (i := 336) (by decide +kernel)) rfl
theorem kf_0_28 : Cond.fieldLink kR0 28 "SequentKernel" "facts" "LSequentKernel$Facts;" ∈ kwl := kwl_in (List.mem_of_getElem? (i := 337) (by decide +kernel)) rfl
theorem kf_0_37 : Cond.fieldLink kR0 37 "SequentKernel" "change" "LSequentKernel$Change;" ∈ kwl := kwl_in (List.mem_of_getElem? (i := 338) (by decide +kernel)) rfl
theorem kf_0_46 : Cond.fieldLink kR0 46 "SequentKernel" "rules" "LSequentKernel$Rules;" ∈ kwl := kwl_in (List.mem_of_getElem? (i := 339) (by decide +kernel)) rfl
theorem kf_0_53 : Cond.fieldLink kR0 53 "SequentKernel" "trace" "LSequentKernel$Trace;" ∈ kwl := kwl_in (List.mem_of_getElem? (i := 340) (by decide +kernel)) rfl
theorem kf_0_65 : Cond.fieldLink kR0 65 "SequentKernel$Types" "numbers" "LSequentKernel$Numbers;" ∈ kwl := kwl_in (List.mem_of_getElem? (i := 122) (by decide +kernel)) rfl
theorem kf_0_83 : Cond.fieldLink kR0 83 "SequentKernel$Terms" "numbers" "LSequentKernel$Numbers;" ∈ kwl := kwl_in (List.mem_of_getElem? (i := 166) (by decide +kernel)) rfl
theorem kf_0_105 : Cond.fieldLink kR0 105 "SequentKernel" "constants" "I" ∈ kwl := kwl_in (List.mem_of_getElem? (i := 341) (by decide +kernel)) rfl
theorem kf_0_130 : Cond.fieldLink kR0 130 "SequentKernel" "definedTypes" "I" ∈ kwl := kwl_in (List.mem_of_getElem? (i := 342) (by decide +kernel)) rfl
theorem kf_0_153 : Cond.fieldLink kR0 153 "SequentKernel$Trace" "op" "[I" ∈ kwl := kwl_in (List.mem_of_getElem? (i := 316) (by decide +kernel)) rfl
theorem kf_0_157 : Cond.fieldLink kR0 157 "SequentKernel$Trace" "a" "[I" ∈ kwl := kwl_in (List.mem_of_getElem? (i := 318) (by decide +kernel)) rfl
theorem kf_0_160 : Cond.fieldLink kR0 160 "SequentKernel$Trace" "b" "[I" ∈ kwl := kwl_in (List.mem_of_getElem? (i := 320) (by decide +kernel)) rfl
theorem kf_0_163 : Cond.fieldLink kR0 163 "SequentKernel$Trace" "c" "[I" ∈ kwl := kwl_in (List.mem_of_getElem? (i := 322) (by decide +kernel)) rfl
theorem kf_0_172 : Cond.fieldLink kR0 172 "SequentKernel$Terms" "first" "[I" ∈ kwl := kwl_in (List.mem_of_getElem? (i := 171) (by decide +kernel)) rfl
theorem kf_0_175 : Cond.fieldLink kR0 175 "SequentKernel$Terms" "second" "[I" ∈ kwl := kwl_in (List.mem_of_getElem? (i := 174) (by decide +kernel)) rfl
theorem kf_0_182 : Cond.fieldLink kR0 182 "SequentKernel$Terms" "marked" "[Z" ∈ kwl := kwl_in (List.mem_of_getElem? (i := 182) (by decide +kernel)) rfl
theorem kf_5_13 : Cond.fieldLink kR5 13 "SequentKernel$Change" "termMemory" "[I" ∈ kwl := kwl_in (List.mem_of_getElem? (i := 261) (by decide +kernel)) rfl
theorem kf_5_19 : Cond.fieldLink kR5 19 "SequentKernel$Change" "typeMemory" "[I" ∈ kwl := kwl_in (List.mem_of_getElem? (i := 262) (by decide +kernel)) rfl
theorem kf_5_22 : Cond.fieldLink kR5 22 "SequentKernel$Change" "types" "LSequentKernel$Types;" ∈ kwl := kwl_in (List.mem_of_getElem? (i := 259) (by decide +kernel)) rfl
theorem kf_5_26 : Cond.fieldLink kR5 26 "SequentKernel$Change" "terms" "LSequentKernel$Terms;" ∈ kwl := kwl_in (List.mem_of_getElem? (i := 260) (by decide +kernel)) rfl
theorem kf_5_30 : Cond.fieldLink kR5 30 "SequentKernel$Change" "turn" "I" ∈ kwl := kwl_in (List.mem_of_getElem? (i := 263) (by decide +kernel)) rfl
theorem kf_5_34 : Cond.fieldLink kR5 34 "SequentKernel$Change" "way" "I" ∈ kwl := kwl_in (List.mem_of_getElem? (i := 264) (by decide +kernel)) rfl
theorem kf_5_37 : Cond.fieldLink kR5 37 "SequentKernel$Change" "old" "I" ∈ kwl := kwl_in (List.mem_of_getElem? (i := 265) (by decide +kernel)) rfl
theorem kf_5_40 : Cond.fieldLink kR5 40 "SequentKernel$Change" "put" "I" ∈ kwl := kwl_in (List.mem_of_getElem? (i := 266) (by decide +kernel)) rfl
theorem kf_5_51 : Cond.fieldLink kR5 51 "SequentKernel$Terms" "type" "[I" ∈ kwl := kwl_in (List.mem_of_getElem? (i := 176) (by decide +kernel)) rfl
theorem kf_5_62 : Cond.fieldLink kR5 62 "SequentKernel$Terms" "first" "[I" ∈ kwl := kwl_in (List.mem_of_getElem? (i := 170) (by decide +kernel)) rfl
theorem kf_5_68 : Cond.fieldLink kR5 68 "SequentKernel$Terms" "general" "[Z" ∈ kwl := kwl_in (List.mem_of_getElem? (i := 179) (by decide +kernel)) rfl
theorem kf_5_80 : Cond.fieldLink kR5 80 "SequentKernel$Terms" "sort" "[I" ∈ kwl := kwl_in (List.mem_of_getElem? (i := 168) (by decide +kernel)) rfl
theorem kf_5_83 : Cond.fieldLink kR5 83 "SequentKernel$Terms" "second" "[I" ∈ kwl := kwl_in (List.mem_of_getElem? (i := 173) (by decide +kernel)) rfl
theorem kf_5_89 : Cond.fieldLink kR5 89 "SequentKernel$Types" "first" "[I" ∈ kwl := kwl_in (List.mem_of_getElem? (i := 127) (by decide +kernel)) rfl
theorem kf_5_93 : Cond.fieldLink kR5 93 "SequentKernel$Types" "general" "[Z" ∈ kwl := kwl_in (List.mem_of_getElem? (i := 132) (by decide +kernel)) rfl
theorem kf_5_94 : Cond.fieldLink kR5 94 "SequentKernel$Types" "sort" "[I" ∈ kwl := kwl_in (List.mem_of_getElem? (i := 125) (by decide +kernel)) rfl
theorem kf_5_98 : Cond.fieldLink kR5 98 "SequentKernel$Types" "second" "[I" ∈ kwl := kwl_in (List.mem_of_getElem? (i := 129) (by decide +kernel)) rfl
theorem kf_4_11 : Cond.fieldLink kR4 11 "SequentKernel$Facts" "conclusion" "[I" ∈ kwl := kwl_in (List.mem_of_getElem? (i := 228) (by decide +kernel)) rfl
theorem kf_4_15 : Cond.fieldLink kR4 15 "SequentKernel$Facts" "size" "[I" ∈ kwl := kwl_in (List.mem_of_getElem? (i := 229) (by decide +kernel)) rfl
theorem kf_4_18 : Cond.fieldLink kR4 18 "SequentKernel$Facts" "hypotheses" "[I" ∈ kwl := kwl_in (List.mem_of_getElem? (i := 230) (by decide +kernel)) rfl
theorem kf_4_21 : Cond.fieldLink kR4 21 "SequentKernel$Facts" "draft" "[I" ∈ kwl := kwl_in (List.mem_of_getElem? (i := 231) (by decide +kernel)) rfl
theorem kf_4_24 : Cond.fieldLink kR4 24 "SequentKernel$Facts" "count" "I" ∈ kwl := kwl_in (List.mem_of_getElem? (i := 234) (by decide +kernel)) rfl
theorem kf_4_28 : Cond.fieldLink kR4 28 "SequentKernel$Facts" "kept" "I" ∈ kwl := kwl_in (List.mem_of_getElem? (i := 235) (by decide +kernel)) rfl
theorem kf_4_43 : Cond.fieldLink kR4 43 "SequentKernel$Facts" "draftSize" "I" ∈ kwl := kwl_in (List.mem_of_getElem? (i := 232) (by decide +kernel)) rfl
theorem kf_4_46 : Cond.fieldLink kR4 46 "SequentKernel$Facts" "draftRefused" "Z" ∈ kwl := kwl_in (List.mem_of_getElem? (i := 233) (by decide +kernel)) rfl
theorem kf_2_9 : Cond.fieldLink kR2 9 "SequentKernel$Numbers" "place" "[I" ∈ kwl := kwl_in (List.mem_of_getElem? (i := 99) (by decide +kernel)) rfl
theorem kf_2_15 : Cond.fieldLink kR2 15 "SequentKernel$Numbers" "number" "[I" ∈ kwl := kwl_in (List.mem_of_getElem? (i := 100) (by decide +kernel)) rfl
theorem kf_2_24 : Cond.fieldLink kR2 24 "SequentKernel$Numbers" "count" "I" ∈ kwl := kwl_in (List.mem_of_getElem? (i := 101) (by decide +kernel)) rfl
theorem kf_6_9 : Cond.fieldLink kR6 9 "SequentKernel$Rules" "types" "LSequentKernel$Types;" ∈ kwl := kwl_in (List.mem_of_getElem? (i := 290) (by decide +kernel)) rfl
theorem kf_6_15 : Cond.fieldLink kR6 15 "SequentKernel$Rules" "terms" "LSequentKernel$Terms;" ∈ kwl := kwl_in (List.mem_of_getElem? (i := 291) (by decide +kernel)) rfl
theorem kf_6_19 : Cond.fieldLink kR6 19 "SequentKernel$Rules" "facts" "LSequentKernel$Facts;" ∈ kwl := kwl_in (List.mem_of_getElem? (i := 292) (by decide +kernel)) rfl
theorem kf_6_23 : Cond.fieldLink kR6 23 "SequentKernel$Rules" "change" "LSequentKernel$Change;" ∈ kwl := kwl_in (List.mem_of_getElem? (i := 293) (by decide +kernel)) rfl
theorem kf_6_27 : Cond.fieldLink kR6 27 "SequentKernel$Rules" "firstReplayed" "I" ∈ kwl := kwl_in (List.mem_of_getElem? (i := 294) (by decide +kernel)) rfl
theorem kf_6_31 : Cond.fieldLink kR6 31 "SequentKernel$Rules" "replayed" "I" ∈ kwl := kwl_in (List.mem_of_getElem? (i := 295) (by decide +kernel)) rfl
theorem kf_6_88 : Cond.fieldLink kR6 88 "SequentKernel$Terms" "numbers" "LSequentKernel$Numbers;" ∈ kwl := kwl_in (List.mem_of_getElem? (i := 165) (by decide +kernel)) rfl
theorem kf_6_99 : Cond.fieldLink kR6 99 "SequentKernel$Types" "numbers" "LSequentKernel$Numbers;" ∈ kwl := kwl_in (List.mem_of_getElem? (i := 123) (by decide +kernel)) rfl
theorem kf_6_154 : Cond.fieldLink kR6 154 "SequentKernel$Terms" "marked" "[Z" ∈ kwl := kwl_in (List.mem_of_getElem? (i := 181) (by decide +kernel)) rfl
theorem kf_6_171 : Cond.fieldLink kR6 171 "SequentKernel$Terms" "type" "[I" ∈ kwl := kwl_in (List.mem_of_getElem? (i := 177) (by decide +kernel)) rfl
theorem kf_3_20 : Cond.fieldLink kR3 20 "SequentKernel$Terms" "sort" "[I" ∈ kwl := kwl_in (List.mem_of_getElem? (i := 167) (by decide +kernel)) rfl
theorem kf_3_24 : Cond.fieldLink kR3 24 "SequentKernel$Terms" "first" "[I" ∈ kwl := kwl_in (List.mem_of_getElem? (i := 169) (by decide +kernel)) rfl
theorem kf_3_27 : Cond.fieldLink kR3 27 "SequentKernel$Terms" "second" "[I" ∈ kwl := kwl_in (List.mem_of_getElem? (i := 172) (by decide +kernel)) rfl
theorem kf_3_30 : Cond.fieldLink kR3 30 "SequentKernel$Terms" "type" "[I" ∈ kwl := kwl_in (List.mem_of_getElem? (i := 175) (by decide +kernel)) rfl
theorem kf_3_33 : Cond.fieldLink kR3 33 "SequentKernel$Terms" "general" "[Z" ∈ kwl := kwl_in (List.mem_of_getElem? (i := 178) (by decide +kernel)) rfl
theorem kf_3_37 : Cond.fieldLink kR3 37 "SequentKernel$Terms" "marked" "[Z" ∈ kwl := kwl_in (List.mem_of_getElem? (i := 180) (by decide +kernel)) rfl
theorem kf_3_40 : Cond.fieldLink kR3 40 "SequentKernel$Terms" "anyFree" "[Z" ∈ kwl := kwl_in (List.mem_of_getElem? (i := 183) (by decide +kernel)) rfl
theorem kf_3_43 : Cond.fieldLink kR3 43 "SequentKernel$Terms" "height" "[I" ∈ kwl := kwl_in (List.mem_of_getElem? (i := 184) (by decide +kernel)) rfl
theorem kf_3_46 : Cond.fieldLink kR3 46 "SequentKernel$Terms" "newest" "[I" ∈ kwl := kwl_in (List.mem_of_getElem? (i := 185) (by decide +kernel)) rfl
theorem kf_3_49 : Cond.fieldLink kR3 49 "SequentKernel$Terms" "older" "[I" ∈ kwl := kwl_in (List.mem_of_getElem? (i := 186) (by decide +kernel)) rfl
theorem kf_3_52 : Cond.fieldLink kR3 52 "SequentKernel$Terms" "bucket" "[I" ∈ kwl := kwl_in (List.mem_of_getElem? (i := 187) (by decide +kernel)) rfl
theorem kf_3_55 : Cond.fieldLink kR3 55 "SequentKernel$Terms" "types" "LSequentKernel$Types;" ∈ kwl := kwl_in (List.mem_of_getElem? (i := 188) (by decide +kernel)) rfl
theorem kf_3_65 : Cond.fieldLink kR3 65 "SequentKernel$Terms" "count" "I" ∈ kwl := kwl_in (List.mem_of_getElem? (i := 189) (by decide +kernel)) rfl
theorem kf_3_69 : Cond.fieldLink kR3 69 "SequentKernel$Terms" "kept" "I" ∈ kwl := kwl_in (List.mem_of_getElem? (i := 190) (by decide +kernel)) rfl
theorem kf_3_96 : Cond.fieldLink kR3 96 "SequentKernel$Types" "second" "[I" ∈ kwl := kwl_in (List.mem_of_getElem? (i := 130) (by decide +kernel)) rfl
theorem kf_3_112 : Cond.fieldLink kR3 112 "SequentKernel$Types" "general" "[Z" ∈ kwl := kwl_in (List.mem_of_getElem? (i := 133) (by decide +kernel)) rfl
theorem kf_7_11 : Cond.fieldLink kR7 11 "SequentKernel$Trace" "op" "[I" ∈ kwl := kwl_in (List.mem_of_getElem? (i := 315) (by decide +kernel)) rfl
theorem kf_7_15 : Cond.fieldLink kR7 15 "SequentKernel$Trace" "a" "[I" ∈ kwl := kwl_in (List.mem_of_getElem? (i := 317) (by decide +kernel)) rfl
theorem kf_7_18 : Cond.fieldLink kR7 18 "SequentKernel$Trace" "b" "[I" ∈ kwl := kwl_in (List.mem_of_getElem? (i := 319) (by decide +kernel)) rfl
theorem kf_7_21 : Cond.fieldLink kR7 21 "SequentKernel$Trace" "c" "[I" ∈ kwl := kwl_in (List.mem_of_getElem? (i := 321) (by decide +kernel)) rfl
theorem kf_7_24 : Cond.fieldLink kR7 24 "SequentKernel$Trace" "count" "I" ∈ kwl := kwl_in (List.mem_of_getElem? (i := 323) (by decide +kernel)) rfl
theorem kf_1_20 : Cond.fieldLink kR1 20 "SequentKernel$Types" "sort" "[I" ∈ kwl := kwl_in (List.mem_of_getElem? (i := 124) (by decide +kernel)) rfl
theorem kf_1_24 : Cond.fieldLink kR1 24 "SequentKernel$Types" "first" "[I" ∈ kwl := kwl_in (List.mem_of_getElem? (i := 126) (by decide +kernel)) rfl
theorem kf_1_27 : Cond.fieldLink kR1 27 "SequentKernel$Types" "second" "[I" ∈ kwl := kwl_in (List.mem_of_getElem? (i := 128) (by decide +kernel)) rfl
theorem kf_1_30 : Cond.fieldLink kR1 30 "SequentKernel$Types" "general" "[Z" ∈ kwl := kwl_in (List.mem_of_getElem? (i := 131) (by decide +kernel)) rfl
theorem kf_1_34 : Cond.fieldLink kR1 34 "SequentKernel$Types" "height" "[I" ∈ kwl := kwl_in (List.mem_of_getElem? (i := 134) (by decide +kernel)) rfl
theorem kf_1_45 : Cond.fieldLink kR1 45 "SequentKernel$Types" "count" "I" ∈ kwl := kwl_in (List.mem_of_getElem? (i := 135) (by decide +kernel)) rfl
theorem kf_1_49 : Cond.fieldLink kR1 49 "SequentKernel$Types" "kept" "I" ∈ kwl := kwl_in (List.mem_of_getElem? (i := 136) (by decide +kernel)) rfl
theorem kf_8_7 : Cond.fieldLink kR8 7 "SequentKernelModel" "tSort" "[I" ∈ kwl := kwl_in (List.mem_of_getElem? (i := 762) (by decide +kernel)) rfl
theorem kf_8_13 : Cond.fieldLink kR8 13 "SequentKernelModel" "tA" "[I" ∈ kwl := kwl_in (List.mem_of_getElem? (i := 763) (by decide +kernel)) rfl
theorem kf_8_16 : Cond.fieldLink kR8 16 "SequentKernelModel" "tB" "[I" ∈ kwl := kwl_in (List.mem_of_getElem? (i := 764) (by decide +kernel)) rfl
theorem kf_8_19 : Cond.fieldLink kR8 19 "SequentKernelModel" "tHeight" "[I" ∈ kwl := kwl_in (List.mem_of_getElem? (i := 765) (by decide +kernel)) rfl
theorem kf_8_22 : Cond.fieldLink kR8 22 "SequentKernelModel" "tOpen" "[Z" ∈ kwl := kwl_in (List.mem_of_getElem? (i := 766) (by decide +kernel)) rfl
theorem kf_8_26 : Cond.fieldLink kR8 26 "SequentKernelModel" "tNumber" "[I" ∈ kwl := kwl_in (List.mem_of_getElem? (i := 767) (by decide +kernel)) rfl
theorem kf_8_29 : Cond.fieldLink kR8 29 "SequentKernelModel" "typeAt" "[I" ∈ kwl := kwl_in (List.mem_of_getElem? (i := 768) (by decide +kernel)) rfl
theorem kf_8_32 : Cond.fieldLink kR8 32 "SequentKernelModel" "sort" "[I" ∈ kwl := kwl_in (List.mem_of_getElem? (i := 771) (by decide +kernel)) rfl
theorem kf_8_35 : Cond.fieldLink kR8 35 "SequentKernelModel" "one" "[I" ∈ kwl := kwl_in (List.mem_of_getElem? (i := 772) (by decide +kernel)) rfl
theorem kf_8_38 : Cond.fieldLink kR8 38 "SequentKernelModel" "two" "[I" ∈ kwl := kwl_in (List.mem_of_getElem? (i := 773) (by decide +kernel)) rfl
theorem kf_8_41 : Cond.fieldLink kR8 41 "SequentKernelModel" "type" "[I" ∈ kwl := kwl_in (List.mem_of_getElem? (i := 774) (by decide +kernel)) rfl
theorem kf_8_44 : Cond.fieldLink kR8 44 "SequentKernelModel" "height" "[I" ∈ kwl := kwl_in (List.mem_of_getElem? (i := 775) (by decide +kernel)) rfl
theorem kf_8_47 : Cond.fieldLink kR8 47 "SequentKernelModel" "number" "[I" ∈ kwl := kwl_in (List.mem_of_getElem? (i := 776) (by decide +kernel)) rfl
theorem kf_8_50 : Cond.fieldLink kR8 50 "SequentKernelModel" "termAt" "[I" ∈ kwl := kwl_in (List.mem_of_getElem? (i := 777) (by decide +kernel)) rfl
theorem kf_8_53 : Cond.fieldLink kR8 53 "SequentKernelModel" "conclusion" "[I" ∈ kwl := kwl_in (List.mem_of_getElem? (i := 782) (by decide +kernel)) rfl
theorem kf_8_56 : Cond.fieldLink kR8 56 "SequentKernelModel" "many" "[I" ∈ kwl := kwl_in (List.mem_of_getElem? (i := 783) (by decide +kernel)) rfl
theorem kf_8_59 : Cond.fieldLink kR8 59 "SequentKernelModel" "hypothesis" "[I" ∈ kwl := kwl_in (List.mem_of_getElem? (i := 784) (by decide +kernel)) rfl
theorem kf_8_62 : Cond.fieldLink kR8 62 "SequentKernelModel" "set" "[I" ∈ kwl := kwl_in (List.mem_of_getElem? (i := 786) (by decide +kernel)) rfl
theorem kf_8_65 : Cond.fieldLink kR8 65 "SequentKernelModel" "op" "[I" ∈ kwl := kwl_in (List.mem_of_getElem? (i := 788) (by decide +kernel)) rfl
theorem kf_8_68 : Cond.fieldLink kR8 68 "SequentKernelModel" "argument" "[I" ∈ kwl := kwl_in (List.mem_of_getElem? (i := 789) (by decide +kernel)) rfl
theorem kf_8_71 : Cond.fieldLink kR8 71 "SequentKernelModel" "result" "[I" ∈ kwl := kwl_in (List.mem_of_getElem? (i := 790) (by decide +kernel)) rfl
theorem kf_8_74 : Cond.fieldLink kR8 74 "SequentKernelModel" "need" "[Z" ∈ kwl := kwl_in (List.mem_of_getElem? (i := 795) (by decide +kernel)) rfl
theorem kf_8_77 : Cond.fieldLink kR8 77 "SequentKernelModel" "image" "[I" ∈ kwl := kwl_in (List.mem_of_getElem? (i := 796) (by decide +kernel)) rfl
theorem kf_8_80 : Cond.fieldLink kR8 80 "SequentKernelModel" "tNeed" "[Z" ∈ kwl := kwl_in (List.mem_of_getElem? (i := 797) (by decide +kernel)) rfl
theorem kf_8_83 : Cond.fieldLink kR8 83 "SequentKernelModel" "tImage" "[I" ∈ kwl := kwl_in (List.mem_of_getElem? (i := 798) (by decide +kernel)) rfl
theorem kf_8_86 : Cond.fieldLink kR8 86 "SequentKernelModel" "types" "I" ∈ kwl := kwl_in (List.mem_of_getElem? (i := 761) (by decide +kernel)) rfl
theorem kf_8_90 : Cond.fieldLink kR8 90 "SequentKernelModel" "typeNumbers" "I" ∈ kwl := kwl_in (List.mem_of_getElem? (i := 769) (by decide +kernel)) rfl
theorem kf_8_93 : Cond.fieldLink kR8 93 "SequentKernelModel" "bad" "Z" ∈ kwl := kwl_in (List.mem_of_getElem? (i := 794) (by decide +kernel)) rfl
theorem kf_8_97 : Cond.fieldLink kR8 97 "SequentKernelModel" "terms" "I" ∈ kwl := kwl_in (List.mem_of_getElem? (i := 770) (by decide +kernel)) rfl
theorem kf_8_100 : Cond.fieldLink kR8 100 "SequentKernelModel" "termNumbers" "I" ∈ kwl := kwl_in (List.mem_of_getElem? (i := 778) (by decide +kernel)) rfl
theorem kf_8_132 : Cond.fieldLink kR8 132 "SequentKernelModel" "oldTypes" "I" ∈ kwl := kwl_in (List.mem_of_getElem? (i := 791) (by decide +kernel)) rfl
theorem kf_8_135 : Cond.fieldLink kR8 135 "SequentKernelModel" "oldTerms" "I" ∈ kwl := kwl_in (List.mem_of_getElem? (i := 792) (by decide +kernel)) rfl
theorem kf_8_138 : Cond.fieldLink kR8 138 "SequentKernelModel" "facts" "I" ∈ kwl := kwl_in (List.mem_of_getElem? (i := 781) (by decide +kernel)) rfl
theorem kf_8_141 : Cond.fieldLink kR8 141 "SequentKernelModel" "oldFacts" "I" ∈ kwl := kwl_in (List.mem_of_getElem? (i := 793) (by decide +kernel)) rfl
theorem kf_8_180 : Cond.fieldLink kR8 180 "SequentKernelModel" "count" "I" ∈ kwl := kwl_in (List.mem_of_getElem? (i := 785) (by decide +kernel)) rfl
theorem kf_8_224 : Cond.fieldLink kR8 224 "SequentKernelModel" "constants" "I" ∈ kwl := kwl_in (List.mem_of_getElem? (i := 779) (by decide +kernel)) rfl
theorem kf_8_230 : Cond.fieldLink kR8 230 "SequentKernelModel" "defined" "I" ∈ kwl := kwl_in (List.mem_of_getElem? (i := 780) (by decide +kernel)) rfl
theorem kf_8_236 : Cond.fieldLink kR8 236 "SequentKernelModel" "lines" "I" ∈ kwl := kwl_in (List.mem_of_getElem? (i := 787) (by decide +kernel)) rfl
theorem kl_0_57 : Cond.methodLink kR0 57 ⟨"SequentKernel$Types", "store", "(III)I"⟩ ∈ kwl := kwl_in (List.mem_of_getElem? (i := 364) (by decide +kernel)) rfl
theorem kl_0_61 : Cond.methodLink kR0 61 ⟨"SequentKernel", "answeredType", "(I)I"⟩ ∈ kwl := kwl_in (List.mem_of_getElem? (i := 365) (by decide +kernel)) rfl
theorem kl_0_69 : Cond.methodLink kR0 69 ⟨"SequentKernel$Numbers", "placeOf", "(I)I"⟩ ∈ kwl := kwl_in (List.mem_of_getElem? (i := 390) (by decide +kernel)) rfl
theorem kl_0_74 : Cond.methodLink kR0 74 ⟨"SequentKernel$Terms", "store", "(IIII)I"⟩ ∈ kwl := kwl_in (List.mem_of_getElem? (i := 398) (by decide +kernel)) rfl
theorem kl_0_77 : Cond.methodLink kR0 77 ⟨"SequentKernel", "answeredTerm", "(I)I"⟩ ∈ kwl := kwl_in (List.mem_of_getElem? (i := 403) (by decide +kernel)) rfl
theorem kl_0_80 : Cond.methodLink kR0 80 ⟨"SequentKernel$Terms", "equalityOf", "(I)I"⟩ ∈ kwl := kwl_in (List.mem_of_getElem? (i := 411) (by decide +kernel)) rfl
theorem kl_0_84 : Cond.methodLink kR0 84 ⟨"SequentKernel$Terms", "application", "(II)I"⟩ ∈ kwl := kwl_in (List.mem_of_getElem? (i := 421) (by decide +kernel)) rfl
theorem kl_0_88 : Cond.methodLink kR0 88 ⟨"SequentKernel$Change", "abstracted", "(II)I"⟩ ∈ kwl := kwl_in (List.mem_of_getElem? (i := 433) (by decide +kernel)) rfl
theorem kl_0_91 : Cond.methodLink kR0 91 ⟨"SequentKernel$Rules", "refer", "(II)V"⟩ ∈ kwl := kwl_in (List.mem_of_getElem? (i := 476) (by decide +kernel)) rfl
theorem kl_0_95 : Cond.methodLink kR0 95 ⟨"SequentKernel$Rules", "make", "(IIII)I"⟩ ∈ kwl := kwl_in (List.mem_of_getElem? (i := 480) (by decide +kernel)) rfl
theorem kl_0_98 : Cond.methodLink kR0 98 ⟨"SequentKernel", "settled", "(I)I"⟩ ∈ kwl := kwl_in (List.mem_of_getElem? (i := 369) (by decide +kernel)) rfl
theorem kl_0_101 : Cond.methodLink kR0 101 ⟨"SequentKernel$Terms", "isFixed", "(I)Z"⟩ ∈ kwl := kwl_in (List.mem_of_getElem? (i := 656) (by decide +kernel)) rfl
theorem kl_0_109 : Cond.methodLink kR0 109 ⟨"SequentKernel$Terms", "typeAt", "(I)I"⟩ ∈ kwl := kwl_in (List.mem_of_getElem? (i := 660) (by decide +kernel)) rfl
theorem kl_0_112 : Cond.methodLink kR0 112 ⟨"SequentKernel$Facts", "open", "()V"⟩ ∈ kwl := kwl_in (List.mem_of_getElem? (i := 661) (by decide +kernel)) rfl
theorem kl_0_115 : Cond.methodLink kR0 115 ⟨"SequentKernel$Terms", "equation", "(II)I"⟩ ∈ kwl := kwl_in (List.mem_of_getElem? (i := 662) (by decide +kernel)) rfl
theorem kl_0_118 : Cond.methodLink kR0 118 ⟨"SequentKernel$Facts", "close", "(I)I"⟩ ∈ kwl := kwl_in (List.mem_of_getElem? (i := 663) (by decide +kernel)) rfl
theorem kl_0_121 : Cond.methodLink kR0 121 ⟨"SequentKernel$Facts", "conclusionOf", "(I)I"⟩ ∈ kwl := kwl_in (List.mem_of_getElem? (i := 668) (by decide +kernel)) rfl
theorem kl_0_124 : Cond.methodLink kR0 124 ⟨"SequentKernel$Terms", "functionOf", "(I)I"⟩ ∈ kwl := kwl_in (List.mem_of_getElem? (i := 669) (by decide +kernel)) rfl
theorem kl_0_127 : Cond.methodLink kR0 127 ⟨"SequentKernel$Facts", "sizeOf", "(I)I"⟩ ∈ kwl := kwl_in (List.mem_of_getElem? (i := 670) (by decide +kernel)) rfl
theorem kl_0_133 : Cond.methodLink kR0 133 ⟨"SequentKernel$Terms", "argumentOf", "(I)I"⟩ ∈ kwl := kwl_in (List.mem_of_getElem? (i := 671) (by decide +kernel)) rfl
theorem kl_0_136 : Cond.methodLink kR0 136 ⟨"SequentKernel", "newTypeFacts", "(II)I"⟩ ∈ kwl := kwl_in (List.mem_of_getElem? (i := 672) (by decide +kernel)) rfl
theorem kl_0_139 : Cond.methodLink kR0 139 ⟨"SequentKernel$Rules", "has", "(I)Z"⟩ ∈ kwl := kwl_in (List.mem_of_getElem? (i := 680) (by decide +kernel)) rfl
theorem kl_0_142 : Cond.methodLink kR0 142 ⟨"SequentKernel$Trace", "add", "(IIII)I"⟩ ∈ kwl := kwl_in (List.mem_of_getElem? (i := 684) (by decide +kernel)) rfl
theorem kl_0_145 : Cond.methodLink kR0 145 ⟨"SequentKernel$Trace", "empty", "()I"⟩ ∈ kwl := kwl_in (List.mem_of_getElem? (i := 692) (by decide +kernel)) rfl
theorem kl_0_149 : Cond.methodLink kR0 149 ⟨"SequentKernel$Facts", "size", "()I"⟩ ∈ kwl := kwl_in (List.mem_of_getElem? (i := 700) (by decide +kernel)) rfl
theorem kl_0_152 : Cond.methodLink kR0 152 ⟨"SequentKernel$Trace", "size", "()I"⟩ ∈ kwl := kwl_in (List.mem_of_getElem? (i := 701) (by decide +kernel)) rfl
theorem kl_0_166 : Cond.methodLink kR0 166 ⟨"SequentKernel$Numbers", "numberOf", "(I)I"⟩ ∈ kwl := kwl_in (List.mem_of_getElem? (i := 385) (by decide +kernel)) rfl
theorem kl_0_169 : Cond.methodLink kR0 169 ⟨"SequentKernel$Terms", "sortAt", "(I)I"⟩ ∈ kwl := kwl_in (List.mem_of_getElem? (i := 713) (by decide +kernel)) rfl
theorem kl_0_178 : Cond.methodLink kR0 178 ⟨"SequentKernel$Terms", "mark", "(I)V"⟩ ∈ kwl := kwl_in (List.mem_of_getElem? (i := 722) (by decide +kernel)) rfl
theorem kl_0_186 : Cond.methodLink kR0 186 ⟨"SequentKernel$Facts", "has", "(II)Z"⟩ ∈ kwl := kwl_in (List.mem_of_getElem? (i := 735) (by decide +kernel)) rfl
theorem kl_0_189 : Cond.methodLink kR0 189 ⟨"SequentKernel$Terms", "size", "()I"⟩ ∈ kwl := kwl_in (List.mem_of_getElem? (i := 743) (by decide +kernel)) rfl
theorem kl_0_190 : Cond.methodLink kR0 190 ⟨"SequentKernel$Types", "size", "()I"⟩ ∈ kwl := kwl_in (List.mem_of_getElem? (i := 747) (by decide +kernel)) rfl
theorem kl_0_191 : Cond.methodLink kR0 191 ⟨"SequentKernel$Numbers", "size", "()I"⟩ ∈ kwl := kwl_in (List.mem_of_getElem? (i := 751) (by decide +kernel)) rfl
theorem kl_0_192 : Cond.methodLink kR0 192 ⟨"SequentKernel$Types", "settle", "(Z)V"⟩ ∈ kwl := kwl_in (List.mem_of_getElem? (i := 373) (by decide +kernel)) rfl
theorem kl_0_196 : Cond.methodLink kR0 196 ⟨"SequentKernel$Terms", "settle", "(Z)V"⟩ ∈ kwl := kwl_in (List.mem_of_getElem? (i := 377) (by decide +kernel)) rfl
theorem kl_0_197 : Cond.methodLink kR0 197 ⟨"SequentKernel$Facts", "settle", "(Z)V"⟩ ∈ kwl := kwl_in (List.mem_of_getElem? (i := 381) (by decide +kernel)) rfl
theorem kl_5_43 : Cond.methodLink kR5 43 ⟨"SequentKernel$Terms", "sortAt", "(I)I"⟩ ∈ kwl := kwl_in (List.mem_of_getElem? (i := 437) (by decide +kernel)) rfl
theorem kl_5_47 : Cond.methodLink kR5 47 ⟨"SequentKernel$Change", "begin", "(III)V"⟩ ∈ kwl := kwl_in (List.mem_of_getElem? (i := 441) (by decide +kernel)) rfl
theorem kl_5_54 : Cond.methodLink kR5 54 ⟨"SequentKernel$Change", "changed", "(III)I"⟩ ∈ kwl := kwl_in (List.mem_of_getElem? (i := 445) (by decide +kernel)) rfl
theorem kl_5_58 : Cond.methodLink kR5 58 ⟨"SequentKernel$Terms", "abstraction", "(II)I"⟩ ∈ kwl := kwl_in (List.mem_of_getElem? (i := 468) (by decide +kernel)) rfl
theorem kl_5_65 : Cond.methodLink kR5 65 ⟨"SequentKernel$Change", "madeAnew", "(III)I"⟩ ∈ kwl := kwl_in (List.mem_of_getElem? (i := 449) (by decide +kernel)) rfl
theorem kl_5_72 : Cond.methodLink kR5 72 ⟨"SequentKernel$Change", "stands", "(II)Z"⟩ ∈ kwl := kwl_in (List.mem_of_getElem? (i := 453) (by decide +kernel)) rfl
theorem kl_5_76 : Cond.methodLink kR5 76 ⟨"SequentKernel$Terms", "store", "(IIII)I"⟩ ∈ kwl := kwl_in (List.mem_of_getElem? (i := 457) (by decide +kernel)) rfl
theorem kl_5_86 : Cond.methodLink kR5 86 ⟨"SequentKernel$Terms", "application", "(II)I"⟩ ∈ kwl := kwl_in (List.mem_of_getElem? (i := 458) (by decide +kernel)) rfl
theorem kl_5_90 : Cond.methodLink kR5 90 ⟨"SequentKernel$Change", "retyped", "(II)I"⟩ ∈ kwl := kwl_in (List.mem_of_getElem? (i := 459) (by decide +kernel)) rfl
theorem kl_5_95 : Cond.methodLink kR5 95 ⟨"SequentKernel$Change", "retypedParts", "(II)I"⟩ ∈ kwl := kwl_in (List.mem_of_getElem? (i := 463) (by decide +kernel)) rfl
theorem kl_5_99 : Cond.methodLink kR5 99 ⟨"SequentKernel$Types", "store", "(III)I"⟩ ∈ kwl := kwl_in (List.mem_of_getElem? (i := 467) (by decide +kernel)) rfl
theorem kl_4_31 : Cond.methodLink kR4 31 ⟨"SequentKernel$Facts", "isFact", "(I)Z"⟩ ∈ kwl := kwl_in (List.mem_of_getElem? (i := 534) (by decide +kernel)) rfl
theorem kl_4_35 : Cond.methodLink kR4 35 ⟨"SequentKernel$Facts", "sizeOf", "(I)I"⟩ ∈ kwl := kwl_in (List.mem_of_getElem? (i := 563) (by decide +kernel)) rfl
theorem kl_4_39 : Cond.methodLink kR4 39 ⟨"SequentKernel$Facts", "hypothesis", "(II)I"⟩ ∈ kwl := kwl_in (List.mem_of_getElem? (i := 567) (by decide +kernel)) rfl
theorem kl_4_50 : Cond.methodLink kR4 50 ⟨"SequentKernel$Facts", "assume", "(I)V"⟩ ∈ kwl := kwl_in (List.mem_of_getElem? (i := 571) (by decide +kernel)) rfl
theorem kl_4_54 : Cond.methodLink kR4 54 ⟨"java/lang/System", "arraycopy", "(Ljava/lang/Object;ILjava/lang/Object;II)V"⟩ ∈ kwl := kwl_in (List.mem_of_getElem? (i := 511) (by decide +kernel)) rfl
theorem kl_6_34 : Cond.methodLink kR6 34 ⟨"SequentKernel$Facts", "open", "()V"⟩ ∈ kwl := kwl_in (List.mem_of_getElem? (i := 484) (by decide +kernel)) rfl
theorem kl_6_39 : Cond.methodLink kR6 39 ⟨"SequentKernel$Rules", "termAt", "(I)I"⟩ ∈ kwl := kwl_in (List.mem_of_getElem? (i := 488) (by decide +kernel)) rfl
theorem kl_6_43 : Cond.methodLink kR6 43 ⟨"SequentKernel$Rules", "reflexivity", "(I)I"⟩ ∈ kwl := kwl_in (List.mem_of_getElem? (i := 493) (by decide +kernel)) rfl
theorem kl_6_46 : Cond.methodLink kR6 46 ⟨"SequentKernel$Rules", "factAt", "(I)I"⟩ ∈ kwl := kwl_in (List.mem_of_getElem? (i := 514) (by decide +kernel)) rfl
theorem kl_6_49 : Cond.methodLink kR6 49 ⟨"SequentKernel$Rules", "transitivity", "(II)I"⟩ ∈ kwl := kwl_in (List.mem_of_getElem? (i := 522) (by decide +kernel)) rfl
theorem kl_6_53 : Cond.methodLink kR6 53 ⟨"SequentKernel$Rules", "congruence", "(II)I"⟩ ∈ kwl := kwl_in (List.mem_of_getElem? (i := 575) (by decide +kernel)) rfl
theorem kl_6_56 : Cond.methodLink kR6 56 ⟨"SequentKernel$Rules", "underAbstraction", "(II)I"⟩ ∈ kwl := kwl_in (List.mem_of_getElem? (i := 580) (by decide +kernel)) rfl
theorem kl_6_59 : Cond.methodLink kR6 59 ⟨"SequentKernel$Rules", "opening", "(I)I"⟩ ∈ kwl := kwl_in (List.mem_of_getElem? (i := 600) (by decide +kernel)) rfl
theorem kl_6_62 : Cond.methodLink kR6 62 ⟨"SequentKernel$Rules", "assumption", "(I)I"⟩ ∈ kwl := kwl_in (List.mem_of_getElem? (i := 609) (by decide +kernel)) rfl
theorem kl_6_65 : Cond.methodLink kR6 65 ⟨"SequentKernel$Rules", "equalTruth", "(II)I"⟩ ∈ kwl := kwl_in (List.mem_of_getElem? (i := 615) (by decide +kernel)) rfl
theorem kl_6_68 : Cond.methodLink kR6 68 ⟨"SequentKernel$Rules", "equivalence", "(II)I"⟩ ∈ kwl := kwl_in (List.mem_of_getElem? (i := 619) (by decide +kernel)) rfl
theorem kl_6_71 : Cond.methodLink kR6 71 ⟨"SequentKernel$Rules", "beginsWithTerm", "(II)Z"⟩ ∈ kwl := kwl_in (List.mem_of_getElem? (i := 623) (by decide +kernel)) rfl
theorem kl_6_75 : Cond.methodLink kR6 75 ⟨"SequentKernel$Rules", "instance", "(IZ)I"⟩ ∈ kwl := kwl_in (List.mem_of_getElem? (i := 628) (by decide +kernel)) rfl
theorem kl_6_79 : Cond.methodLink kR6 79 ⟨"SequentKernel$Rules", "typeAt", "(I)I"⟩ ∈ kwl := kwl_in (List.mem_of_getElem? (i := 636) (by decide +kernel)) rfl
theorem kl_6_82 : Cond.methodLink kR6 82 ⟨"SequentKernel$Rules", "beginsWithType", "(II)Z"⟩ ∈ kwl := kwl_in (List.mem_of_getElem? (i := 640) (by decide +kernel)) rfl
theorem kl_6_85 : Cond.methodLink kR6 85 ⟨"SequentKernel$Rules", "rewriting", "(II)I"⟩ ∈ kwl := kwl_in (List.mem_of_getElem? (i := 648) (by decide +kernel)) rfl
theorem kl_6_94 : Cond.methodLink kR6 94 ⟨"SequentKernel$Numbers", "placeOf", "(I)I"⟩ ∈ kwl := kwl_in (List.mem_of_getElem? (i := 492) (by decide +kernel)) rfl
theorem kl_6_102 : Cond.methodLink kR6 102 ⟨"SequentKernel$Facts", "size", "()I"⟩ ∈ kwl := kwl_in (List.mem_of_getElem? (i := 518) (by decide +kernel)) rfl
theorem kl_6_106 : Cond.methodLink kR6 106 ⟨"SequentKernel$Facts", "conclusionOf", "(I)I"⟩ ∈ kwl := kwl_in (List.mem_of_getElem? (i := 530) (by decide +kernel)) rfl
theorem kl_6_109 : Cond.methodLink kR6 109 ⟨"SequentKernel$Terms", "leftOf", "(I)I"⟩ ∈ kwl := kwl_in (List.mem_of_getElem? (i := 538) (by decide +kernel)) rfl
theorem kl_6_112 : Cond.methodLink kR6 112 ⟨"SequentKernel$Terms", "argumentOf", "(I)I"⟩ ∈ kwl := kwl_in (List.mem_of_getElem? (i := 551) (by decide +kernel)) rfl
theorem kl_6_115 : Cond.methodLink kR6 115 ⟨"SequentKernel$Facts", "assumeAllBut", "(II)V"⟩ ∈ kwl := kwl_in (List.mem_of_getElem? (i := 559) (by decide +kernel)) rfl
theorem kl_6_119 : Cond.methodLink kR6 119 ⟨"SequentKernel$Facts", "close", "(I)I"⟩ ∈ kwl := kwl_in (List.mem_of_getElem? (i := 507) (by decide +kernel)) rfl
theorem kl_6_122 : Cond.methodLink kR6 122 ⟨"SequentKernel$Terms", "equation", "(II)I"⟩ ∈ kwl := kwl_in (List.mem_of_getElem? (i := 497) (by decide +kernel)) rfl
theorem kl_6_125 : Cond.methodLink kR6 125 ⟨"SequentKernel$Rules", "leftOf", "(I)I"⟩ ∈ kwl := kwl_in (List.mem_of_getElem? (i := 526) (by decide +kernel)) rfl
theorem kl_6_126 : Cond.methodLink kR6 126 ⟨"SequentKernel$Rules", "rightOf", "(I)I"⟩ ∈ kwl := kwl_in (List.mem_of_getElem? (i := 547) (by decide +kernel)) rfl
theorem kl_6_129 : Cond.methodLink kR6 129 ⟨"SequentKernel$Rules", "closeWithBoth", "(III)I"⟩ ∈ kwl := kwl_in (List.mem_of_getElem? (i := 555) (by decide +kernel)) rfl
theorem kl_6_133 : Cond.methodLink kR6 133 ⟨"SequentKernel$Terms", "application", "(II)I"⟩ ∈ kwl := kwl_in (List.mem_of_getElem? (i := 579) (by decide +kernel)) rfl
theorem kl_6_136 : Cond.methodLink kR6 136 ⟨"SequentKernel$Terms", "sortAt", "(I)I"⟩ ∈ kwl := kwl_in (List.mem_of_getElem? (i := 584) (by decide +kernel)) rfl
theorem kl_6_139 : Cond.methodLink kR6 139 ⟨"SequentKernel$Rules", "isAssumedOf", "(II)Z"⟩ ∈ kwl := kwl_in (List.mem_of_getElem? (i := 585) (by decide +kernel)) rfl
theorem kl_6_142 : Cond.methodLink kR6 142 ⟨"SequentKernel$Change", "abstracted", "(II)I"⟩ ∈ kwl := kwl_in (List.mem_of_getElem? (i := 599) (by decide +kernel)) rfl
theorem kl_6_147 : Cond.methodLink kR6 147 ⟨"SequentKernel$Terms", "mark", "(I)V"⟩ ∈ kwl := kwl_in (List.mem_of_getElem? (i := 589) (by decide +kernel)) rfl
theorem kl_6_151 : Cond.methodLink kR6 151 ⟨"SequentKernel$Facts", "sizeOf", "(I)I"⟩ ∈ kwl := kwl_in (List.mem_of_getElem? (i := 597) (by decide +kernel)) rfl
theorem kl_6_158 : Cond.methodLink kR6 158 ⟨"SequentKernel$Facts", "hypothesis", "(II)I"⟩ ∈ kwl := kwl_in (List.mem_of_getElem? (i := 598) (by decide +kernel)) rfl
theorem kl_6_161 : Cond.methodLink kR6 161 ⟨"SequentKernel$Terms", "functionOf", "(I)I"⟩ ∈ kwl := kwl_in (List.mem_of_getElem? (i := 604) (by decide +kernel)) rfl
theorem kl_6_164 : Cond.methodLink kR6 164 ⟨"SequentKernel$Change", "opened", "(II)I"⟩ ∈ kwl := kwl_in (List.mem_of_getElem? (i := 605) (by decide +kernel)) rfl
theorem kl_6_167 : Cond.methodLink kR6 167 ⟨"SequentKernel$Terms", "typeAt", "(I)I"⟩ ∈ kwl := kwl_in (List.mem_of_getElem? (i := 613) (by decide +kernel)) rfl
theorem kl_6_168 : Cond.methodLink kR6 168 ⟨"SequentKernel$Facts", "assume", "(I)V"⟩ ∈ kwl := kwl_in (List.mem_of_getElem? (i := 614) (by decide +kernel)) rfl
theorem kl_6_175 : Cond.methodLink kR6 175 ⟨"SequentKernel$Change", "begin", "(III)V"⟩ ∈ kwl := kwl_in (List.mem_of_getElem? (i := 627) (by decide +kernel)) rfl
theorem kl_6_179 : Cond.methodLink kR6 179 ⟨"SequentKernel$Types", "isVariable", "(I)Z"⟩ ∈ kwl := kwl_in (List.mem_of_getElem? (i := 644) (by decide +kernel)) rfl
theorem kl_6_183 : Cond.methodLink kR6 183 ⟨"SequentKernel$Change", "of", "(I)I"⟩ ∈ kwl := kwl_in (List.mem_of_getElem? (i := 632) (by decide +kernel)) rfl
theorem kl_3_72 : Cond.methodLink kR3 72 ⟨"SequentKernel$Terms", "sortAt", "(I)I"⟩ ∈ kwl := kwl_in (List.mem_of_getElem? (i := 546) (by decide +kernel)) rfl
theorem kl_3_76 : Cond.methodLink kR3 76 ⟨"SequentKernel$Terms", "functionOf", "(I)I"⟩ ∈ kwl := kwl_in (List.mem_of_getElem? (i := 542) (by decide +kernel)) rfl
theorem kl_3_79 : Cond.methodLink kR3 79 ⟨"SequentKernel$Terms", "hasParts", "(I)Z"⟩ ∈ kwl := kwl_in (List.mem_of_getElem? (i := 593) (by decide +kernel)) rfl
theorem kl_3_85 : Cond.methodLink kR3 85 ⟨"SequentKernel$Types", "store", "(III)I"⟩ ∈ kwl := kwl_in (List.mem_of_getElem? (i := 415) (by decide +kernel)) rfl
theorem kl_3_89 : Cond.methodLink kR3 89 ⟨"SequentKernel$Terms", "store", "(IIII)I"⟩ ∈ kwl := kwl_in (List.mem_of_getElem? (i := 416) (by decide +kernel)) rfl
theorem kl_3_92 : Cond.methodLink kR3 92 ⟨"SequentKernel$Types", "isArrowFrom", "(II)Z"⟩ ∈ kwl := kwl_in (List.mem_of_getElem? (i := 425) (by decide +kernel)) rfl
theorem kl_3_97 : Cond.methodLink kR3 97 ⟨"SequentKernel$Terms", "typeAt", "(I)I"⟩ ∈ kwl := kwl_in (List.mem_of_getElem? (i := 501) (by decide +kernel)) rfl
theorem kl_3_100 : Cond.methodLink kR3 100 ⟨"SequentKernel$Terms", "equalityOf", "(I)I"⟩ ∈ kwl := kwl_in (List.mem_of_getElem? (i := 505) (by decide +kernel)) rfl
theorem kl_3_103 : Cond.methodLink kR3 103 ⟨"SequentKernel$Terms", "application", "(II)I"⟩ ∈ kwl := kwl_in (List.mem_of_getElem? (i := 506) (by decide +kernel)) rfl
theorem kl_3_107 : Cond.methodLink kR3 107 ⟨"java/lang/Math", "max", "(II)I"⟩ ∈ kwl := kwl_in (List.mem_of_getElem? (i := 402) (by decide +kernel)) rfl
theorem kl_1_52 : Cond.methodLink kR1 52 ⟨"java/lang/Math", "max", "(II)I"⟩ ∈ kwl := kwl_in (List.mem_of_getElem? (i := 114) (by decide +kernel)) rfl
theorem kl_8_103 : Cond.methodLink kR8 103 ⟨"SequentKernelModel", "type", "(III)I"⟩ ∈ kwl := kwl_in (List.mem_of_getElem? (i := 884) (by decide +kernel)) rfl
theorem kl_8_106 : Cond.methodLink kR8 106 ⟨"SequentKernelModel", "term", "(IIII)I"⟩ ∈ kwl := kwl_in (List.mem_of_getElem? (i := 912) (by decide +kernel)) rfl
theorem kl_8_110 : Cond.methodLink kR8 110 ⟨"SequentKernelModel", "same", "(I)I"⟩ ∈ kwl := kwl_in (List.mem_of_getElem? (i := 928) (by decide +kernel)) rfl
theorem kl_8_114 : Cond.methodLink kR8 114 ⟨"SequentKernelModel", "application", "(II)I"⟩ ∈ kwl := kwl_in (List.mem_of_getElem? (i := 944) (by decide +kernel)) rfl
theorem kl_8_118 : Cond.methodLink kR8 118 ⟨"SequentKernelModel", "mark", "(III)V"⟩ ∈ kwl := kwl_in (List.mem_of_getElem? (i := 960) (by decide +kernel)) rfl
theorem kl_8_122 : Cond.methodLink kR8 122 ⟨"SequentKernelModel", "become", "(IIIII)I"⟩ ∈ kwl := kwl_in (List.mem_of_getElem? (i := 964) (by decide +kernel)) rfl
theorem kl_8_126 : Cond.methodLink kR8 126 ⟨"SequentKernelModel", "retyped", "(III)I"⟩ ∈ kwl := kwl_in (List.mem_of_getElem? (i := 968) (by decide +kernel)) rfl
theorem kl_8_129 : Cond.methodLink kR8 129 ⟨"SequentKernelModel", "abstraction", "(II)I"⟩ ∈ kwl := kwl_in (List.mem_of_getElem? (i := 972) (by decide +kernel)) rfl
theorem kl_8_144 : Cond.methodLink kR8 144 ⟨"SequentKernelModel", "stays", "()Z"⟩ ∈ kwl := kwl_in (List.mem_of_getElem? (i := 892) (by decide +kernel)) rfl
theorem kl_8_148 : Cond.methodLink kR8 148 ⟨"SequentKernelModel", "numberOfType", "(I)I"⟩ ∈ kwl := kwl_in (List.mem_of_getElem? (i := 896) (by decide +kernel)) rfl
theorem kl_8_151 : Cond.methodLink kR8 151 ⟨"SequentKernelModel", "numberOf", "(I)I"⟩ ∈ kwl := kwl_in (List.mem_of_getElem? (i := 920) (by decide +kernel)) rfl
theorem kl_8_154 : Cond.methodLink kR8 154 ⟨"SequentKernelModel", "begin", "()V"⟩ ∈ kwl := kwl_in (List.mem_of_getElem? (i := 880) (by decide +kernel)) rfl
theorem kl_8_157 : Cond.methodLink kR8 157 ⟨"SequentKernelModel", "answerType", "(I)I"⟩ ∈ kwl := kwl_in (List.mem_of_getElem? (i := 888) (by decide +kernel)) rfl
theorem kl_8_160 : Cond.methodLink kR8 160 ⟨"SequentKernelModel", "isType", "(I)Z"⟩ ∈ kwl := kwl_in (List.mem_of_getElem? (i := 904) (by decide +kernel)) rfl
theorem kl_8_164 : Cond.methodLink kR8 164 ⟨"SequentKernelModel", "answer", "(I)I"⟩ ∈ kwl := kwl_in (List.mem_of_getElem? (i := 916) (by decide +kernel)) rfl
theorem kl_8_167 : Cond.methodLink kR8 167 ⟨"SequentKernelModel", "isTerm", "(I)Z"⟩ ∈ kwl := kwl_in (List.mem_of_getElem? (i := 936) (by decide +kernel)) rfl
theorem kl_8_170 : Cond.methodLink kR8 170 ⟨"SequentKernelModel", "fits", "(II)Z"⟩ ∈ kwl := kwl_in (List.mem_of_getElem? (i := 940) (by decide +kernel)) rfl
theorem kl_8_174 : Cond.methodLink kR8 174 ⟨"SequentKernelModel", "closedOver", "(II)I"⟩ ∈ kwl := kwl_in (List.mem_of_getElem? (i := 952) (by decide +kernel)) rfl
theorem kl_8_177 : Cond.methodLink kR8 177 ⟨"SequentKernelModel", "changed", "(IIII)I"⟩ ∈ kwl := kwl_in (List.mem_of_getElem? (i := 956) (by decide +kernel)) rfl
theorem kl_8_183 : Cond.methodLink kR8 183 ⟨"SequentKernelModel", "assume", "(I)V"⟩ ∈ kwl := kwl_in (List.mem_of_getElem? (i := 1011) (by decide +kernel)) rfl
theorem kl_8_187 : Cond.methodLink kR8 187 ⟨"SequentKernelModel", "takesFact", "(II)Z"⟩ ∈ kwl := kwl_in (List.mem_of_getElem? (i := 984) (by decide +kernel)) rfl
theorem kl_8_190 : Cond.methodLink kR8 190 ⟨"SequentKernelModel", "isFact", "(I)Z"⟩ ∈ kwl := kwl_in (List.mem_of_getElem? (i := 987) (by decide +kernel)) rfl
theorem kl_8_193 : Cond.methodLink kR8 193 ⟨"SequentKernelModel", "equal", "(III)I"⟩ ∈ kwl := kwl_in (List.mem_of_getElem? (i := 991) (by decide +kernel)) rfl
theorem kl_8_196 : Cond.methodLink kR8 196 ⟨"SequentKernelModel", "logical", "(III)I"⟩ ∈ kwl := kwl_in (List.mem_of_getElem? (i := 1019) (by decide +kernel)) rfl
theorem kl_8_199 : Cond.methodLink kR8 199 ⟨"SequentKernelModel", "replacing", "(IIII)I"⟩ ∈ kwl := kwl_in (List.mem_of_getElem? (i := 1023) (by decide +kernel)) rfl
theorem kl_8_202 : Cond.methodLink kR8 202 ⟨"SequentKernelModel", "fact", "(I)I"⟩ ∈ kwl := kwl_in (List.mem_of_getElem? (i := 1027) (by decide +kernel)) rfl
theorem kl_8_205 : Cond.methodLink kR8 205 ⟨"SequentKernelModel", "equation", "(II)I"⟩ ∈ kwl := kwl_in (List.mem_of_getElem? (i := 995) (by decide +kernel)) rfl
theorem kl_8_208 : Cond.methodLink kR8 208 ⟨"SequentKernelModel", "isEquation", "(I)Z"⟩ ∈ kwl := kwl_in (List.mem_of_getElem? (i := 999) (by decide +kernel)) rfl
theorem kl_8_211 : Cond.methodLink kR8 211 ⟨"SequentKernelModel", "has", "(II)Z"⟩ ∈ kwl := kwl_in (List.mem_of_getElem? (i := 1003) (by decide +kernel)) rfl
theorem kl_8_214 : Cond.methodLink kR8 214 ⟨"SequentKernelModel", "assumeAll", "(II)V"⟩ ∈ kwl := kwl_in (List.mem_of_getElem? (i := 1007) (by decide +kernel)) rfl
theorem kl_8_218 : Cond.methodLink kR8 218 ⟨"SequentKernelModel", "left", "(I)I"⟩ ∈ kwl := kwl_in (List.mem_of_getElem? (i := 1015) (by decide +kernel)) rfl
theorem kl_8_221 : Cond.methodLink kR8 221 ⟨"SequentKernelModel", "derive", "(IIII)I"⟩ ∈ kwl := kwl_in (List.mem_of_getElem? (i := 980) (by decide +kernel)) rfl
theorem kl_8_227 : Cond.methodLink kR8 227 ⟨"SequentKernelModel", "closed", "(I)Z"⟩ ∈ kwl := kwl_in (List.mem_of_getElem? (i := 1035) (by decide +kernel)) rfl
theorem kl_8_233 : Cond.methodLink kR8 233 ⟨"SequentKernelModel", "around", "(III)I"⟩ ∈ kwl := kwl_in (List.mem_of_getElem? (i := 1043) (by decide +kernel)) rfl
theorem kl_8_239 : Cond.methodLink kR8 239 ⟨"SequentKernelModel", "meant", "(II)I"⟩ ∈ kwl := kwl_in (List.mem_of_getElem? (i := 1059) (by decide +kernel)) rfl
theorem k_im_0 : Cond.instanceMethod (ky 0) ∈ kwl := kwl_in (List.mem_of_getElem? (i := 111) (by decide +kernel)) rfl
theorem k_se_0 : Cond.selects (ky 0).cls (ky 0) (ky 0) ∈ kwl := kwl_in (List.mem_of_getElem? (i := 112) (by decide +kernel)) rfl
theorem kok_0 : kOK 0 := ⟨kwl_in (List.mem_of_getElem? (i := 65) (by decide +kernel)) rfl, kwl_in (List.mem_of_getElem? (i := 113) (by decide +kernel)) rfl, by decide +kernel, by decide +kernel, by decide +kernel⟩
theorem k_im_1 : Cond.instanceMethod (ky 1) ∈ kwl := kwl_in (List.mem_of_getElem? (i := 118) (by decide +kernel)) rfl
theorem k_se_1 : Cond.selects (ky 1).cls (ky 1) (ky 1) ∈ kwl := kwl_in (List.mem_of_getElem? (i := 119) (by decide +kernel)) rfl
theorem kok_1 : kOK 1 := ⟨kwl_in (List.mem_of_getElem? (i := 66) (by decide +kernel)) rfl, kwl_in (List.mem_of_getElem? (i := 120) (by decide +kernel)) rfl, by decide +kernel, by decide +kernel, by decide +kernel⟩
theorem k_im_2 : Cond.instanceMethod (ky 2) ∈ kwl := kwl_in (List.mem_of_getElem? (i := 361) (by decide +kernel)) rfl
theorem k_se_2 : Cond.selects (ky 2).cls (ky 2) (ky 2) ∈ kwl := kwl_in (List.mem_of_getElem? (i := 362) (by decide +kernel)) rfl
theorem kok_2 : kOK 2 := ⟨kwl_in (List.mem_of_getElem? (i := 64) (by decide +kernel)) rfl, kwl_in (List.mem_of_getElem? (i := 363) (by decide +kernel)) rfl, by decide +kernel, by decide +kernel, by decide +kernel⟩
theorem k_im_3 : Cond.instanceMethod (ky 3) ∈ kwl := kwl_in (List.mem_of_getElem? (i := 367) (by decide +kernel)) rfl
theorem k_se_3 : Cond.selects (ky 3).cls (ky 3) (ky 3) ∈ kwl := kwl_in (List.mem_of_getElem? (i := 0) (by decide +kernel)) rfl
theorem kok_3 : kOK 3 := ⟨kwl_in (List.mem_of_getElem? (i := 64) (by decide +kernel)) rfl, kwl_in (List.mem_of_getElem? (i := 368) (by decide +kernel)) rfl, by decide +kernel, by decide +kernel, by decide +kernel⟩
theorem k_im_4 : Cond.instanceMethod (ky 4) ∈ kwl := kwl_in (List.mem_of_getElem? (i := 371) (by decide +kernel)) rfl
theorem k_se_4 : Cond.selects (ky 4).cls (ky 4) (ky 4) ∈ kwl := kwl_in (List.mem_of_getElem? (i := 1) (by decide +kernel)) rfl
theorem kok_4 : kOK 4 := ⟨kwl_in (List.mem_of_getElem? (i := 64) (by decide +kernel)) rfl, kwl_in (List.mem_of_getElem? (i := 372) (by decide +kernel)) rfl, by decide +kernel, by decide +kernel, by decide +kernel⟩
theorem k_im_5 : Cond.instanceMethod (ky 5) ∈ kwl := kwl_in (List.mem_of_getElem? (i := 374) (by decide +kernel)) rfl
theorem k_se_5 : Cond.selects (ky 5).cls (ky 5) (ky 5) ∈ kwl := kwl_in (List.mem_of_getElem? (i := 375) (by decide +kernel)) rfl
theorem kok_5 : kOK 5 := ⟨kwl_in (List.mem_of_getElem? (i := 65) (by decide +kernel)) rfl, kwl_in (List.mem_of_getElem? (i := 376) (by decide +kernel)) rfl, by decide +kernel, by decide +kernel, by decide +kernel⟩
theorem k_im_6 : Cond.instanceMethod (ky 6) ∈ kwl := kwl_in (List.mem_of_getElem? (i := 378) (by decide +kernel)) rfl
theorem k_se_6 : Cond.selects (ky 6).cls (ky 6) (ky 6) ∈ kwl := kwl_in (List.mem_of_getElem? (i := 379) (by decide +kernel)) rfl
theorem kok_6 : kOK 6 := ⟨kwl_in (List.mem_of_getElem? (i := 69) (by decide +kernel)) rfl, kwl_in (List.mem_of_getElem? (i := 380) (by decide +kernel)) rfl, by decide +kernel, by decide +kernel, by decide +kernel⟩
theorem k_im_7 : Cond.instanceMethod (ky 7) ∈ kwl := kwl_in (List.mem_of_getElem? (i := 382) (by decide +kernel)) rfl
theorem k_se_7 : Cond.selects (ky 7).cls (ky 7) (ky 7) ∈ kwl := kwl_in (List.mem_of_getElem? (i := 383) (by decide +kernel)) rfl
theorem kok_7 : kOK 7 := ⟨kwl_in (List.mem_of_getElem? (i := 70) (by decide +kernel)) rfl, kwl_in (List.mem_of_getElem? (i := 384) (by decide +kernel)) rfl, by decide +kernel, by decide +kernel, by decide +kernel⟩
theorem k_im_8 : Cond.instanceMethod (ky 8) ∈ kwl := kwl_in (List.mem_of_getElem? (i := 387) (by decide +kernel)) rfl
theorem k_se_8 : Cond.selects (ky 8).cls (ky 8) (ky 8) ∈ kwl := kwl_in (List.mem_of_getElem? (i := 388) (by decide +kernel)) rfl
theorem kok_8 : kOK 8 := ⟨kwl_in (List.mem_of_getElem? (i := 64) (by decide +kernel)) rfl, kwl_in (List.mem_of_getElem? (i := 389) (by decide +kernel)) rfl, by decide +kernel, by decide +kernel, by decide +kernel⟩
theorem k_im_9 : Cond.instanceMethod (ky 9) ∈ kwl := kwl_in (List.mem_of_getElem? (i := 391) (by decide +kernel)) rfl
theorem k_se_9 : Cond.selects (ky 9).cls (ky 9) (ky 9) ∈ kwl := kwl_in (List.mem_of_getElem? (i := 392) (by decide +kernel)) rfl
theorem kok_9 : kOK 9 := ⟨kwl_in (List.mem_of_getElem? (i := 66) (by decide +kernel)) rfl, kwl_in (List.mem_of_getElem? (i := 393) (by decide +kernel)) rfl, by decide +kernel, by decide +kernel, by decide +kernel⟩
theorem k_im_10 : Cond.instanceMethod (ky 10) ∈ kwl := kwl_in (List.mem_of_getElem? (i := 395) (by decide +kernel)) rfl
theorem k_se_10 : Cond.selects (ky 10).cls (ky 10) (ky 10) ∈ kwl := kwl_in (List.mem_of_getElem? (i := 396) (by decide +kernel)) rfl
theorem kok_10 : kOK 10 := ⟨kwl_in (List.mem_of_getElem? (i := 64) (by decide +kernel)) rfl, kwl_in (List.mem_of_getElem? (i := 397) (by decide +kernel)) rfl, by decide +kernel, by decide +kernel, by decide +kernel⟩
theorem k_im_11 : Cond.instanceMethod (ky 11) ∈ kwl := kwl_in (List.mem_of_getElem? (i := 399) (by decide +kernel)) rfl
theorem k_se_11 : Cond.selects (ky 11).cls (ky 11) (ky 11) ∈ kwl := kwl_in (List.mem_of_getElem? (i := 400) (by decide +kernel)) rfl
theorem kok_11 : kOK 11 := ⟨kwl_in (List.mem_of_getElem? (i := 69) (by decide +kernel)) rfl, kwl_in (List.mem_of_getElem? (i := 401) (by decide +kernel)) rfl, by decide +kernel, by decide +kernel, by decide +kernel⟩
theorem k_im_12 : Cond.instanceMethod (ky 12) ∈ kwl := kwl_in (List.mem_of_getElem? (i := 405) (by decide +kernel)) rfl
theorem k_se_12 : Cond.selects (ky 12).cls (ky 12) (ky 12) ∈ kwl := kwl_in (List.mem_of_getElem? (i := 2) (by decide +kernel)) rfl
theorem kok_12 : kOK 12 := ⟨kwl_in (List.mem_of_getElem? (i := 64) (by decide +kernel)) rfl, kwl_in (List.mem_of_getElem? (i := 406) (by decide +kernel)) rfl, by decide +kernel, by decide +kernel, by decide +kernel⟩
theorem k_im_13 : Cond.instanceMethod (ky 13) ∈ kwl := kwl_in (List.mem_of_getElem? (i := 408) (by decide +kernel)) rfl
theorem k_se_13 : Cond.selects (ky 13).cls (ky 13) (ky 13) ∈ kwl := kwl_in (List.mem_of_getElem? (i := 409) (by decide +kernel)) rfl
theorem kok_13 : kOK 13 := ⟨kwl_in (List.mem_of_getElem? (i := 64) (by decide +kernel)) rfl, kwl_in (List.mem_of_getElem? (i := 410) (by decide +kernel)) rfl, by decide +kernel, by decide +kernel, by decide +kernel⟩
theorem k_im_14 : Cond.instanceMethod (ky 14) ∈ kwl := kwl_in (List.mem_of_getElem? (i := 412) (by decide +kernel)) rfl
theorem k_se_14 : Cond.selects (ky 14).cls (ky 14) (ky 14) ∈ kwl := kwl_in (List.mem_of_getElem? (i := 413) (by decide +kernel)) rfl
theorem kok_14 : kOK 14 := ⟨kwl_in (List.mem_of_getElem? (i := 69) (by decide +kernel)) rfl, kwl_in (List.mem_of_getElem? (i := 414) (by decide +kernel)) rfl, by decide +kernel, by decide +kernel, by decide +kernel⟩
theorem k_im_15 : Cond.instanceMethod (ky 15) ∈ kwl := kwl_in (List.mem_of_getElem? (i := 418) (by decide +kernel)) rfl
theorem k_se_15 : Cond.selects (ky 15).cls (ky 15) (ky 15) ∈ kwl := kwl_in (List.mem_of_getElem? (i := 419) (by decide +kernel)) rfl
theorem kok_15 : kOK 15 := ⟨kwl_in (List.mem_of_getElem? (i := 64) (by decide +kernel)) rfl, kwl_in (List.mem_of_getElem? (i := 420) (by decide +kernel)) rfl, by decide +kernel, by decide +kernel, by decide +kernel⟩
theorem k_im_16 : Cond.instanceMethod (ky 16) ∈ kwl := kwl_in (List.mem_of_getElem? (i := 422) (by decide +kernel)) rfl
theorem k_se_16 : Cond.selects (ky 16).cls (ky 16) (ky 16) ∈ kwl := kwl_in (List.mem_of_getElem? (i := 423) (by decide +kernel)) rfl
theorem kok_16 : kOK 16 := ⟨kwl_in (List.mem_of_getElem? (i := 69) (by decide +kernel)) rfl, kwl_in (List.mem_of_getElem? (i := 424) (by decide +kernel)) rfl, by decide +kernel, by decide +kernel, by decide +kernel⟩
theorem k_im_17 : Cond.instanceMethod (ky 17) ∈ kwl := kwl_in (List.mem_of_getElem? (i := 426) (by decide +kernel)) rfl
theorem k_se_17 : Cond.selects (ky 17).cls (ky 17) (ky 17) ∈ kwl := kwl_in (List.mem_of_getElem? (i := 427) (by decide +kernel)) rfl
theorem kok_17 : kOK 17 := ⟨kwl_in (List.mem_of_getElem? (i := 65) (by decide +kernel)) rfl, kwl_in (List.mem_of_getElem? (i := 428) (by decide +kernel)) rfl, by decide +kernel, by decide +kernel, by decide +kernel⟩
theorem k_im_18 : Cond.instanceMethod (ky 18) ∈ kwl := kwl_in (List.mem_of_getElem? (i := 430) (by decide +kernel)) rfl
theorem k_se_18 : Cond.selects (ky 18).cls (ky 18) (ky 18) ∈ kwl := kwl_in (List.mem_of_getElem? (i := 431) (by decide +kernel)) rfl
theorem kok_18 : kOK 18 := ⟨kwl_in (List.mem_of_getElem? (i := 64) (by decide +kernel)) rfl, kwl_in (List.mem_of_getElem? (i := 432) (by decide +kernel)) rfl, by decide +kernel, by decide +kernel, by decide +kernel⟩
theorem k_im_19 : Cond.instanceMethod (ky 19) ∈ kwl := kwl_in (List.mem_of_getElem? (i := 434) (by decide +kernel)) rfl
theorem k_se_19 : Cond.selects (ky 19).cls (ky 19) (ky 19) ∈ kwl := kwl_in (List.mem_of_getElem? (i := 435) (by decide +kernel)) rfl
theorem kok_19 : kOK 19 := ⟨kwl_in (List.mem_of_getElem? (i := 71) (by decide +kernel)) rfl, kwl_in (List.mem_of_getElem? (i := 436) (by decide +kernel)) rfl, by decide +kernel, by decide +kernel, by decide +kernel⟩
theorem k_im_20 : Cond.instanceMethod (ky 20) ∈ kwl := kwl_in (List.mem_of_getElem? (i := 438) (by decide +kernel)) rfl
theorem k_se_20 : Cond.selects (ky 20).cls (ky 20) (ky 20) ∈ kwl := kwl_in (List.mem_of_getElem? (i := 439) (by decide +kernel)) rfl
theorem kok_20 : kOK 20 := ⟨kwl_in (List.mem_of_getElem? (i := 69) (by decide +kernel)) rfl, kwl_in (List.mem_of_getElem? (i := 440) (by decide +kernel)) rfl, by decide +kernel, by decide +kernel, by decide +kernel⟩
theorem k_im_21 : Cond.instanceMethod (ky 21) ∈ kwl := kwl_in (List.mem_of_getElem? (i := 442) (by decide +kernel)) rfl
theorem k_se_21 : Cond.selects (ky 21).cls (ky 21) (ky 21) ∈ kwl := kwl_in (List.mem_of_getElem? (i := 443) (by decide +kernel)) rfl
theorem kok_21 : kOK 21 := ⟨kwl_in (List.mem_of_getElem? (i := 71) (by decide +kernel)) rfl, kwl_in (List.mem_of_getElem? (i := 444) (by decide +kernel)) rfl, by decide +kernel, by decide +kernel, by decide +kernel⟩
theorem k_im_22 : Cond.instanceMethod (ky 22) ∈ kwl := kwl_in (List.mem_of_getElem? (i := 447) (by decide +kernel)) rfl
theorem k_se_22 : Cond.selects (ky 22).cls (ky 22) (ky 22) ∈ kwl := kwl_in (List.mem_of_getElem? (i := 3) (by decide +kernel)) rfl
theorem kok_22 : kOK 22 := ⟨kwl_in (List.mem_of_getElem? (i := 71) (by decide +kernel)) rfl, kwl_in (List.mem_of_getElem? (i := 448) (by decide +kernel)) rfl, by decide +kernel, by decide +kernel, by decide +kernel⟩
theorem k_im_23 : Cond.instanceMethod (ky 23) ∈ kwl := kwl_in (List.mem_of_getElem? (i := 451) (by decide +kernel)) rfl
theorem k_se_23 : Cond.selects (ky 23).cls (ky 23) (ky 23) ∈ kwl := kwl_in (List.mem_of_getElem? (i := 4) (by decide +kernel)) rfl
theorem kok_23 : kOK 23 := ⟨kwl_in (List.mem_of_getElem? (i := 71) (by decide +kernel)) rfl, kwl_in (List.mem_of_getElem? (i := 452) (by decide +kernel)) rfl, by decide +kernel, by decide +kernel, by decide +kernel⟩
theorem k_im_24 : Cond.instanceMethod (ky 24) ∈ kwl := kwl_in (List.mem_of_getElem? (i := 455) (by decide +kernel)) rfl
theorem k_se_24 : Cond.selects (ky 24).cls (ky 24) (ky 24) ∈ kwl := kwl_in (List.mem_of_getElem? (i := 5) (by decide +kernel)) rfl
theorem kok_24 : kOK 24 := ⟨kwl_in (List.mem_of_getElem? (i := 71) (by decide +kernel)) rfl, kwl_in (List.mem_of_getElem? (i := 456) (by decide +kernel)) rfl, by decide +kernel, by decide +kernel, by decide +kernel⟩
theorem k_im_25 : Cond.instanceMethod (ky 25) ∈ kwl := kwl_in (List.mem_of_getElem? (i := 461) (by decide +kernel)) rfl
theorem k_se_25 : Cond.selects (ky 25).cls (ky 25) (ky 25) ∈ kwl := kwl_in (List.mem_of_getElem? (i := 6) (by decide +kernel)) rfl
theorem kok_25 : kOK 25 := ⟨kwl_in (List.mem_of_getElem? (i := 71) (by decide +kernel)) rfl, kwl_in (List.mem_of_getElem? (i := 462) (by decide +kernel)) rfl, by decide +kernel, by decide +kernel, by decide +kernel⟩
theorem k_im_26 : Cond.instanceMethod (ky 26) ∈ kwl := kwl_in (List.mem_of_getElem? (i := 465) (by decide +kernel)) rfl
theorem k_se_26 : Cond.selects (ky 26).cls (ky 26) (ky 26) ∈ kwl := kwl_in (List.mem_of_getElem? (i := 7) (by decide +kernel)) rfl
theorem kok_26 : kOK 26 := ⟨kwl_in (List.mem_of_getElem? (i := 71) (by decide +kernel)) rfl, kwl_in (List.mem_of_getElem? (i := 466) (by decide +kernel)) rfl, by decide +kernel, by decide +kernel, by decide +kernel⟩
theorem k_im_27 : Cond.instanceMethod (ky 27) ∈ kwl := kwl_in (List.mem_of_getElem? (i := 469) (by decide +kernel)) rfl
theorem k_se_27 : Cond.selects (ky 27).cls (ky 27) (ky 27) ∈ kwl := kwl_in (List.mem_of_getElem? (i := 470) (by decide +kernel)) rfl
theorem kok_27 : kOK 27 := ⟨kwl_in (List.mem_of_getElem? (i := 69) (by decide +kernel)) rfl, kwl_in (List.mem_of_getElem? (i := 471) (by decide +kernel)) rfl, by decide +kernel, by decide +kernel, by decide +kernel⟩
theorem k_im_28 : Cond.instanceMethod (ky 28) ∈ kwl := kwl_in (List.mem_of_getElem? (i := 473) (by decide +kernel)) rfl
theorem k_se_28 : Cond.selects (ky 28).cls (ky 28) (ky 28) ∈ kwl := kwl_in (List.mem_of_getElem? (i := 474) (by decide +kernel)) rfl
theorem kok_28 : kOK 28 := ⟨kwl_in (List.mem_of_getElem? (i := 64) (by decide +kernel)) rfl, kwl_in (List.mem_of_getElem? (i := 475) (by decide +kernel)) rfl, by decide +kernel, by decide +kernel, by decide +kernel⟩
theorem k_im_29 : Cond.instanceMethod (ky 29) ∈ kwl := kwl_in (List.mem_of_getElem? (i := 477) (by decide +kernel)) rfl
theorem k_se_29 : Cond.selects (ky 29).cls (ky 29) (ky 29) ∈ kwl := kwl_in (List.mem_of_getElem? (i := 478) (by decide +kernel)) rfl
theorem kok_29 : kOK 29 := ⟨kwl_in (List.mem_of_getElem? (i := 72) (by decide +kernel)) rfl, kwl_in (List.mem_of_getElem? (i := 479) (by decide +kernel)) rfl, by decide +kernel, by decide +kernel, by decide +kernel⟩
theorem k_im_30 : Cond.instanceMethod (ky 30) ∈ kwl := kwl_in (List.mem_of_getElem? (i := 481) (by decide +kernel)) rfl
theorem k_se_30 : Cond.selects (ky 30).cls (ky 30) (ky 30) ∈ kwl := kwl_in (List.mem_of_getElem? (i := 482) (by decide +kernel)) rfl
theorem kok_30 : kOK 30 := ⟨kwl_in (List.mem_of_getElem? (i := 72) (by decide +kernel)) rfl, kwl_in (List.mem_of_getElem? (i := 483) (by decide +kernel)) rfl, by decide +kernel, by decide +kernel, by decide +kernel⟩
theorem k_im_31 : Cond.instanceMethod (ky 31) ∈ kwl := kwl_in (List.mem_of_getElem? (i := 485) (by decide +kernel)) rfl
theorem k_se_31 : Cond.selects (ky 31).cls (ky 31) (ky 31) ∈ kwl := kwl_in (List.mem_of_getElem? (i := 486) (by decide +kernel)) rfl
theorem kok_31 : kOK 31 := ⟨kwl_in (List.mem_of_getElem? (i := 70) (by decide +kernel)) rfl, kwl_in (List.mem_of_getElem? (i := 487) (by decide +kernel)) rfl, by decide +kernel, by decide +kernel, by decide +kernel⟩
theorem k_im_32 : Cond.instanceMethod (ky 32) ∈ kwl := kwl_in (List.mem_of_getElem? (i := 490) (by decide +kernel)) rfl
theorem k_se_32 : Cond.selects (ky 32).cls (ky 32) (ky 32) ∈ kwl := kwl_in (List.mem_of_getElem? (i := 8) (by decide +kernel)) rfl
theorem kok_32 : kOK 32 := ⟨kwl_in (List.mem_of_getElem? (i := 72) (by decide +kernel)) rfl, kwl_in (List.mem_of_getElem? (i := 491) (by decide +kernel)) rfl, by decide +kernel, by decide +kernel, by decide +kernel⟩
theorem k_im_33 : Cond.instanceMethod (ky 33) ∈ kwl := kwl_in (List.mem_of_getElem? (i := 495) (by decide +kernel)) rfl
theorem k_se_33 : Cond.selects (ky 33).cls (ky 33) (ky 33) ∈ kwl := kwl_in (List.mem_of_getElem? (i := 9) (by decide +kernel)) rfl
theorem kok_33 : kOK 33 := ⟨kwl_in (List.mem_of_getElem? (i := 72) (by decide +kernel)) rfl, kwl_in (List.mem_of_getElem? (i := 496) (by decide +kernel)) rfl, by decide +kernel, by decide +kernel, by decide +kernel⟩
theorem k_im_34 : Cond.instanceMethod (ky 34) ∈ kwl := kwl_in (List.mem_of_getElem? (i := 498) (by decide +kernel)) rfl
theorem k_se_34 : Cond.selects (ky 34).cls (ky 34) (ky 34) ∈ kwl := kwl_in (List.mem_of_getElem? (i := 499) (by decide +kernel)) rfl
theorem kok_34 : kOK 34 := ⟨kwl_in (List.mem_of_getElem? (i := 69) (by decide +kernel)) rfl, kwl_in (List.mem_of_getElem? (i := 500) (by decide +kernel)) rfl, by decide +kernel, by decide +kernel, by decide +kernel⟩
theorem k_im_35 : Cond.instanceMethod (ky 35) ∈ kwl := kwl_in (List.mem_of_getElem? (i := 502) (by decide +kernel)) rfl
theorem k_se_35 : Cond.selects (ky 35).cls (ky 35) (ky 35) ∈ kwl := kwl_in (List.mem_of_getElem? (i := 503) (by decide +kernel)) rfl
theorem kok_35 : kOK 35 := ⟨kwl_in (List.mem_of_getElem? (i := 69) (by decide +kernel)) rfl, kwl_in (List.mem_of_getElem? (i := 504) (by decide +kernel)) rfl, by decide +kernel, by decide +kernel, by decide +kernel⟩
theorem k_im_36 : Cond.instanceMethod (ky 36) ∈ kwl := kwl_in (List.mem_of_getElem? (i := 508) (by decide +kernel)) rfl
theorem k_se_36 : Cond.selects (ky 36).cls (ky 36) (ky 36) ∈ kwl := kwl_in (List.mem_of_getElem? (i := 509) (by decide +kernel)) rfl
theorem kok_36 : kOK 36 := ⟨kwl_in (List.mem_of_getElem? (i := 70) (by decide +kernel)) rfl, kwl_in (List.mem_of_getElem? (i := 510) (by decide +kernel)) rfl, by decide +kernel, by decide +kernel, by decide +kernel⟩
theorem k_im_37 : Cond.instanceMethod (ky 37) ∈ kwl := kwl_in (List.mem_of_getElem? (i := 516) (by decide +kernel)) rfl
theorem k_se_37 : Cond.selects (ky 37).cls (ky 37) (ky 37) ∈ kwl := kwl_in (List.mem_of_getElem? (i := 10) (by decide +kernel)) rfl
theorem kok_37 : kOK 37 := ⟨kwl_in (List.mem_of_getElem? (i := 72) (by decide +kernel)) rfl, kwl_in (List.mem_of_getElem? (i := 517) (by decide +kernel)) rfl, by decide +kernel, by decide +kernel, by decide +kernel⟩
theorem k_im_38 : Cond.instanceMethod (ky 38) ∈ kwl := kwl_in (List.mem_of_getElem? (i := 519) (by decide +kernel)) rfl
theorem k_se_38 : Cond.selects (ky 38).cls (ky 38) (ky 38) ∈ kwl := kwl_in (List.mem_of_getElem? (i := 520) (by decide +kernel)) rfl
theorem kok_38 : kOK 38 := ⟨kwl_in (List.mem_of_getElem? (i := 70) (by decide +kernel)) rfl, kwl_in (List.mem_of_getElem? (i := 521) (by decide +kernel)) rfl, by decide +kernel, by decide +kernel, by decide +kernel⟩
theorem k_im_39 : Cond.instanceMethod (ky 39) ∈ kwl := kwl_in (List.mem_of_getElem? (i := 524) (by decide +kernel)) rfl
theorem k_se_39 : Cond.selects (ky 39).cls (ky 39) (ky 39) ∈ kwl := kwl_in (List.mem_of_getElem? (i := 11) (by decide +kernel)) rfl
theorem kok_39 : kOK 39 := ⟨kwl_in (List.mem_of_getElem? (i := 72) (by decide +kernel)) rfl, kwl_in (List.mem_of_getElem? (i := 525) (by decide +kernel)) rfl, by decide +kernel, by decide +kernel, by decide +kernel⟩
theorem k_im_40 : Cond.instanceMethod (ky 40) ∈ kwl := kwl_in (List.mem_of_getElem? (i := 528) (by decide +kernel)) rfl
theorem k_se_40 : Cond.selects (ky 40).cls (ky 40) (ky 40) ∈ kwl := kwl_in (List.mem_of_getElem? (i := 12) (by decide +kernel)) rfl
theorem kok_40 : kOK 40 := ⟨kwl_in (List.mem_of_getElem? (i := 72) (by decide +kernel)) rfl, kwl_in (List.mem_of_getElem? (i := 529) (by decide +kernel)) rfl, by decide +kernel, by decide +kernel, by decide +kernel⟩
theorem k_im_41 : Cond.instanceMethod (ky 41) ∈ kwl := kwl_in (List.mem_of_getElem? (i := 531) (by decide +kernel)) rfl
theorem k_se_41 : Cond.selects (ky 41).cls (ky 41) (ky 41) ∈ kwl := kwl_in (List.mem_of_getElem? (i := 532) (by decide +kernel)) rfl
theorem kok_41 : kOK 41 := ⟨kwl_in (List.mem_of_getElem? (i := 70) (by decide +kernel)) rfl, kwl_in (List.mem_of_getElem? (i := 533) (by decide +kernel)) rfl, by decide +kernel, by decide +kernel, by decide +kernel⟩
theorem k_im_42 : Cond.instanceMethod (ky 42) ∈ kwl := kwl_in (List.mem_of_getElem? (i := 536) (by decide +kernel)) rfl
theorem k_se_42 : Cond.selects (ky 42).cls (ky 42) (ky 42) ∈ kwl := kwl_in (List.mem_of_getElem? (i := 13) (by decide +kernel)) rfl
theorem kok_42 : kOK 42 := ⟨kwl_in (List.mem_of_getElem? (i := 70) (by decide +kernel)) rfl, kwl_in (List.mem_of_getElem? (i := 537) (by decide +kernel)) rfl, by decide +kernel, by decide +kernel, by decide +kernel⟩
theorem k_im_43 : Cond.instanceMethod (ky 43) ∈ kwl := kwl_in (List.mem_of_getElem? (i := 539) (by decide +kernel)) rfl
theorem k_se_43 : Cond.selects (ky 43).cls (ky 43) (ky 43) ∈ kwl := kwl_in (List.mem_of_getElem? (i := 540) (by decide +kernel)) rfl
theorem kok_43 : kOK 43 := ⟨kwl_in (List.mem_of_getElem? (i := 69) (by decide +kernel)) rfl, kwl_in (List.mem_of_getElem? (i := 541) (by decide +kernel)) rfl, by decide +kernel, by decide +kernel, by decide +kernel⟩
theorem k_im_44 : Cond.instanceMethod (ky 44) ∈ kwl := kwl_in (List.mem_of_getElem? (i := 543) (by decide +kernel)) rfl
theorem k_se_44 : Cond.selects (ky 44).cls (ky 44) (ky 44) ∈ kwl := kwl_in (List.mem_of_getElem? (i := 544) (by decide +kernel)) rfl
theorem kok_44 : kOK 44 := ⟨kwl_in (List.mem_of_getElem? (i := 69) (by decide +kernel)) rfl, kwl_in (List.mem_of_getElem? (i := 545) (by decide +kernel)) rfl, by decide +kernel, by decide +kernel, by decide +kernel⟩
theorem k_im_45 : Cond.instanceMethod (ky 45) ∈ kwl := kwl_in (List.mem_of_getElem? (i := 549) (by decide +kernel)) rfl
theorem k_se_45 : Cond.selects (ky 45).cls (ky 45) (ky 45) ∈ kwl := kwl_in (List.mem_of_getElem? (i := 14) (by decide +kernel)) rfl
theorem kok_45 : kOK 45 := ⟨kwl_in (List.mem_of_getElem? (i := 72) (by decide +kernel)) rfl, kwl_in (List.mem_of_getElem? (i := 550) (by decide +kernel)) rfl, by decide +kernel, by decide +kernel, by decide +kernel⟩
theorem k_im_46 : Cond.instanceMethod (ky 46) ∈ kwl := kwl_in (List.mem_of_getElem? (i := 552) (by decide +kernel)) rfl
theorem k_se_46 : Cond.selects (ky 46).cls (ky 46) (ky 46) ∈ kwl := kwl_in (List.mem_of_getElem? (i := 553) (by decide +kernel)) rfl
theorem kok_46 : kOK 46 := ⟨kwl_in (List.mem_of_getElem? (i := 69) (by decide +kernel)) rfl, kwl_in (List.mem_of_getElem? (i := 554) (by decide +kernel)) rfl, by decide +kernel, by decide +kernel, by decide +kernel⟩
theorem k_im_47 : Cond.instanceMethod (ky 47) ∈ kwl := kwl_in (List.mem_of_getElem? (i := 557) (by decide +kernel)) rfl
theorem k_se_47 : Cond.selects (ky 47).cls (ky 47) (ky 47) ∈ kwl := kwl_in (List.mem_of_getElem? (i := 15) (by decide +kernel)) rfl
theorem kok_47 : kOK 47 := ⟨kwl_in (List.mem_of_getElem? (i := 72) (by decide +kernel)) rfl, kwl_in (List.mem_of_getElem? (i := 558) (by decide +kernel)) rfl, by decide +kernel, by decide +kernel, by decide +kernel⟩
theorem k_im_48 : Cond.instanceMethod (ky 48) ∈ kwl := kwl_in (List.mem_of_getElem? (i := 560) (by decide +kernel)) rfl
theorem k_se_48 : Cond.selects (ky 48).cls (ky 48) (ky 48) ∈ kwl := kwl_in (List.mem_of_getElem? (i := 561) (by decide +kernel)) rfl
theorem kok_48 : kOK 48 := ⟨kwl_in (List.mem_of_getElem? (i := 70) (by decide +kernel)) rfl, kwl_in (List.mem_of_getElem? (i := 562) (by decide +kernel)) rfl, by decide +kernel, by decide +kernel, by decide +kernel⟩
theorem k_im_49 : Cond.instanceMethod (ky 49) ∈ kwl := kwl_in (List.mem_of_getElem? (i := 564) (by decide +kernel)) rfl
theorem k_se_49 : Cond.selects (ky 49).cls (ky 49) (ky 49) ∈ kwl := kwl_in (List.mem_of_getElem? (i := 565) (by decide +kernel)) rfl
theorem kok_49 : kOK 49 := ⟨kwl_in (List.mem_of_getElem? (i := 70) (by decide +kernel)) rfl, kwl_in (List.mem_of_getElem? (i := 566) (by decide +kernel)) rfl, by decide +kernel, by decide +kernel, by decide +kernel⟩
theorem k_im_50 : Cond.instanceMethod (ky 50) ∈ kwl := kwl_in (List.mem_of_getElem? (i := 568) (by decide +kernel)) rfl
theorem k_se_50 : Cond.selects (ky 50).cls (ky 50) (ky 50) ∈ kwl := kwl_in (List.mem_of_getElem? (i := 569) (by decide +kernel)) rfl
theorem kok_50 : kOK 50 := ⟨kwl_in (List.mem_of_getElem? (i := 70) (by decide +kernel)) rfl, kwl_in (List.mem_of_getElem? (i := 570) (by decide +kernel)) rfl, by decide +kernel, by decide +kernel, by decide +kernel⟩
theorem k_im_51 : Cond.instanceMethod (ky 51) ∈ kwl := kwl_in (List.mem_of_getElem? (i := 572) (by decide +kernel)) rfl
theorem k_se_51 : Cond.selects (ky 51).cls (ky 51) (ky 51) ∈ kwl := kwl_in (List.mem_of_getElem? (i := 573) (by decide +kernel)) rfl
theorem kok_51 : kOK 51 := ⟨kwl_in (List.mem_of_getElem? (i := 70) (by decide +kernel)) rfl, kwl_in (List.mem_of_getElem? (i := 574) (by decide +kernel)) rfl, by decide +kernel, by decide +kernel, by decide +kernel⟩
theorem k_im_52 : Cond.instanceMethod (ky 52) ∈ kwl := kwl_in (List.mem_of_getElem? (i := 577) (by decide +kernel)) rfl
theorem k_se_52 : Cond.selects (ky 52).cls (ky 52) (ky 52) ∈ kwl := kwl_in (List.mem_of_getElem? (i := 16) (by decide +kernel)) rfl
theorem kok_52 : kOK 52 := ⟨kwl_in (List.mem_of_getElem? (i := 72) (by decide +kernel)) rfl, kwl_in (List.mem_of_getElem? (i := 578) (by decide +kernel)) rfl, by decide +kernel, by decide +kernel, by decide +kernel⟩
theorem k_im_53 : Cond.instanceMethod (ky 53) ∈ kwl := kwl_in (List.mem_of_getElem? (i := 582) (by decide +kernel)) rfl
theorem k_se_53 : Cond.selects (ky 53).cls (ky 53) (ky 53) ∈ kwl := kwl_in (List.mem_of_getElem? (i := 17) (by decide +kernel)) rfl
theorem kok_53 : kOK 53 := ⟨kwl_in (List.mem_of_getElem? (i := 72) (by decide +kernel)) rfl, kwl_in (List.mem_of_getElem? (i := 583) (by decide +kernel)) rfl, by decide +kernel, by decide +kernel, by decide +kernel⟩
theorem k_im_54 : Cond.instanceMethod (ky 54) ∈ kwl := kwl_in (List.mem_of_getElem? (i := 587) (by decide +kernel)) rfl
theorem k_se_54 : Cond.selects (ky 54).cls (ky 54) (ky 54) ∈ kwl := kwl_in (List.mem_of_getElem? (i := 18) (by decide +kernel)) rfl
theorem kok_54 : kOK 54 := ⟨kwl_in (List.mem_of_getElem? (i := 72) (by decide +kernel)) rfl, kwl_in (List.mem_of_getElem? (i := 588) (by decide +kernel)) rfl, by decide +kernel, by decide +kernel, by decide +kernel⟩
theorem k_im_55 : Cond.instanceMethod (ky 55) ∈ kwl := kwl_in (List.mem_of_getElem? (i := 590) (by decide +kernel)) rfl
theorem k_se_55 : Cond.selects (ky 55).cls (ky 55) (ky 55) ∈ kwl := kwl_in (List.mem_of_getElem? (i := 591) (by decide +kernel)) rfl
theorem kok_55 : kOK 55 := ⟨kwl_in (List.mem_of_getElem? (i := 69) (by decide +kernel)) rfl, kwl_in (List.mem_of_getElem? (i := 592) (by decide +kernel)) rfl, by decide +kernel, by decide +kernel, by decide +kernel⟩
theorem k_im_56 : Cond.instanceMethod (ky 56) ∈ kwl := kwl_in (List.mem_of_getElem? (i := 594) (by decide +kernel)) rfl
theorem k_se_56 : Cond.selects (ky 56).cls (ky 56) (ky 56) ∈ kwl := kwl_in (List.mem_of_getElem? (i := 595) (by decide +kernel)) rfl
theorem kok_56 : kOK 56 := ⟨kwl_in (List.mem_of_getElem? (i := 69) (by decide +kernel)) rfl, kwl_in (List.mem_of_getElem? (i := 596) (by decide +kernel)) rfl, by decide +kernel, by decide +kernel, by decide +kernel⟩
theorem k_im_57 : Cond.instanceMethod (ky 57) ∈ kwl := kwl_in (List.mem_of_getElem? (i := 602) (by decide +kernel)) rfl
theorem k_se_57 : Cond.selects (ky 57).cls (ky 57) (ky 57) ∈ kwl := kwl_in (List.mem_of_getElem? (i := 19) (by decide +kernel)) rfl
theorem kok_57 : kOK 57 := ⟨kwl_in (List.mem_of_getElem? (i := 72) (by decide +kernel)) rfl, kwl_in (List.mem_of_getElem? (i := 603) (by decide +kernel)) rfl, by decide +kernel, by decide +kernel, by decide +kernel⟩
theorem k_im_58 : Cond.instanceMethod (ky 58) ∈ kwl := kwl_in (List.mem_of_getElem? (i := 606) (by decide +kernel)) rfl
theorem k_se_58 : Cond.selects (ky 58).cls (ky 58) (ky 58) ∈ kwl := kwl_in (List.mem_of_getElem? (i := 607) (by decide +kernel)) rfl
theorem kok_58 : kOK 58 := ⟨kwl_in (List.mem_of_getElem? (i := 71) (by decide +kernel)) rfl, kwl_in (List.mem_of_getElem? (i := 608) (by decide +kernel)) rfl, by decide +kernel, by decide +kernel, by decide +kernel⟩
theorem k_im_59 : Cond.instanceMethod (ky 59) ∈ kwl := kwl_in (List.mem_of_getElem? (i := 611) (by decide +kernel)) rfl
theorem k_se_59 : Cond.selects (ky 59).cls (ky 59) (ky 59) ∈ kwl := kwl_in (List.mem_of_getElem? (i := 20) (by decide +kernel)) rfl
theorem kok_59 : kOK 59 := ⟨kwl_in (List.mem_of_getElem? (i := 72) (by decide +kernel)) rfl, kwl_in (List.mem_of_getElem? (i := 612) (by decide +kernel)) rfl, by decide +kernel, by decide +kernel, by decide +kernel⟩
theorem k_im_60 : Cond.instanceMethod (ky 60) ∈ kwl := kwl_in (List.mem_of_getElem? (i := 617) (by decide +kernel)) rfl
theorem k_se_60 : Cond.selects (ky 60).cls (ky 60) (ky 60) ∈ kwl := kwl_in (List.mem_of_getElem? (i := 21) (by decide +kernel)) rfl
theorem kok_60 : kOK 60 := ⟨kwl_in (List.mem_of_getElem? (i := 72) (by decide +kernel)) rfl, kwl_in (List.mem_of_getElem? (i := 618) (by decide +kernel)) rfl, by decide +kernel, by decide +kernel, by decide +kernel⟩
theorem k_im_61 : Cond.instanceMethod (ky 61) ∈ kwl := kwl_in (List.mem_of_getElem? (i := 621) (by decide +kernel)) rfl
theorem k_se_61 : Cond.selects (ky 61).cls (ky 61) (ky 61) ∈ kwl := kwl_in (List.mem_of_getElem? (i := 22) (by decide +kernel)) rfl
theorem kok_61 : kOK 61 := ⟨kwl_in (List.mem_of_getElem? (i := 72) (by decide +kernel)) rfl, kwl_in (List.mem_of_getElem? (i := 622) (by decide +kernel)) rfl, by decide +kernel, by decide +kernel, by decide +kernel⟩
theorem k_im_62 : Cond.instanceMethod (ky 62) ∈ kwl := kwl_in (List.mem_of_getElem? (i := 625) (by decide +kernel)) rfl
theorem k_se_62 : Cond.selects (ky 62).cls (ky 62) (ky 62) ∈ kwl := kwl_in (List.mem_of_getElem? (i := 23) (by decide +kernel)) rfl
theorem kok_62 : kOK 62 := ⟨kwl_in (List.mem_of_getElem? (i := 72) (by decide +kernel)) rfl, kwl_in (List.mem_of_getElem? (i := 626) (by decide +kernel)) rfl, by decide +kernel, by decide +kernel, by decide +kernel⟩
theorem k_im_63 : Cond.instanceMethod (ky 63) ∈ kwl := kwl_in (List.mem_of_getElem? (i := 630) (by decide +kernel)) rfl
theorem k_se_63 : Cond.selects (ky 63).cls (ky 63) (ky 63) ∈ kwl := kwl_in (List.mem_of_getElem? (i := 24) (by decide +kernel)) rfl
theorem kok_63 : kOK 63 := ⟨kwl_in (List.mem_of_getElem? (i := 72) (by decide +kernel)) rfl, kwl_in (List.mem_of_getElem? (i := 631) (by decide +kernel)) rfl, by decide +kernel, by decide +kernel, by decide +kernel⟩
theorem k_im_64 : Cond.instanceMethod (ky 64) ∈ kwl := kwl_in (List.mem_of_getElem? (i := 633) (by decide +kernel)) rfl
theorem k_se_64 : Cond.selects (ky 64).cls (ky 64) (ky 64) ∈ kwl := kwl_in (List.mem_of_getElem? (i := 634) (by decide +kernel)) rfl
theorem kok_64 : kOK 64 := ⟨kwl_in (List.mem_of_getElem? (i := 71) (by decide +kernel)) rfl, kwl_in (List.mem_of_getElem? (i := 635) (by decide +kernel)) rfl, by decide +kernel, by decide +kernel, by decide +kernel⟩
theorem k_im_65 : Cond.instanceMethod (ky 65) ∈ kwl := kwl_in (List.mem_of_getElem? (i := 638) (by decide +kernel)) rfl
theorem k_se_65 : Cond.selects (ky 65).cls (ky 65) (ky 65) ∈ kwl := kwl_in (List.mem_of_getElem? (i := 25) (by decide +kernel)) rfl
theorem kok_65 : kOK 65 := ⟨kwl_in (List.mem_of_getElem? (i := 72) (by decide +kernel)) rfl, kwl_in (List.mem_of_getElem? (i := 639) (by decide +kernel)) rfl, by decide +kernel, by decide +kernel, by decide +kernel⟩
theorem k_im_66 : Cond.instanceMethod (ky 66) ∈ kwl := kwl_in (List.mem_of_getElem? (i := 642) (by decide +kernel)) rfl
theorem k_se_66 : Cond.selects (ky 66).cls (ky 66) (ky 66) ∈ kwl := kwl_in (List.mem_of_getElem? (i := 26) (by decide +kernel)) rfl
theorem kok_66 : kOK 66 := ⟨kwl_in (List.mem_of_getElem? (i := 72) (by decide +kernel)) rfl, kwl_in (List.mem_of_getElem? (i := 643) (by decide +kernel)) rfl, by decide +kernel, by decide +kernel, by decide +kernel⟩
theorem k_im_67 : Cond.instanceMethod (ky 67) ∈ kwl := kwl_in (List.mem_of_getElem? (i := 645) (by decide +kernel)) rfl
theorem k_se_67 : Cond.selects (ky 67).cls (ky 67) (ky 67) ∈ kwl := kwl_in (List.mem_of_getElem? (i := 646) (by decide +kernel)) rfl
theorem kok_67 : kOK 67 := ⟨kwl_in (List.mem_of_getElem? (i := 65) (by decide +kernel)) rfl, kwl_in (List.mem_of_getElem? (i := 647) (by decide +kernel)) rfl, by decide +kernel, by decide +kernel, by decide +kernel⟩
theorem k_im_68 : Cond.instanceMethod (ky 68) ∈ kwl := kwl_in (List.mem_of_getElem? (i := 650) (by decide +kernel)) rfl
theorem k_se_68 : Cond.selects (ky 68).cls (ky 68) (ky 68) ∈ kwl := kwl_in (List.mem_of_getElem? (i := 27) (by decide +kernel)) rfl
theorem kok_68 : kOK 68 := ⟨kwl_in (List.mem_of_getElem? (i := 72) (by decide +kernel)) rfl, kwl_in (List.mem_of_getElem? (i := 651) (by decide +kernel)) rfl, by decide +kernel, by decide +kernel, by decide +kernel⟩
theorem k_im_69 : Cond.instanceMethod (ky 69) ∈ kwl := kwl_in (List.mem_of_getElem? (i := 653) (by decide +kernel)) rfl
theorem k_se_69 : Cond.selects (ky 69).cls (ky 69) (ky 69) ∈ kwl := kwl_in (List.mem_of_getElem? (i := 654) (by decide +kernel)) rfl
theorem kok_69 : kOK 69 := ⟨kwl_in (List.mem_of_getElem? (i := 64) (by decide +kernel)) rfl, kwl_in (List.mem_of_getElem? (i := 655) (by decide +kernel)) rfl, by decide +kernel, by decide +kernel, by decide +kernel⟩
theorem k_im_70 : Cond.instanceMethod (ky 70) ∈ kwl := kwl_in (List.mem_of_getElem? (i := 657) (by decide +kernel)) rfl
theorem k_se_70 : Cond.selects (ky 70).cls (ky 70) (ky 70) ∈ kwl := kwl_in (List.mem_of_getElem? (i := 658) (by decide +kernel)) rfl
theorem kok_70 : kOK 70 := ⟨kwl_in (List.mem_of_getElem? (i := 69) (by decide +kernel)) rfl, kwl_in (List.mem_of_getElem? (i := 659) (by decide +kernel)) rfl, by decide +kernel, by decide +kernel, by decide +kernel⟩
theorem k_im_71 : Cond.instanceMethod (ky 71) ∈ kwl := kwl_in (List.mem_of_getElem? (i := 665) (by decide +kernel)) rfl
theorem k_se_71 : Cond.selects (ky 71).cls (ky 71) (ky 71) ∈ kwl := kwl_in (List.mem_of_getElem? (i := 666) (by decide +kernel)) rfl
theorem kok_71 : kOK 71 := ⟨kwl_in (List.mem_of_getElem? (i := 64) (by decide +kernel)) rfl, kwl_in (List.mem_of_getElem? (i := 667) (by decide +kernel)) rfl, by decide +kernel, by decide +kernel, by decide +kernel⟩
theorem k_im_72 : Cond.instanceMethod (ky 72) ∈ kwl := kwl_in (List.mem_of_getElem? (i := 674) (by decide +kernel)) rfl
theorem k_se_72 : Cond.selects (ky 72).cls (ky 72) (ky 72) ∈ kwl := kwl_in (List.mem_of_getElem? (i := 28) (by decide +kernel)) rfl
theorem kok_72 : kOK 72 := ⟨kwl_in (List.mem_of_getElem? (i := 64) (by decide +kernel)) rfl, kwl_in (List.mem_of_getElem? (i := 675) (by decide +kernel)) rfl, by decide +kernel, by decide +kernel, by decide +kernel⟩
theorem k_im_73 : Cond.instanceMethod (ky 73) ∈ kwl := kwl_in (List.mem_of_getElem? (i := 677) (by decide +kernel)) rfl
theorem k_se_73 : Cond.selects (ky 73).cls (ky 73) (ky 73) ∈ kwl := kwl_in (List.mem_of_getElem? (i := 678) (by decide +kernel)) rfl
theorem kok_73 : kOK 73 := ⟨kwl_in (List.mem_of_getElem? (i := 64) (by decide +kernel)) rfl, kwl_in (List.mem_of_getElem? (i := 679) (by decide +kernel)) rfl, by decide +kernel, by decide +kernel, by decide +kernel⟩
theorem k_im_74 : Cond.instanceMethod (ky 74) ∈ kwl := kwl_in (List.mem_of_getElem? (i := 681) (by decide +kernel)) rfl
theorem k_se_74 : Cond.selects (ky 74).cls (ky 74) (ky 74) ∈ kwl := kwl_in (List.mem_of_getElem? (i := 682) (by decide +kernel)) rfl
theorem kok_74 : kOK 74 := ⟨kwl_in (List.mem_of_getElem? (i := 72) (by decide +kernel)) rfl, kwl_in (List.mem_of_getElem? (i := 683) (by decide +kernel)) rfl, by decide +kernel, by decide +kernel, by decide +kernel⟩
theorem k_im_75 : Cond.instanceMethod (ky 75) ∈ kwl := kwl_in (List.mem_of_getElem? (i := 685) (by decide +kernel)) rfl
theorem k_se_75 : Cond.selects (ky 75).cls (ky 75) (ky 75) ∈ kwl := kwl_in (List.mem_of_getElem? (i := 686) (by decide +kernel)) rfl
theorem kok_75 : kOK 75 := ⟨kwl_in (List.mem_of_getElem? (i := 73) (by decide +kernel)) rfl, kwl_in (List.mem_of_getElem? (i := 687) (by decide +kernel)) rfl, by decide +kernel, by decide +kernel, by decide +kernel⟩
theorem k_im_76 : Cond.instanceMethod (ky 76) ∈ kwl := kwl_in (List.mem_of_getElem? (i := 689) (by decide +kernel)) rfl
theorem k_se_76 : Cond.selects (ky 76).cls (ky 76) (ky 76) ∈ kwl := kwl_in (List.mem_of_getElem? (i := 690) (by decide +kernel)) rfl
theorem kok_76 : kOK 76 := ⟨kwl_in (List.mem_of_getElem? (i := 64) (by decide +kernel)) rfl, kwl_in (List.mem_of_getElem? (i := 691) (by decide +kernel)) rfl, by decide +kernel, by decide +kernel, by decide +kernel⟩
theorem k_im_77 : Cond.instanceMethod (ky 77) ∈ kwl := kwl_in (List.mem_of_getElem? (i := 693) (by decide +kernel)) rfl
theorem k_se_77 : Cond.selects (ky 77).cls (ky 77) (ky 77) ∈ kwl := kwl_in (List.mem_of_getElem? (i := 694) (by decide +kernel)) rfl
theorem kok_77 : kOK 77 := ⟨kwl_in (List.mem_of_getElem? (i := 73) (by decide +kernel)) rfl, kwl_in (List.mem_of_getElem? (i := 695) (by decide +kernel)) rfl, by decide +kernel, by decide +kernel, by decide +kernel⟩
theorem k_im_78 : Cond.instanceMethod (ky 78) ∈ kwl := kwl_in (List.mem_of_getElem? (i := 697) (by decide +kernel)) rfl
theorem k_se_78 : Cond.selects (ky 78).cls (ky 78) (ky 78) ∈ kwl := kwl_in (List.mem_of_getElem? (i := 698) (by decide +kernel)) rfl
theorem kok_78 : kOK 78 := ⟨kwl_in (List.mem_of_getElem? (i := 64) (by decide +kernel)) rfl, kwl_in (List.mem_of_getElem? (i := 699) (by decide +kernel)) rfl, by decide +kernel, by decide +kernel, by decide +kernel⟩
theorem k_im_79 : Cond.instanceMethod (ky 79) ∈ kwl := kwl_in (List.mem_of_getElem? (i := 702) (by decide +kernel)) rfl
theorem k_se_79 : Cond.selects (ky 79).cls (ky 79) (ky 79) ∈ kwl := kwl_in (List.mem_of_getElem? (i := 703) (by decide +kernel)) rfl
theorem kok_79 : kOK 79 := ⟨kwl_in (List.mem_of_getElem? (i := 73) (by decide +kernel)) rfl, kwl_in (List.mem_of_getElem? (i := 704) (by decide +kernel)) rfl, by decide +kernel, by decide +kernel, by decide +kernel⟩
theorem k_im_80 : Cond.instanceMethod (ky 80) ∈ kwl := kwl_in (List.mem_of_getElem? (i := 706) (by decide +kernel)) rfl
theorem k_se_80 : Cond.selects (ky 80).cls (ky 80) (ky 80) ∈ kwl := kwl_in (List.mem_of_getElem? (i := 707) (by decide +kernel)) rfl
theorem kok_80 : kOK 80 := ⟨kwl_in (List.mem_of_getElem? (i := 64) (by decide +kernel)) rfl, kwl_in (List.mem_of_getElem? (i := 708) (by decide +kernel)) rfl, by decide +kernel, by decide +kernel, by decide +kernel⟩
theorem k_im_81 : Cond.instanceMethod (ky 81) ∈ kwl := kwl_in (List.mem_of_getElem? (i := 710) (by decide +kernel)) rfl
theorem k_se_81 : Cond.selects (ky 81).cls (ky 81) (ky 81) ∈ kwl := kwl_in (List.mem_of_getElem? (i := 711) (by decide +kernel)) rfl
theorem kok_81 : kOK 81 := ⟨kwl_in (List.mem_of_getElem? (i := 64) (by decide +kernel)) rfl, kwl_in (List.mem_of_getElem? (i := 712) (by decide +kernel)) rfl, by decide +kernel, by decide +kernel, by decide +kernel⟩
theorem k_im_82 : Cond.instanceMethod (ky 82) ∈ kwl := kwl_in (List.mem_of_getElem? (i := 715) (by decide +kernel)) rfl
theorem k_se_82 : Cond.selects (ky 82).cls (ky 82) (ky 82) ∈ kwl := kwl_in (List.mem_of_getElem? (i := 716) (by decide +kernel)) rfl
theorem kok_82 : kOK 82 := ⟨kwl_in (List.mem_of_getElem? (i := 64) (by decide +kernel)) rfl, kwl_in (List.mem_of_getElem? (i := 717) (by decide +kernel)) rfl, by decide +kernel, by decide +kernel, by decide +kernel⟩
theorem k_im_83 : Cond.instanceMethod (ky 83) ∈ kwl := kwl_in (List.mem_of_getElem? (i := 719) (by decide +kernel)) rfl
theorem k_se_83 : Cond.selects (ky 83).cls (ky 83) (ky 83) ∈ kwl := kwl_in (List.mem_of_getElem? (i := 720) (by decide +kernel)) rfl
theorem kok_83 : kOK 83 := ⟨kwl_in (List.mem_of_getElem? (i := 64) (by decide +kernel)) rfl, kwl_in (List.mem_of_getElem? (i := 721) (by decide +kernel)) rfl, by decide +kernel, by decide +kernel, by decide +kernel⟩
theorem k_im_84 : Cond.instanceMethod (ky 84) ∈ kwl := kwl_in (List.mem_of_getElem? (i := 724) (by decide +kernel)) rfl
theorem k_se_84 : Cond.selects (ky 84).cls (ky 84) (ky 84) ∈ kwl := kwl_in (List.mem_of_getElem? (i := 725) (by decide +kernel)) rfl
theorem kok_84 : kOK 84 := ⟨kwl_in (List.mem_of_getElem? (i := 64) (by decide +kernel)) rfl, kwl_in (List.mem_of_getElem? (i := 726) (by decide +kernel)) rfl, by decide +kernel, by decide +kernel, by decide +kernel⟩
theorem k_im_85 : Cond.instanceMethod (ky 85) ∈ kwl := kwl_in (List.mem_of_getElem? (i := 728) (by decide +kernel)) rfl
theorem k_se_85 : Cond.selects (ky 85).cls (ky 85) (ky 85) ∈ kwl := kwl_in (List.mem_of_getElem? (i := 729) (by decide +kernel)) rfl
theorem kok_85 : kOK 85 := ⟨kwl_in (List.mem_of_getElem? (i := 64) (by decide +kernel)) rfl, kwl_in (List.mem_of_getElem? (i := 730) (by decide +kernel)) rfl, by decide +kernel, by decide +kernel, by decide +kernel⟩
theorem k_im_86 : Cond.instanceMethod (ky 86) ∈ kwl := kwl_in (List.mem_of_getElem? (i := 732) (by decide +kernel)) rfl
theorem k_se_86 : Cond.selects (ky 86).cls (ky 86) (ky 86) ∈ kwl := kwl_in (List.mem_of_getElem? (i := 733) (by decide +kernel)) rfl
theorem kok_86 : kOK 86 := ⟨kwl_in (List.mem_of_getElem? (i := 64) (by decide +kernel)) rfl, kwl_in (List.mem_of_getElem? (i := 734) (by decide +kernel)) rfl, by decide +kernel, by decide +kernel, by decide +kernel⟩
theorem k_im_87 : Cond.instanceMethod (ky 87) ∈ kwl := kwl_in (List.mem_of_getElem? (i := 736) (by decide +kernel)) rfl
theorem k_se_87 : Cond.selects (ky 87).cls (ky 87) (ky 87) ∈ kwl := kwl_in (List.mem_of_getElem? (i := 737) (by decide +kernel)) rfl
theorem kok_87 : kOK 87 := ⟨kwl_in (List.mem_of_getElem? (i := 70) (by decide +kernel)) rfl, kwl_in (List.mem_of_getElem? (i := 738) (by decide +kernel)) rfl, by decide +kernel, by decide +kernel, by decide +kernel⟩
theorem k_im_88 : Cond.instanceMethod (ky 88) ∈ kwl := kwl_in (List.mem_of_getElem? (i := 740) (by decide +kernel)) rfl
theorem k_se_88 : Cond.selects (ky 88).cls (ky 88) (ky 88) ∈ kwl := kwl_in (List.mem_of_getElem? (i := 741) (by decide +kernel)) rfl
theorem kok_88 : kOK 88 := ⟨kwl_in (List.mem_of_getElem? (i := 64) (by decide +kernel)) rfl, kwl_in (List.mem_of_getElem? (i := 742) (by decide +kernel)) rfl, by decide +kernel, by decide +kernel, by decide +kernel⟩
theorem k_im_89 : Cond.instanceMethod (ky 89) ∈ kwl := kwl_in (List.mem_of_getElem? (i := 744) (by decide +kernel)) rfl
theorem k_se_89 : Cond.selects (ky 89).cls (ky 89) (ky 89) ∈ kwl := kwl_in (List.mem_of_getElem? (i := 745) (by decide +kernel)) rfl
theorem kok_89 : kOK 89 := ⟨kwl_in (List.mem_of_getElem? (i := 69) (by decide +kernel)) rfl, kwl_in (List.mem_of_getElem? (i := 746) (by decide +kernel)) rfl, by decide +kernel, by decide +kernel, by decide +kernel⟩
theorem k_im_90 : Cond.instanceMethod (ky 90) ∈ kwl := kwl_in (List.mem_of_getElem? (i := 748) (by decide +kernel)) rfl
theorem k_se_90 : Cond.selects (ky 90).cls (ky 90) (ky 90) ∈ kwl := kwl_in (List.mem_of_getElem? (i := 749) (by decide +kernel)) rfl
theorem kok_90 : kOK 90 := ⟨kwl_in (List.mem_of_getElem? (i := 65) (by decide +kernel)) rfl, kwl_in (List.mem_of_getElem? (i := 750) (by decide +kernel)) rfl, by decide +kernel, by decide +kernel, by decide +kernel⟩
theorem k_im_91 : Cond.instanceMethod (ky 91) ∈ kwl := kwl_in (List.mem_of_getElem? (i := 752) (by decide +kernel)) rfl
theorem k_se_91 : Cond.selects (ky 91).cls (ky 91) (ky 91) ∈ kwl := kwl_in (List.mem_of_getElem? (i := 753) (by decide +kernel)) rfl
theorem kok_91 : kOK 91 := ⟨kwl_in (List.mem_of_getElem? (i := 66) (by decide +kernel)) rfl, kwl_in (List.mem_of_getElem? (i := 754) (by decide +kernel)) rfl, by decide +kernel, by decide +kernel, by decide +kernel⟩
theorem k_im_92 : Cond.instanceMethod (ky 92) ∈ kwl := kwl_in (List.mem_of_getElem? (i := 877) (by decide +kernel)) rfl
theorem k_se_92 : Cond.selects (ky 92).cls (ky 92) (ky 92) ∈ kwl := kwl_in (List.mem_of_getElem? (i := 878) (by decide +kernel)) rfl
theorem kok_92 : kOK 92 := ⟨kwl_in (List.mem_of_getElem? (i := 74) (by decide +kernel)) rfl, kwl_in (List.mem_of_getElem? (i := 879) (by decide +kernel)) rfl, by decide +kernel, by decide +kernel, by decide +kernel⟩
theorem k_im_93 : Cond.instanceMethod (ky 93) ∈ kwl := kwl_in (List.mem_of_getElem? (i := 882) (by decide +kernel)) rfl
theorem k_se_93 : Cond.selects (ky 93).cls (ky 93) (ky 93) ∈ kwl := kwl_in (List.mem_of_getElem? (i := 29) (by decide +kernel)) rfl
theorem kok_93 : kOK 93 := ⟨kwl_in (List.mem_of_getElem? (i := 74) (by decide +kernel)) rfl, kwl_in (List.mem_of_getElem? (i := 883) (by decide +kernel)) rfl, by decide +kernel, by decide +kernel, by decide +kernel⟩
theorem k_im_94 : Cond.instanceMethod (ky 94) ∈ kwl := kwl_in (List.mem_of_getElem? (i := 886) (by decide +kernel)) rfl
theorem k_se_94 : Cond.selects (ky 94).cls (ky 94) (ky 94) ∈ kwl := kwl_in (List.mem_of_getElem? (i := 30) (by decide +kernel)) rfl
theorem kok_94 : kOK 94 := ⟨kwl_in (List.mem_of_getElem? (i := 74) (by decide +kernel)) rfl, kwl_in (List.mem_of_getElem? (i := 887) (by decide +kernel)) rfl, by decide +kernel, by decide +kernel, by decide +kernel⟩
theorem k_im_95 : Cond.instanceMethod (ky 95) ∈ kwl := kwl_in (List.mem_of_getElem? (i := 890) (by decide +kernel)) rfl
theorem k_se_95 : Cond.selects (ky 95).cls (ky 95) (ky 95) ∈ kwl := kwl_in (List.mem_of_getElem? (i := 31) (by decide +kernel)) rfl
theorem kok_95 : kOK 95 := ⟨kwl_in (List.mem_of_getElem? (i := 74) (by decide +kernel)) rfl, kwl_in (List.mem_of_getElem? (i := 891) (by decide +kernel)) rfl, by decide +kernel, by decide +kernel, by decide +kernel⟩
theorem k_im_96 : Cond.instanceMethod (ky 96) ∈ kwl := kwl_in (List.mem_of_getElem? (i := 894) (by decide +kernel)) rfl
theorem k_se_96 : Cond.selects (ky 96).cls (ky 96) (ky 96) ∈ kwl := kwl_in (List.mem_of_getElem? (i := 32) (by decide +kernel)) rfl
theorem kok_96 : kOK 96 := ⟨kwl_in (List.mem_of_getElem? (i := 74) (by decide +kernel)) rfl, kwl_in (List.mem_of_getElem? (i := 895) (by decide +kernel)) rfl, by decide +kernel, by decide +kernel, by decide +kernel⟩
theorem k_im_97 : Cond.instanceMethod (ky 97) ∈ kwl := kwl_in (List.mem_of_getElem? (i := 898) (by decide +kernel)) rfl
theorem k_se_97 : Cond.selects (ky 97).cls (ky 97) (ky 97) ∈ kwl := kwl_in (List.mem_of_getElem? (i := 33) (by decide +kernel)) rfl
theorem kok_97 : kOK 97 := ⟨kwl_in (List.mem_of_getElem? (i := 74) (by decide +kernel)) rfl, kwl_in (List.mem_of_getElem? (i := 899) (by decide +kernel)) rfl, by decide +kernel, by decide +kernel, by decide +kernel⟩
theorem k_im_98 : Cond.instanceMethod (ky 98) ∈ kwl := kwl_in (List.mem_of_getElem? (i := 901) (by decide +kernel)) rfl
theorem k_se_98 : Cond.selects (ky 98).cls (ky 98) (ky 98) ∈ kwl := kwl_in (List.mem_of_getElem? (i := 902) (by decide +kernel)) rfl
theorem kok_98 : kOK 98 := ⟨kwl_in (List.mem_of_getElem? (i := 74) (by decide +kernel)) rfl, kwl_in (List.mem_of_getElem? (i := 903) (by decide +kernel)) rfl, by decide +kernel, by decide +kernel, by decide +kernel⟩
theorem k_im_99 : Cond.instanceMethod (ky 99) ∈ kwl := kwl_in (List.mem_of_getElem? (i := 906) (by decide +kernel)) rfl
theorem k_se_99 : Cond.selects (ky 99).cls (ky 99) (ky 99) ∈ kwl := kwl_in (List.mem_of_getElem? (i := 34) (by decide +kernel)) rfl
theorem kok_99 : kOK 99 := ⟨kwl_in (List.mem_of_getElem? (i := 74) (by decide +kernel)) rfl, kwl_in (List.mem_of_getElem? (i := 907) (by decide +kernel)) rfl, by decide +kernel, by decide +kernel, by decide +kernel⟩
theorem k_im_100 : Cond.instanceMethod (ky 100) ∈ kwl := kwl_in (List.mem_of_getElem? (i := 909) (by decide +kernel)) rfl
theorem k_se_100 : Cond.selects (ky 100).cls (ky 100) (ky 100) ∈ kwl := kwl_in (List.mem_of_getElem? (i := 910) (by decide +kernel)) rfl
theorem kok_100 : kOK 100 := ⟨kwl_in (List.mem_of_getElem? (i := 74) (by decide +kernel)) rfl, kwl_in (List.mem_of_getElem? (i := 911) (by decide +kernel)) rfl, by decide +kernel, by decide +kernel, by decide +kernel⟩
theorem k_im_101 : Cond.instanceMethod (ky 101) ∈ kwl := kwl_in (List.mem_of_getElem? (i := 914) (by decide +kernel)) rfl
theorem k_se_101 : Cond.selects (ky 101).cls (ky 101) (ky 101) ∈ kwl := kwl_in (List.mem_of_getElem? (i := 35) (by decide +kernel)) rfl
theorem kok_101 : kOK 101 := ⟨kwl_in (List.mem_of_getElem? (i := 74) (by decide +kernel)) rfl, kwl_in (List.mem_of_getElem? (i := 915) (by decide +kernel)) rfl, by decide +kernel, by decide +kernel, by decide +kernel⟩
theorem k_im_102 : Cond.instanceMethod (ky 102) ∈ kwl := kwl_in (List.mem_of_getElem? (i := 918) (by decide +kernel)) rfl
theorem k_se_102 : Cond.selects (ky 102).cls (ky 102) (ky 102) ∈ kwl := kwl_in (List.mem_of_getElem? (i := 36) (by decide +kernel)) rfl
theorem kok_102 : kOK 102 := ⟨kwl_in (List.mem_of_getElem? (i := 74) (by decide +kernel)) rfl, kwl_in (List.mem_of_getElem? (i := 919) (by decide +kernel)) rfl, by decide +kernel, by decide +kernel, by decide +kernel⟩
theorem k_im_103 : Cond.instanceMethod (ky 103) ∈ kwl := kwl_in (List.mem_of_getElem? (i := 922) (by decide +kernel)) rfl
theorem k_se_103 : Cond.selects (ky 103).cls (ky 103) (ky 103) ∈ kwl := kwl_in (List.mem_of_getElem? (i := 37) (by decide +kernel)) rfl
theorem kok_103 : kOK 103 := ⟨kwl_in (List.mem_of_getElem? (i := 74) (by decide +kernel)) rfl, kwl_in (List.mem_of_getElem? (i := 923) (by decide +kernel)) rfl, by decide +kernel, by decide +kernel, by decide +kernel⟩
theorem k_im_104 : Cond.instanceMethod (ky 104) ∈ kwl := kwl_in (List.mem_of_getElem? (i := 925) (by decide +kernel)) rfl
theorem k_se_104 : Cond.selects (ky 104).cls (ky 104) (ky 104) ∈ kwl := kwl_in (List.mem_of_getElem? (i := 926) (by decide +kernel)) rfl
theorem kok_104 : kOK 104 := ⟨kwl_in (List.mem_of_getElem? (i := 74) (by decide +kernel)) rfl, kwl_in (List.mem_of_getElem? (i := 927) (by decide +kernel)) rfl, by decide +kernel, by decide +kernel, by decide +kernel⟩
theorem k_im_105 : Cond.instanceMethod (ky 105) ∈ kwl := kwl_in (List.mem_of_getElem? (i := 930) (by decide +kernel)) rfl
theorem k_se_105 : Cond.selects (ky 105).cls (ky 105) (ky 105) ∈ kwl := kwl_in (List.mem_of_getElem? (i := 38) (by decide +kernel)) rfl
theorem kok_105 : kOK 105 := ⟨kwl_in (List.mem_of_getElem? (i := 74) (by decide +kernel)) rfl, kwl_in (List.mem_of_getElem? (i := 931) (by decide +kernel)) rfl, by decide +kernel, by decide +kernel, by decide +kernel⟩
theorem k_im_106 : Cond.instanceMethod (ky 106) ∈ kwl := kwl_in (List.mem_of_getElem? (i := 933) (by decide +kernel)) rfl
theorem k_se_106 : Cond.selects (ky 106).cls (ky 106) (ky 106) ∈ kwl := kwl_in (List.mem_of_getElem? (i := 934) (by decide +kernel)) rfl
theorem kok_106 : kOK 106 := ⟨kwl_in (List.mem_of_getElem? (i := 74) (by decide +kernel)) rfl, kwl_in (List.mem_of_getElem? (i := 935) (by decide +kernel)) rfl, by decide +kernel, by decide +kernel, by decide +kernel⟩
theorem k_im_107 : Cond.instanceMethod (ky 107) ∈ kwl := kwl_in (List.mem_of_getElem? (i := 938) (by decide +kernel)) rfl
theorem k_se_107 : Cond.selects (ky 107).cls (ky 107) (ky 107) ∈ kwl := kwl_in (List.mem_of_getElem? (i := 39) (by decide +kernel)) rfl
theorem kok_107 : kOK 107 := ⟨kwl_in (List.mem_of_getElem? (i := 74) (by decide +kernel)) rfl, kwl_in (List.mem_of_getElem? (i := 939) (by decide +kernel)) rfl, by decide +kernel, by decide +kernel, by decide +kernel⟩
theorem k_im_108 : Cond.instanceMethod (ky 108) ∈ kwl := kwl_in (List.mem_of_getElem? (i := 942) (by decide +kernel)) rfl
theorem k_se_108 : Cond.selects (ky 108).cls (ky 108) (ky 108) ∈ kwl := kwl_in (List.mem_of_getElem? (i := 40) (by decide +kernel)) rfl
theorem kok_108 : kOK 108 := ⟨kwl_in (List.mem_of_getElem? (i := 74) (by decide +kernel)) rfl, kwl_in (List.mem_of_getElem? (i := 943) (by decide +kernel)) rfl, by decide +kernel, by decide +kernel, by decide +kernel⟩
theorem k_im_109 : Cond.instanceMethod (ky 109) ∈ kwl := kwl_in (List.mem_of_getElem? (i := 946) (by decide +kernel)) rfl
theorem k_se_109 : Cond.selects (ky 109).cls (ky 109) (ky 109) ∈ kwl := kwl_in (List.mem_of_getElem? (i := 41) (by decide +kernel)) rfl
theorem kok_109 : kOK 109 := ⟨kwl_in (List.mem_of_getElem? (i := 74) (by decide +kernel)) rfl, kwl_in (List.mem_of_getElem? (i := 947) (by decide +kernel)) rfl, by decide +kernel, by decide +kernel, by decide +kernel⟩
theorem k_im_110 : Cond.instanceMethod (ky 110) ∈ kwl := kwl_in (List.mem_of_getElem? (i := 949) (by decide +kernel)) rfl
theorem k_se_110 : Cond.selects (ky 110).cls (ky 110) (ky 110) ∈ kwl := kwl_in (List.mem_of_getElem? (i := 950) (by decide +kernel)) rfl
theorem kok_110 : kOK 110 := ⟨kwl_in (List.mem_of_getElem? (i := 74) (by decide +kernel)) rfl, kwl_in (List.mem_of_getElem? (i := 951) (by decide +kernel)) rfl, by decide +kernel, by decide +kernel, by decide +kernel⟩
theorem k_im_111 : Cond.instanceMethod (ky 111) ∈ kwl := kwl_in (List.mem_of_getElem? (i := 954) (by decide +kernel)) rfl
theorem k_se_111 : Cond.selects (ky 111).cls (ky 111) (ky 111) ∈ kwl := kwl_in (List.mem_of_getElem? (i := 42) (by decide +kernel)) rfl
theorem kok_111 : kOK 111 := ⟨kwl_in (List.mem_of_getElem? (i := 74) (by decide +kernel)) rfl, kwl_in (List.mem_of_getElem? (i := 955) (by decide +kernel)) rfl, by decide +kernel, by decide +kernel, by decide +kernel⟩
theorem k_im_112 : Cond.instanceMethod (ky 112) ∈ kwl := kwl_in (List.mem_of_getElem? (i := 958) (by decide +kernel)) rfl
theorem k_se_112 : Cond.selects (ky 112).cls (ky 112) (ky 112) ∈ kwl := kwl_in (List.mem_of_getElem? (i := 43) (by decide +kernel)) rfl
theorem kok_112 : kOK 112 := ⟨kwl_in (List.mem_of_getElem? (i := 74) (by decide +kernel)) rfl, kwl_in (List.mem_of_getElem? (i := 959) (by decide +kernel)) rfl, by decide +kernel, by decide +kernel, by decide +kernel⟩
theorem k_im_113 : Cond.instanceMethod (ky 113) ∈ kwl := kwl_in (List.mem_of_getElem? (i := 962) (by decide +kernel)) rfl
theorem k_se_113 : Cond.selects (ky 113).cls (ky 113) (ky 113) ∈ kwl := kwl_in (List.mem_of_getElem? (i := 44) (by decide +kernel)) rfl
theorem kok_113 : kOK 113 := ⟨kwl_in (List.mem_of_getElem? (i := 74) (by decide +kernel)) rfl, kwl_in (List.mem_of_getElem? (i := 963) (by decide +kernel)) rfl, by decide +kernel, by decide +kernel, by decide +kernel⟩
theorem k_im_114 : Cond.instanceMethod (ky 114) ∈ kwl := kwl_in (List.mem_of_getElem? (i := 966) (by decide +kernel)) rfl
theorem k_se_114 : Cond.selects (ky 114).cls (ky 114) (ky 114) ∈ kwl := kwl_in (List.mem_of_getElem? (i := 45) (by decide +kernel)) rfl
theorem kok_114 : kOK 114 := ⟨kwl_in (List.mem_of_getElem? (i := 74) (by decide +kernel)) rfl, kwl_in (List.mem_of_getElem? (i := 967) (by decide +kernel)) rfl, by decide +kernel, by decide +kernel, by decide +kernel⟩
theorem k_im_115 : Cond.instanceMethod (ky 115) ∈ kwl := kwl_in (List.mem_of_getElem? (i := 970) (by decide +kernel)) rfl
theorem k_se_115 : Cond.selects (ky 115).cls (ky 115) (ky 115) ∈ kwl := kwl_in (List.mem_of_getElem? (i := 46) (by decide +kernel)) rfl
theorem kok_115 : kOK 115 := ⟨kwl_in (List.mem_of_getElem? (i := 74) (by decide +kernel)) rfl, kwl_in (List.mem_of_getElem? (i := 971) (by decide +kernel)) rfl, by decide +kernel, by decide +kernel, by decide +kernel⟩
theorem k_im_116 : Cond.instanceMethod (ky 116) ∈ kwl := kwl_in (List.mem_of_getElem? (i := 974) (by decide +kernel)) rfl
theorem k_se_116 : Cond.selects (ky 116).cls (ky 116) (ky 116) ∈ kwl := kwl_in (List.mem_of_getElem? (i := 47) (by decide +kernel)) rfl
theorem kok_116 : kOK 116 := ⟨kwl_in (List.mem_of_getElem? (i := 74) (by decide +kernel)) rfl, kwl_in (List.mem_of_getElem? (i := 975) (by decide +kernel)) rfl, by decide +kernel, by decide +kernel, by decide +kernel⟩
theorem k_im_117 : Cond.instanceMethod (ky 117) ∈ kwl := kwl_in (List.mem_of_getElem? (i := 977) (by decide +kernel)) rfl
theorem k_se_117 : Cond.selects (ky 117).cls (ky 117) (ky 117) ∈ kwl := kwl_in (List.mem_of_getElem? (i := 978) (by decide +kernel)) rfl
theorem kok_117 : kOK 117 := ⟨kwl_in (List.mem_of_getElem? (i := 74) (by decide +kernel)) rfl, kwl_in (List.mem_of_getElem? (i := 979) (by decide +kernel)) rfl, by decide +kernel, by decide +kernel, by decide +kernel⟩
theorem k_im_118 : Cond.instanceMethod (ky 118) ∈ kwl := kwl_in (List.mem_of_getElem? (i := 982) (by decide +kernel)) rfl
theorem k_se_118 : Cond.selects (ky 118).cls (ky 118) (ky 118) ∈ kwl := kwl_in (List.mem_of_getElem? (i := 48) (by decide +kernel)) rfl
theorem kok_118 : kOK 118 := ⟨kwl_in (List.mem_of_getElem? (i := 74) (by decide +kernel)) rfl, kwl_in (List.mem_of_getElem? (i := 983) (by decide +kernel)) rfl, by decide +kernel, by decide +kernel, by decide +kernel⟩
theorem k_st_119 : Cond.static (ky 119) ∈ kwl := kwl_in (List.mem_of_getElem? (i := 985) (by decide +kernel)) rfl
theorem kok_119 : kOK 119 := ⟨kwl_in (List.mem_of_getElem? (i := 74) (by decide +kernel)) rfl, kwl_in (List.mem_of_getElem? (i := 986) (by decide +kernel)) rfl, by decide +kernel, by decide +kernel, by decide +kernel⟩
theorem k_im_120 : Cond.instanceMethod (ky 120) ∈ kwl := kwl_in (List.mem_of_getElem? (i := 989) (by decide +kernel)) rfl
theorem k_se_120 : Cond.selects (ky 120).cls (ky 120) (ky 120) ∈ kwl := kwl_in (List.mem_of_getElem? (i := 49) (by decide +kernel)) rfl
theorem kok_120 : kOK 120 := ⟨kwl_in (List.mem_of_getElem? (i := 74) (by decide +kernel)) rfl, kwl_in (List.mem_of_getElem? (i := 990) (by decide +kernel)) rfl, by decide +kernel, by decide +kernel, by decide +kernel⟩
theorem k_im_121 : Cond.instanceMethod (ky 121) ∈ kwl := kwl_in (List.mem_of_getElem? (i := 993) (by decide +kernel)) rfl
theorem k_se_121 : Cond.selects (ky 121).cls (ky 121) (ky 121) ∈ kwl := kwl_in (List.mem_of_getElem? (i := 50) (by decide +kernel)) rfl
theorem kok_121 : kOK 121 := ⟨kwl_in (List.mem_of_getElem? (i := 74) (by decide +kernel)) rfl, kwl_in (List.mem_of_getElem? (i := 994) (by decide +kernel)) rfl, by decide +kernel, by decide +kernel, by decide +kernel⟩
theorem k_im_122 : Cond.instanceMethod (ky 122) ∈ kwl := kwl_in (List.mem_of_getElem? (i := 997) (by decide +kernel)) rfl
theorem k_se_122 : Cond.selects (ky 122).cls (ky 122) (ky 122) ∈ kwl := kwl_in (List.mem_of_getElem? (i := 51) (by decide +kernel)) rfl
theorem kok_122 : kOK 122 := ⟨kwl_in (List.mem_of_getElem? (i := 74) (by decide +kernel)) rfl, kwl_in (List.mem_of_getElem? (i := 998) (by decide +kernel)) rfl, by decide +kernel, by decide +kernel, by decide +kernel⟩
theorem k_im_123 : Cond.instanceMethod (ky 123) ∈ kwl := kwl_in (List.mem_of_getElem? (i := 1001) (by decide +kernel)) rfl
theorem k_se_123 : Cond.selects (ky 123).cls (ky 123) (ky 123) ∈ kwl := kwl_in (List.mem_of_getElem? (i := 52) (by decide +kernel)) rfl
theorem kok_123 : kOK 123 := ⟨kwl_in (List.mem_of_getElem? (i := 74) (by decide +kernel)) rfl, kwl_in (List.mem_of_getElem? (i := 1002) (by decide +kernel)) rfl, by decide +kernel, by decide +kernel, by decide +kernel⟩
theorem k_im_124 : Cond.instanceMethod (ky 124) ∈ kwl := kwl_in (List.mem_of_getElem? (i := 1005) (by decide +kernel)) rfl
theorem k_se_124 : Cond.selects (ky 124).cls (ky 124) (ky 124) ∈ kwl := kwl_in (List.mem_of_getElem? (i := 53) (by decide +kernel)) rfl
theorem kok_124 : kOK 124 := ⟨kwl_in (List.mem_of_getElem? (i := 74) (by decide +kernel)) rfl, kwl_in (List.mem_of_getElem? (i := 1006) (by decide +kernel)) rfl, by decide +kernel, by decide +kernel, by decide +kernel⟩
theorem k_im_125 : Cond.instanceMethod (ky 125) ∈ kwl := kwl_in (List.mem_of_getElem? (i := 1009) (by decide +kernel)) rfl
theorem k_se_125 : Cond.selects (ky 125).cls (ky 125) (ky 125) ∈ kwl := kwl_in (List.mem_of_getElem? (i := 54) (by decide +kernel)) rfl
theorem kok_125 : kOK 125 := ⟨kwl_in (List.mem_of_getElem? (i := 74) (by decide +kernel)) rfl, kwl_in (List.mem_of_getElem? (i := 1010) (by decide +kernel)) rfl, by decide +kernel, by decide +kernel, by decide +kernel⟩
theorem k_im_126 : Cond.instanceMethod (ky 126) ∈ kwl := kwl_in (List.mem_of_getElem? (i := 1013) (by decide +kernel)) rfl
theorem k_se_126 : Cond.selects (ky 126).cls (ky 126) (ky 126) ∈ kwl := kwl_in (List.mem_of_getElem? (i := 55) (by decide +kernel)) rfl
theorem kok_126 : kOK 126 := ⟨kwl_in (List.mem_of_getElem? (i := 74) (by decide +kernel)) rfl, kwl_in (List.mem_of_getElem? (i := 1014) (by decide +kernel)) rfl, by decide +kernel, by decide +kernel, by decide +kernel⟩
theorem k_im_127 : Cond.instanceMethod (ky 127) ∈ kwl := kwl_in (List.mem_of_getElem? (i := 1017) (by decide +kernel)) rfl
theorem k_se_127 : Cond.selects (ky 127).cls (ky 127) (ky 127) ∈ kwl := kwl_in (List.mem_of_getElem? (i := 56) (by decide +kernel)) rfl
theorem kok_127 : kOK 127 := ⟨kwl_in (List.mem_of_getElem? (i := 74) (by decide +kernel)) rfl, kwl_in (List.mem_of_getElem? (i := 1018) (by decide +kernel)) rfl, by decide +kernel, by decide +kernel, by decide +kernel⟩
theorem k_im_128 : Cond.instanceMethod (ky 128) ∈ kwl := kwl_in (List.mem_of_getElem? (i := 1021) (by decide +kernel)) rfl
theorem k_se_128 : Cond.selects (ky 128).cls (ky 128) (ky 128) ∈ kwl := kwl_in (List.mem_of_getElem? (i := 57) (by decide +kernel)) rfl
theorem kok_128 : kOK 128 := ⟨kwl_in (List.mem_of_getElem? (i := 74) (by decide +kernel)) rfl, kwl_in (List.mem_of_getElem? (i := 1022) (by decide +kernel)) rfl, by decide +kernel, by decide +kernel, by decide +kernel⟩
theorem k_im_129 : Cond.instanceMethod (ky 129) ∈ kwl := kwl_in (List.mem_of_getElem? (i := 1025) (by decide +kernel)) rfl
theorem k_se_129 : Cond.selects (ky 129).cls (ky 129) (ky 129) ∈ kwl := kwl_in (List.mem_of_getElem? (i := 58) (by decide +kernel)) rfl
theorem kok_129 : kOK 129 := ⟨kwl_in (List.mem_of_getElem? (i := 74) (by decide +kernel)) rfl, kwl_in (List.mem_of_getElem? (i := 1026) (by decide +kernel)) rfl, by decide +kernel, by decide +kernel, by decide +kernel⟩
theorem k_im_130 : Cond.instanceMethod (ky 130) ∈ kwl := kwl_in (List.mem_of_getElem? (i := 1029) (by decide +kernel)) rfl
theorem k_se_130 : Cond.selects (ky 130).cls (ky 130) (ky 130) ∈ kwl := kwl_in (List.mem_of_getElem? (i := 59) (by decide +kernel)) rfl
theorem kok_130 : kOK 130 := ⟨kwl_in (List.mem_of_getElem? (i := 74) (by decide +kernel)) rfl, kwl_in (List.mem_of_getElem? (i := 1030) (by decide +kernel)) rfl, by decide +kernel, by decide +kernel, by decide +kernel⟩
theorem k_im_131 : Cond.instanceMethod (ky 131) ∈ kwl := kwl_in (List.mem_of_getElem? (i := 1032) (by decide +kernel)) rfl
theorem k_se_131 : Cond.selects (ky 131).cls (ky 131) (ky 131) ∈ kwl := kwl_in (List.mem_of_getElem? (i := 1033) (by decide +kernel)) rfl
theorem kok_131 : kOK 131 := ⟨kwl_in (List.mem_of_getElem? (i := 74) (by decide +kernel)) rfl, kwl_in (List.mem_of_getElem? (i := 1034) (by decide +kernel)) rfl, by decide +kernel, by decide +kernel, by decide +kernel⟩
theorem k_im_132 : Cond.instanceMethod (ky 132) ∈ kwl := kwl_in (List.mem_of_getElem? (i := 1037) (by decide +kernel)) rfl
theorem k_se_132 : Cond.selects (ky 132).cls (ky 132) (ky 132) ∈ kwl := kwl_in (List.mem_of_getElem? (i := 60) (by decide +kernel)) rfl
theorem kok_132 : kOK 132 := ⟨kwl_in (List.mem_of_getElem? (i := 74) (by decide +kernel)) rfl, kwl_in (List.mem_of_getElem? (i := 1038) (by decide +kernel)) rfl, by decide +kernel, by decide +kernel, by decide +kernel⟩
theorem k_im_133 : Cond.instanceMethod (ky 133) ∈ kwl := kwl_in (List.mem_of_getElem? (i := 1040) (by decide +kernel)) rfl
theorem k_se_133 : Cond.selects (ky 133).cls (ky 133) (ky 133) ∈ kwl := kwl_in (List.mem_of_getElem? (i := 1041) (by decide +kernel)) rfl
theorem kok_133 : kOK 133 := ⟨kwl_in (List.mem_of_getElem? (i := 74) (by decide +kernel)) rfl, kwl_in (List.mem_of_getElem? (i := 1042) (by decide +kernel)) rfl, by decide +kernel, by decide +kernel, by decide +kernel⟩
theorem k_im_134 : Cond.instanceMethod (ky 134) ∈ kwl := kwl_in (List.mem_of_getElem? (i := 1045) (by decide +kernel)) rfl
theorem k_se_134 : Cond.selects (ky 134).cls (ky 134) (ky 134) ∈ kwl := kwl_in (List.mem_of_getElem? (i := 61) (by decide +kernel)) rfl
theorem kok_134 : kOK 134 := ⟨kwl_in (List.mem_of_getElem? (i := 74) (by decide +kernel)) rfl, kwl_in (List.mem_of_getElem? (i := 1046) (by decide +kernel)) rfl, by decide +kernel, by decide +kernel, by decide +kernel⟩
theorem k_im_135 : Cond.instanceMethod (ky 135) ∈ kwl := kwl_in (List.mem_of_getElem? (i := 1048) (by decide +kernel)) rfl
theorem k_se_135 : Cond.selects (ky 135).cls (ky 135) (ky 135) ∈ kwl := kwl_in (List.mem_of_getElem? (i := 1049) (by decide +kernel)) rfl
theorem kok_135 : kOK 135 := ⟨kwl_in (List.mem_of_getElem? (i := 74) (by decide +kernel)) rfl, kwl_in (List.mem_of_getElem? (i := 1050) (by decide +kernel)) rfl, by decide +kernel, by decide +kernel, by decide +kernel⟩
theorem k_im_136 : Cond.instanceMethod (ky 136) ∈ kwl := kwl_in (List.mem_of_getElem? (i := 1052) (by decide +kernel)) rfl
theorem k_se_136 : Cond.selects (ky 136).cls (ky 136) (ky 136) ∈ kwl := kwl_in (List.mem_of_getElem? (i := 1053) (by decide +kernel)) rfl
theorem kok_136 : kOK 136 := ⟨kwl_in (List.mem_of_getElem? (i := 74) (by decide +kernel)) rfl, kwl_in (List.mem_of_getElem? (i := 1054) (by decide +kernel)) rfl, by decide +kernel, by decide +kernel, by decide +kernel⟩
theorem k_im_137 : Cond.instanceMethod (ky 137) ∈ kwl := kwl_in (List.mem_of_getElem? (i := 1056) (by decide +kernel)) rfl
theorem k_se_137 : Cond.selects (ky 137).cls (ky 137) (ky 137) ∈ kwl := kwl_in (List.mem_of_getElem? (i := 1057) (by decide +kernel)) rfl
theorem kok_137 : kOK 137 := ⟨kwl_in (List.mem_of_getElem? (i := 74) (by decide +kernel)) rfl, kwl_in (List.mem_of_getElem? (i := 1058) (by decide +kernel)) rfl, by decide +kernel, by decide +kernel, by decide +kernel⟩
theorem k_im_138 : Cond.instanceMethod (ky 138) ∈ kwl := kwl_in (List.mem_of_getElem? (i := 1061) (by decide +kernel)) rfl
theorem k_se_138 : Cond.selects (ky 138).cls (ky 138) (ky 138) ∈ kwl := kwl_in (List.mem_of_getElem? (i := 62) (by decide +kernel)) rfl
theorem kok_138 : kOK 138 := ⟨kwl_in (List.mem_of_getElem? (i := 74) (by decide +kernel)) rfl, kwl_in (List.mem_of_getElem? (i := 1062) (by decide +kernel)) rfl, by decide +kernel, by decide +kernel, by decide +kernel⟩
theorem k_im_139 : Cond.instanceMethod (ky 139) ∈ kwl := kwl_in (List.mem_of_getElem? (i := 1064) (by decide +kernel)) rfl
theorem k_se_139 : Cond.selects (ky 139).cls (ky 139) (ky 139) ∈ kwl := kwl_in (List.mem_of_getElem? (i := 1065) (by decide +kernel)) rfl
theorem kok_139 : kOK 139 := ⟨kwl_in (List.mem_of_getElem? (i := 74) (by decide +kernel)) rfl, kwl_in (List.mem_of_getElem? (i := 1066) (by decide +kernel)) rfl, by decide +kernel, by decide +kernel, by decide +kernel⟩
theorem k_im_140 : Cond.instanceMethod (ky 140) ∈ kwl := kwl_in (List.mem_of_getElem? (i := 1068) (by decide +kernel)) rfl
theorem k_se_140 : Cond.selects (ky 140).cls (ky 140) (ky 140) ∈ kwl := kwl_in (List.mem_of_getElem? (i := 1069) (by decide +kernel)) rfl
theorem kok_140 : kOK 140 := ⟨kwl_in (List.mem_of_getElem? (i := 74) (by decide +kernel)) rfl, kwl_in (List.mem_of_getElem? (i := 1070) (by decide +kernel)) rfl, by decide +kernel, by decide +kernel, by decide +kernel⟩
theorem k_im_141 : Cond.instanceMethod (ky 141) ∈ kwl := kwl_in (List.mem_of_getElem? (i := 1072) (by decide +kernel)) rfl
theorem k_se_141 : Cond.selects (ky 141).cls (ky 141) (ky 141) ∈ kwl := kwl_in (List.mem_of_getElem? (i := 1073) (by decide +kernel)) rfl
theorem kok_141 : kOK 141 := ⟨kwl_in (List.mem_of_getElem? (i := 74) (by decide +kernel)) rfl, kwl_in (List.mem_of_getElem? (i := 1074) (by decide +kernel)) rfl, by decide +kernel, by decide +kernel, by decide +kernel⟩
theorem k_im_142 : Cond.instanceMethod (ky 142) ∈ kwl := kwl_in (List.mem_of_getElem? (i := 1076) (by decide +kernel)) rfl
theorem k_se_142 : Cond.selects (ky 142).cls (ky 142) (ky 142) ∈ kwl := kwl_in (List.mem_of_getElem? (i := 1077) (by decide +kernel)) rfl
theorem kok_142 : kOK 142 := ⟨kwl_in (List.mem_of_getElem? (i := 74) (by decide +kernel)) rfl, kwl_in (List.mem_of_getElem? (i := 1078) (by decide +kernel)) rfl, by decide +kernel, by decide +kernel, by decide +kernel⟩
theorem k_im_143 : Cond.instanceMethod (ky 143) ∈ kwl := kwl_in (List.mem_of_getElem? (i := 1080) (by decide +kernel)) rfl
theorem k_se_143 : Cond.selects (ky 143).cls (ky 143) (ky 143) ∈ kwl := kwl_in (List.mem_of_getElem? (i := 1081) (by decide +kernel)) rfl
theorem kok_143 : kOK 143 := ⟨kwl_in (List.mem_of_getElem? (i := 74) (by decide +kernel)) rfl, kwl_in (List.mem_of_getElem? (i := 1082) (by decide +kernel)) rfl, by decide +kernel, by decide +kernel, by decide +kernel⟩
theorem k_im_144 : Cond.instanceMethod (ky 144) ∈ kwl := kwl_in (List.mem_of_getElem? (i := 1084) (by decide +kernel)) rfl
theorem k_se_144 : Cond.selects (ky 144).cls (ky 144) (ky 144) ∈ kwl := kwl_in (List.mem_of_getElem? (i := 1085) (by decide +kernel)) rfl
theorem kok_144 : kOK 144 := ⟨kwl_in (List.mem_of_getElem? (i := 74) (by decide +kernel)) rfl, kwl_in (List.mem_of_getElem? (i := 1086) (by decide +kernel)) rfl, by decide +kernel, by decide +kernel, by decide +kernel⟩
theorem k_im_145 : Cond.instanceMethod (ky 145) ∈ kwl := kwl_in (List.mem_of_getElem? (i := 1088) (by decide +kernel)) rfl
theorem k_se_145 : Cond.selects (ky 145).cls (ky 145) (ky 145) ∈ kwl := kwl_in (List.mem_of_getElem? (i := 1089) (by decide +kernel)) rfl
theorem kok_145 : kOK 145 := ⟨kwl_in (List.mem_of_getElem? (i := 74) (by decide +kernel)) rfl, kwl_in (List.mem_of_getElem? (i := 1090) (by decide +kernel)) rfl, by decide +kernel, by decide +kernel, by decide +kernel⟩
theorem k_im_146 : Cond.instanceMethod (ky 146) ∈ kwl := kwl_in (List.mem_of_getElem? (i := 1092) (by decide +kernel)) rfl
theorem k_se_146 : Cond.selects (ky 146).cls (ky 146) (ky 146) ∈ kwl := kwl_in (List.mem_of_getElem? (i := 1093) (by decide +kernel)) rfl
theorem kok_146 : kOK 146 := ⟨kwl_in (List.mem_of_getElem? (i := 74) (by decide +kernel)) rfl, kwl_in (List.mem_of_getElem? (i := 1094) (by decide +kernel)) rfl, by decide +kernel, by decide +kernel, by decide +kernel⟩
