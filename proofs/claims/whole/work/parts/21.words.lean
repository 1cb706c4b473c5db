/-! words of the tables; printed by wip/whole/emit.py -/
theorem am_in1 {w : Cond} (i : Nat) (h : tables_1_1[i]? = some w) (g : goodWord w = true) : w ∈ am_ws := List.mem_filter.mpr ⟨List.mem_append_right _ (List.mem_append_left _ (List.mem_of_getElem? h)), g⟩
theorem am_in2 {w : Cond} (i : Nat) (h : tables_1_2[i]? = some w) (g : goodWord w = true) : w ∈ am_ws := List.mem_filter.mpr ⟨List.mem_append_right _ (List.mem_append_right _ (List.mem_append_left _ (List.mem_of_getElem? h))), g⟩
theorem am_in3 {w : Cond} (i : Nat) (h : tables_1_3[i]? = some w) (g : goodWord w = true) : w ∈ am_ws := List.mem_filter.mpr ⟨List.mem_append_right _ (List.mem_append_right _ (List.mem_append_right _ (List.mem_append_left _ (List.mem_of_getElem? h)))), g⟩
theorem am_in4 {w : Cond} (i : Nat) (h : tables_1_4[i]? = some w) (g : goodWord w = true) : w ∈ am_ws := List.mem_filter.mpr ⟨List.mem_append_right _ (List.mem_append_right _ (List.mem_append_right _ (List.mem_append_right _ (List.mem_append_left _ (List.mem_of_getElem? h))))), g⟩
theorem am_in5 {w : Cond} (i : Nat) (h : tables_1_5[i]? = some w) (g : goodWord w = true) : w ∈ am_ws := List.mem_filter.mpr ⟨List.mem_append_right _ (List.mem_append_right _ (List.mem_append_right _ (List.mem_append_right _ (List.mem_append_right _ (List.mem_of_getElem? h))))), g⟩
theorem kw_oi : Cond.code Lib.objectInit ⟨#[0xb1]⟩ 1 none ∈ am_ws := am_in 29 (by decide +kernel) rfl
theorem kw_mx : Cond.code Lib.Math.max.name Lib.Math.max.code 2 (some .int) ∈ am_ws := am_in 161 (by decide +kernel) rfl
set_option maxRecDepth 20000 in
theorem kw_0 : Cond.methodLink "TokenMouth$Groups" 3 ⟨"java/lang/Object", "<init>", "()V"⟩ ∈ am_ws := am_in1 152 rfl rfl
set_option maxRecDepth 20000 in
theorem kw_1 : Cond.instanceMethod ⟨"java/lang/Object", "<init>", "()V"⟩ ∈ am_ws := am_in1 28 rfl rfl
set_option maxRecDepth 20000 in
theorem kw_2 : Cond.classLink "TokenMouth$Groups" 9 "TokenMouth$Row" ∈ am_ws := am_in1 153 rfl rfl
set_option maxRecDepth 20000 in
theorem kw_3 : Cond.instantiable "TokenMouth$Row" 2 ∈ am_ws := am_in1 154 rfl rfl
set_option maxRecDepth 20000 in
theorem kw_4 : Cond.initialized "TokenMouth$Row" ∈ am_ws := am_in1 10 rfl rfl
set_option maxRecDepth 20000 in
theorem kw_5 : Cond.code ⟨"TokenMouth$Row", "<init>", "(I)V"⟩ prog_6_method_1_code 2 none ∈ am_ws := am_in1 157 rfl rfl
set_option maxRecDepth 20000 in
theorem kw_6 : Cond.methodLink "TokenMouth$Groups" 11 ⟨"TokenMouth$Row", "<init>", "(I)V"⟩ ∈ am_ws := am_in1 155 rfl rfl
set_option maxRecDepth 20000 in
theorem kw_7 : Cond.instanceMethod ⟨"TokenMouth$Row", "<init>", "(I)V"⟩ ∈ am_ws := am_in1 156 rfl rfl
set_option maxRecDepth 20000 in
theorem kw_8 : Cond.fieldLink "TokenMouth$Groups" 14 "TokenMouth$Groups" "starts" "LTokenMouth$Row;" ∈ am_ws := am_in1 169 rfl rfl
set_option maxRecDepth 20000 in
theorem kw_9 : Cond.fieldLink "TokenMouth$Groups" 20 "TokenMouth$Groups" "keys" "LTokenMouth$Row;" ∈ am_ws := am_in1 171 rfl rfl
set_option maxRecDepth 20000 in
theorem kw_10 : Cond.fieldLink "TokenMouth$Groups" 23 "TokenMouth$Groups" "values" "LTokenMouth$Row;" ∈ am_ws := am_in1 173 rfl rfl
set_option maxRecDepth 20000 in
theorem kw_11 : Cond.code ⟨"TokenMouth$Row", "cutTo", "(I)V"⟩ prog_6_method_8_code 2 none ∈ am_ws := am_in2 45 rfl rfl
set_option maxRecDepth 20000 in
theorem kw_12 : Cond.methodLink "TokenMouth$Groups" 26 ⟨"TokenMouth$Row", "cutTo", "(I)V"⟩ ∈ am_ws := am_in2 42 rfl rfl
set_option maxRecDepth 20000 in
theorem kw_13 : Cond.instanceMethod ⟨"TokenMouth$Row", "cutTo", "(I)V"⟩ ∈ am_ws := am_in2 43 rfl rfl
set_option maxRecDepth 20000 in
theorem kw_14 : Cond.selects "TokenMouth$Row" ⟨"TokenMouth$Row", "cutTo", "(I)V"⟩ ⟨"TokenMouth$Row", "cutTo", "(I)V"⟩ ∈ am_ws := am_in2 44 rfl rfl
set_option maxRecDepth 20000 in
theorem kw_15 : Cond.code ⟨"TokenMouth$Row", "size", "()I"⟩ prog_6_method_2_code 1 (some .int) ∈ am_ws := am_in2 151 rfl rfl
set_option maxRecDepth 20000 in
theorem kw_16 : Cond.methodLink "TokenMouth$Groups" 29 ⟨"TokenMouth$Row", "size", "()I"⟩ ∈ am_ws := am_in2 233 rfl rfl
set_option maxRecDepth 20000 in
theorem kw_17 : Cond.instanceMethod ⟨"TokenMouth$Row", "size", "()I"⟩ ∈ am_ws := am_in2 149 rfl rfl
set_option maxRecDepth 20000 in
theorem kw_18 : Cond.selects "TokenMouth$Row" ⟨"TokenMouth$Row", "size", "()I"⟩ ⟨"TokenMouth$Row", "size", "()I"⟩ ∈ am_ws := am_in2 150 rfl rfl
set_option maxRecDepth 20000 in
theorem kw_19 : Cond.code ⟨"TokenMouth$Row", "add", "(I)Z"⟩ prog_6_method_5_code 2 (some .boolean) ∈ am_ws := am_in2 204 rfl rfl
set_option maxRecDepth 20000 in
theorem kw_20 : Cond.methodLink "TokenMouth$Groups" 33 ⟨"TokenMouth$Row", "add", "(I)Z"⟩ ∈ am_ws := am_in2 238 rfl rfl
set_option maxRecDepth 20000 in
theorem kw_21 : Cond.instanceMethod ⟨"TokenMouth$Row", "add", "(I)Z"⟩ ∈ am_ws := am_in2 202 rfl rfl
set_option maxRecDepth 20000 in
theorem kw_22 : Cond.selects "TokenMouth$Row" ⟨"TokenMouth$Row", "add", "(I)Z"⟩ ⟨"TokenMouth$Row", "add", "(I)Z"⟩ ∈ am_ws := am_in2 203 rfl rfl
set_option maxRecDepth 20000 in
theorem kw_23 : Cond.code ⟨"TokenMouth$Row", "last", "()I"⟩ prog_6_method_4_code 1 (some .int) ∈ am_ws := am_in2 232 rfl rfl
set_option maxRecDepth 20000 in
theorem kw_24 : Cond.methodLink "TokenMouth$Groups" 37 ⟨"TokenMouth$Row", "last", "()I"⟩ ∈ am_ws := am_in2 229 rfl rfl
set_option maxRecDepth 20000 in
theorem kw_25 : Cond.instanceMethod ⟨"TokenMouth$Row", "last", "()I"⟩ ∈ am_ws := am_in2 230 rfl rfl
set_option maxRecDepth 20000 in
theorem kw_26 : Cond.selects "TokenMouth$Row" ⟨"TokenMouth$Row", "last", "()I"⟩ ⟨"TokenMouth$Row", "last", "()I"⟩ ∈ am_ws := am_in2 231 rfl rfl
set_option maxRecDepth 20000 in
theorem kw_27 : Cond.code ⟨"TokenMouth$Row", "holds", "(III)Z"⟩ prog_6_method_10_code 5 (some .boolean) ∈ am_ws := am_in2 237 rfl rfl
set_option maxRecDepth 20000 in
theorem kw_28 : Cond.methodLink "TokenMouth$Groups" 40 ⟨"TokenMouth$Row", "holds", "(III)Z"⟩ ∈ am_ws := am_in2 234 rfl rfl
set_option maxRecDepth 20000 in
theorem kw_29 : Cond.instanceMethod ⟨"TokenMouth$Row", "holds", "(III)Z"⟩ ∈ am_ws := am_in2 235 rfl rfl
set_option maxRecDepth 20000 in
theorem kw_30 : Cond.selects "TokenMouth$Row" ⟨"TokenMouth$Row", "holds", "(III)Z"⟩ ⟨"TokenMouth$Row", "holds", "(III)Z"⟩ ∈ am_ws := am_in2 236 rfl rfl
set_option maxRecDepth 20000 in
theorem kw_31 : Cond.code ⟨"TokenMouth$Row", "at", "(I)I"⟩ prog_6_method_3_code 2 (some .int) ∈ am_ws := am_in3 72 rfl rfl
set_option maxRecDepth 20000 in
theorem kw_32 : Cond.methodLink "TokenMouth$Groups" 44 ⟨"TokenMouth$Row", "at", "(I)I"⟩ ∈ am_ws := am_in3 150 rfl rfl
set_option maxRecDepth 20000 in
theorem kw_33 : Cond.instanceMethod ⟨"TokenMouth$Row", "at", "(I)I"⟩ ∈ am_ws := am_in3 70 rfl rfl
set_option maxRecDepth 20000 in
theorem kw_34 : Cond.selects "TokenMouth$Row" ⟨"TokenMouth$Row", "at", "(I)I"⟩ ⟨"TokenMouth$Row", "at", "(I)I"⟩ ∈ am_ws := am_in3 71 rfl rfl
set_option maxRecDepth 20000 in
theorem kw_35 : Cond.code ⟨"TokenMouth$Row", "replace", "(II)V"⟩ prog_6_method_7_code 3 none ∈ am_ws := am_in3 55 rfl rfl
set_option maxRecDepth 20000 in
theorem kw_36 : Cond.methodLink "TokenMouth$Groups" 48 ⟨"TokenMouth$Row", "replace", "(II)V"⟩ ∈ am_ws := am_in3 151 rfl rfl
set_option maxRecDepth 20000 in
theorem kw_37 : Cond.instanceMethod ⟨"TokenMouth$Row", "replace", "(II)V"⟩ ∈ am_ws := am_in3 53 rfl rfl
set_option maxRecDepth 20000 in
theorem kw_38 : Cond.selects "TokenMouth$Row" ⟨"TokenMouth$Row", "replace", "(II)V"⟩ ⟨"TokenMouth$Row", "replace", "(II)V"⟩ ∈ am_ws := am_in3 54 rfl rfl
set_option maxRecDepth 20000 in
theorem kw_39 : Cond.methodLink "TokenMouth$Macro" 3 ⟨"java/lang/Object", "<init>", "()V"⟩ ∈ am_ws := am_in1 191 rfl rfl
set_option maxRecDepth 20000 in
theorem kw_40 : Cond.classLink "TokenMouth$Macro" 9 "TokenMouth$Row" ∈ am_ws := am_in1 192 rfl rfl
set_option maxRecDepth 20000 in
theorem kw_41 : Cond.methodLink "TokenMouth$Macro" 11 ⟨"TokenMouth$Row", "<init>", "(I)V"⟩ ∈ am_ws := am_in1 193 rfl rfl
set_option maxRecDepth 20000 in
theorem kw_42 : Cond.fieldLink "TokenMouth$Macro" 14 "TokenMouth$Macro" "text" "LTokenMouth$Row;" ∈ am_ws := am_in1 194 rfl rfl
set_option maxRecDepth 20000 in
theorem kw_43 : Cond.fieldLink "TokenMouth$Macro" 20 "TokenMouth$Macro" "body" "LTokenMouth$Row;" ∈ am_ws := am_in1 196 rfl rfl
set_option maxRecDepth 20000 in
theorem kw_44 : Cond.methodLink "TokenMouth$Macro" 23 ⟨"TokenMouth$Row", "cutTo", "(I)V"⟩ ∈ am_ws := am_in3 129 rfl rfl
set_option maxRecDepth 20000 in
theorem kw_45 : Cond.fieldLink "TokenMouth$Macro" 26 "TokenMouth$Macro" "parameters" "I" ∈ am_ws := am_in1 198 rfl rfl
set_option maxRecDepth 20000 in
theorem kw_46 : Cond.methodLink "TokenMouth$Names" 3 ⟨"java/lang/Object", "<init>", "()V"⟩ ∈ am_ws := am_in1 78 rfl rfl
set_option maxRecDepth 20000 in
theorem kw_47 : Cond.arrayClass .long ∈ am_ws := am_in1 145 rfl rfl
set_option maxRecDepth 20000 in
theorem kw_48 : Cond.fieldLink "TokenMouth$Names" 9 "TokenMouth$Names" "heads" "[J" ∈ am_ws := am_in1 132 rfl rfl
set_option maxRecDepth 20000 in
theorem kw_49 : Cond.fieldLink "TokenMouth$Names" 15 "TokenMouth$Names" "tails" "[J" ∈ am_ws := am_in1 133 rfl rfl
set_option maxRecDepth 20000 in
theorem kw_50 : Cond.arrayClass .int ∈ am_ws := am_in1 72 rfl rfl
set_option maxRecDepth 20000 in
theorem kw_51 : Cond.fieldLink "TokenMouth$Names" 18 "TokenMouth$Names" "meanings" "[I" ∈ am_ws := am_in1 134 rfl rfl
set_option maxRecDepth 20000 in
theorem kw_52 : Cond.code ⟨"java/lang/String", "length", "()I"⟩ prog_15_method_54_code 1 (some .int) ∈ am_ws := am_in1 83 rfl rfl
set_option maxRecDepth 20000 in
theorem kw_53 : Cond.methodLink "TokenMouth$Names" 24 ⟨"java/lang/String", "length", "()I"⟩ ∈ am_ws := am_in1 80 rfl rfl
set_option maxRecDepth 20000 in
theorem kw_54 : Cond.instanceMethod ⟨"java/lang/String", "length", "()I"⟩ ∈ am_ws := am_in1 81 rfl rfl
set_option maxRecDepth 20000 in
theorem kw_55 : Cond.selects "java/lang/String" ⟨"java/lang/String", "length", "()I"⟩ ⟨"java/lang/String", "length", "()I"⟩ ∈ am_ws := am_in1 82 rfl rfl
set_option maxRecDepth 20000 in
theorem kw_56 : Cond.code ⟨"java/lang/String", "charAt", "(I)C"⟩ prog_15_method_56_code 2 (some .char) ∈ am_ws := am_in1 93 rfl rfl
set_option maxRecDepth 20000 in
theorem kw_57 : Cond.methodLink "TokenMouth$Names" 30 ⟨"java/lang/String", "charAt", "(I)C"⟩ ∈ am_ws := am_in1 90 rfl rfl
set_option maxRecDepth 20000 in
theorem kw_58 : Cond.instanceMethod ⟨"java/lang/String", "charAt", "(I)C"⟩ ∈ am_ws := am_in1 91 rfl rfl
set_option maxRecDepth 20000 in
theorem kw_59 : Cond.selects "java/lang/String" ⟨"java/lang/String", "charAt", "(I)C"⟩ ⟨"java/lang/String", "charAt", "(I)C"⟩ ∈ am_ws := am_in1 92 rfl rfl
set_option maxRecDepth 20000 in
theorem kw_60 : Cond.fieldLink "TokenMouth$Names" 34 "TokenMouth$Names" "known" "I" ∈ am_ws := am_in1 135 rfl rfl
set_option maxRecDepth 20000 in
theorem kw_61 : Cond.code ⟨"TokenMouth$Names", "startAnew", "()V"⟩ prog_4_method_2_code 2 none ∈ am_ws := am_in1 131 rfl rfl
set_option maxRecDepth 20000 in
theorem kw_62 : Cond.methodLink "TokenMouth$Names" 38 ⟨"TokenMouth$Names", "startAnew", "()V"⟩ ∈ am_ws := am_in1 128 rfl rfl
set_option maxRecDepth 20000 in
theorem kw_63 : Cond.instanceMethod ⟨"TokenMouth$Names", "startAnew", "()V"⟩ ∈ am_ws := am_in1 129 rfl rfl
set_option maxRecDepth 20000 in
theorem kw_64 : Cond.selects "TokenMouth$Names" ⟨"TokenMouth$Names", "startAnew", "()V"⟩ ⟨"TokenMouth$Names", "startAnew", "()V"⟩ ∈ am_ws := am_in1 130 rfl rfl
set_option maxRecDepth 20000 in
theorem kw_65 : Cond.code ⟨"TokenMouth$Names", "headAt", "(I)J"⟩ prog_4_method_6_code 2 (some .long) ∈ am_ws := am_in3 24 rfl rfl
set_option maxRecDepth 20000 in
theorem kw_66 : Cond.methodLink "TokenMouth$Names" 41 ⟨"TokenMouth$Names", "headAt", "(I)J"⟩ ∈ am_ws := am_in3 164 rfl rfl
set_option maxRecDepth 20000 in
theorem kw_67 : Cond.instanceMethod ⟨"TokenMouth$Names", "headAt", "(I)J"⟩ ∈ am_ws := am_in3 22 rfl rfl
set_option maxRecDepth 20000 in
theorem kw_68 : Cond.selects "TokenMouth$Names" ⟨"TokenMouth$Names", "headAt", "(I)J"⟩ ⟨"TokenMouth$Names", "headAt", "(I)J"⟩ ∈ am_ws := am_in3 23 rfl rfl
set_option maxRecDepth 20000 in
theorem kw_69 : Cond.constantLong "TokenMouth$Names" 45 256 ∈ am_ws := am_in3 165 rfl rfl
set_option maxRecDepth 20000 in
theorem kw_70 : Cond.methodLink "TokenMouth$Reader" 3 ⟨"java/lang/Object", "<init>", "()V"⟩ ∈ am_ws := am_in1 35 rfl rfl
set_option maxRecDepth 20000 in
theorem kw_71 : Cond.fieldLink "TokenMouth$Reader" 9 "TokenMouth$Reader" "text" "[I" ∈ am_ws := am_in1 43 rfl rfl
set_option maxRecDepth 20000 in
theorem kw_72 : Cond.fieldLink "TokenMouth$Reader" 15 "TokenMouth$Reader" "categories" "[I" ∈ am_ws := am_in1 44 rfl rfl
set_option maxRecDepth 20000 in
theorem kw_73 : Cond.code ⟨"TokenMouth$Reader", "startAnew", "()V"⟩ prog_5_method_3_code 2 none ∈ am_ws := am_in1 39 rfl rfl
set_option maxRecDepth 20000 in
theorem kw_74 : Cond.methodLink "TokenMouth$Reader" 18 ⟨"TokenMouth$Reader", "startAnew", "()V"⟩ ∈ am_ws := am_in1 36 rfl rfl
set_option maxRecDepth 20000 in
theorem kw_75 : Cond.instanceMethod ⟨"TokenMouth$Reader", "startAnew", "()V"⟩ ∈ am_ws := am_in1 37 rfl rfl
set_option maxRecDepth 20000 in
theorem kw_76 : Cond.selects "TokenMouth$Reader" ⟨"TokenMouth$Reader", "startAnew", "()V"⟩ ⟨"TokenMouth$Reader", "startAnew", "()V"⟩ ∈ am_ws := am_in1 38 rfl rfl
set_option maxRecDepth 20000 in
theorem kw_77 : Cond.fieldLink "TokenMouth$Reader" 21 "TokenMouth$Reader" "length" "I" ∈ am_ws := am_in1 45 rfl rfl
set_option maxRecDepth 20000 in
theorem kw_78 : Cond.fieldLink "TokenMouth$Reader" 25 "TokenMouth$Reader" "place" "I" ∈ am_ws := am_in1 47 rfl rfl
set_option maxRecDepth 20000 in
theorem kw_79 : Cond.fieldLink "TokenMouth$Reader" 28 "TokenMouth$Reader" "state" "I" ∈ am_ws := am_in1 46 rfl rfl
set_option maxRecDepth 20000 in
theorem kw_80 : Cond.fieldLink "TokenMouth$Reader" 31 "TokenMouth$Reader" "trouble" "I" ∈ am_ws := am_in1 49 rfl rfl
set_option maxRecDepth 20000 in
theorem kw_81 : Cond.code ⟨"java/util/Arrays", "fill", "([II)V"⟩ prog_20_method_103_code 4 none ∈ am_ws := am_in1 42 rfl rfl
set_option maxRecDepth 20000 in
theorem kw_82 : Cond.initialized "java/util/Arrays" ∈ am_ws := am_in1 3 rfl rfl
set_option maxRecDepth 20000 in
theorem kw_83 : Cond.methodLink "TokenMouth$Reader" 34 ⟨"java/util/Arrays", "fill", "([II)V"⟩ ∈ am_ws := am_in1 40 rfl rfl
set_option maxRecDepth 20000 in
theorem kw_84 : Cond.static ⟨"java/util/Arrays", "fill", "([II)V"⟩ ∈ am_ws := am_in1 41 rfl rfl
set_option maxRecDepth 20000 in
theorem kw_85 : Cond.code ⟨"TokenMouth", "charactersOf", "(J)I"⟩ prog_1_method_15_code 5 (some .int) ∈ am_ws := am_in2 20 rfl rfl
set_option maxRecDepth 20000 in
theorem kw_86 : Cond.initialized "TokenMouth" ∈ am_ws := am_in1 1 rfl rfl
set_option maxRecDepth 20000 in
theorem kw_87 : Cond.static ⟨"TokenMouth", "charactersOf", "(J)I"⟩ ∈ am_ws := am_in2 19 rfl rfl
set_option maxRecDepth 20000 in
theorem kw_88 : Cond.fieldLink "TokenMouth$Reader" 44 "TokenMouth$Reader" "head" "J" ∈ am_ws := am_in1 51 rfl rfl
set_option maxRecDepth 20000 in
theorem kw_89 : Cond.constantLong "TokenMouth$Reader" 50 (-1) ∈ am_ws := am_in2 160 rfl rfl
set_option maxRecDepth 20000 in
theorem kw_90 : Cond.fieldLink "TokenMouth$Reader" 52 "TokenMouth$Reader" "tail" "J" ∈ am_ws := am_in1 53 rfl rfl
set_option maxRecDepth 20000 in
theorem kw_91 : Cond.methodLink "TokenMouth$Row" 3 ⟨"java/lang/Object", "<init>", "()V"⟩ ∈ am_ws := am_in1 158 rfl rfl
set_option maxRecDepth 20000 in
theorem kw_92 : Cond.methodLink "TokenMouth$Row" 9 ⟨"java/lang/Math", "max", "(II)I"⟩ ∈ am_ws := am_in1 159 rfl rfl
set_option maxRecDepth 20000 in
theorem kw_93 : Cond.static ⟨"java/lang/Math", "max", "(II)I"⟩ ∈ am_ws := am_in1 160 rfl rfl
set_option maxRecDepth 20000 in
theorem kw_94 : Cond.initialized "java/lang/Math" ∈ am_ws := am_in1 11 rfl rfl
set_option maxRecDepth 20000 in
theorem kw_95 : Cond.fieldLink "TokenMouth$Row" 15 "TokenMouth$Row" "items" "[I" ∈ am_ws := am_in1 162 rfl rfl
set_option maxRecDepth 20000 in
theorem kw_96 : Cond.fieldLink "TokenMouth$Row" 21 "TokenMouth$Row" "size" "I" ∈ am_ws := am_in1 163 rfl rfl
set_option maxRecDepth 20000 in
theorem kw_97 : Cond.methodLink "TokenMouth$Row" 25 ⟨"TokenMouth$Row", "at", "(I)I"⟩ ∈ am_ws := am_in3 69 rfl rfl
set_option maxRecDepth 20000 in
theorem kw_98 : Cond.code ⟨"TokenMouth", "braceStep", "(I)I"⟩ prog_1_method_19_code 2 (some .int) ∈ am_ws := am_in3 81 rfl rfl
set_option maxRecDepth 20000 in
theorem kw_99 : Cond.static ⟨"TokenMouth", "braceStep", "(I)I"⟩ ∈ am_ws := am_in3 80 rfl rfl
set_option maxRecDepth 20000 in
theorem kw_100 : Cond.methodLink "TokenMouth$Row" 32 ⟨"java/lang/System", "arraycopy", "(Ljava/lang/Object;ILjava/lang/Object;II)V"⟩ ∈ am_ws := am_in3 91 rfl rfl
set_option maxRecDepth 20000 in
theorem kw_101 : Cond.native ⟨"java/lang/System", "arraycopy", "(Ljava/lang/Object;ILjava/lang/Object;II)V"⟩ ∈ am_ws := am_in3 93 rfl rfl
set_option maxRecDepth 20000 in
theorem kw_102 : Cond.static ⟨"java/lang/System", "arraycopy", "(Ljava/lang/Object;ILjava/lang/Object;II)V"⟩ ∈ am_ws := am_in3 92 rfl rfl
set_option maxRecDepth 20000 in
theorem kw_103 : Cond.initialized "java/lang/System" ∈ am_ws := am_in1 19 rfl rfl
set_option maxRecDepth 20000 in
theorem kw_104 : Cond.methodLink "TokenMouth" 3 ⟨"java/lang/Object", "<init>", "()V"⟩ ∈ am_ws := am_in1 27 rfl rfl
set_option maxRecDepth 20000 in
theorem kw_105 : Cond.classLink "TokenMouth" 9 "TokenMouth$Reader" ∈ am_ws := am_in1 30 rfl rfl
set_option maxRecDepth 20000 in
theorem kw_106 : Cond.instantiable "TokenMouth$Reader" 8 ∈ am_ws := am_in1 31 rfl rfl
set_option maxRecDepth 20000 in
theorem kw_107 : Cond.initialized "TokenMouth$Reader" ∈ am_ws := am_in1 2 rfl rfl
set_option maxRecDepth 20000 in
theorem kw_108 : Cond.code ⟨"TokenMouth$Reader", "<init>", "()V"⟩ prog_5_method_1_code 1 none ∈ am_ws := am_in1 34 rfl rfl
set_option maxRecDepth 20000 in
theorem kw_109 : Cond.methodLink "TokenMouth" 11 ⟨"TokenMouth$Reader", "<init>", "()V"⟩ ∈ am_ws := am_in1 32 rfl rfl
set_option maxRecDepth 20000 in
theorem kw_110 : Cond.instanceMethod ⟨"TokenMouth$Reader", "<init>", "()V"⟩ ∈ am_ws := am_in1 33 rfl rfl
set_option maxRecDepth 20000 in
theorem kw_111 : Cond.fieldLink "TokenMouth" 12 "TokenMouth" "reader" "LTokenMouth$Reader;" ∈ am_ws := am_in1 207 rfl rfl
set_option maxRecDepth 20000 in
theorem kw_112 : Cond.classLink "TokenMouth" 16 "TokenMouth$Names" ∈ am_ws := am_in1 73 rfl rfl
set_option maxRecDepth 20000 in
theorem kw_113 : Cond.instantiable "TokenMouth$Names" 4 ∈ am_ws := am_in1 74 rfl rfl
set_option maxRecDepth 20000 in
theorem kw_114 : Cond.initialized "TokenMouth$Names" ∈ am_ws := am_in1 4 rfl rfl
set_option maxRecDepth 20000 in
theorem kw_115 : Cond.code ⟨"TokenMouth$Names", "<init>", "()V"⟩ prog_4_method_1_code 7 none ∈ am_ws := am_in1 77 rfl rfl
set_option maxRecDepth 20000 in
theorem kw_116 : Cond.methodLink "TokenMouth" 18 ⟨"TokenMouth$Names", "<init>", "()V"⟩ ∈ am_ws := am_in1 75 rfl rfl
set_option maxRecDepth 20000 in
theorem kw_117 : Cond.instanceMethod ⟨"TokenMouth$Names", "<init>", "()V"⟩ ∈ am_ws := am_in1 76 rfl rfl
set_option maxRecDepth 20000 in
theorem kw_118 : Cond.fieldLink "TokenMouth" 19 "TokenMouth" "names" "LTokenMouth$Names;" ∈ am_ws := am_in1 208 rfl rfl
set_option maxRecDepth 20000 in
theorem kw_119 : Cond.classLink "TokenMouth" 23 "TokenMouth$Groups" ∈ am_ws := am_in1 147 rfl rfl
set_option maxRecDepth 20000 in
theorem kw_120 : Cond.instantiable "TokenMouth$Groups" 3 ∈ am_ws := am_in1 148 rfl rfl
set_option maxRecDepth 20000 in
theorem kw_121 : Cond.initialized "TokenMouth$Groups" ∈ am_ws := am_in1 9 rfl rfl
set_option maxRecDepth 20000 in
theorem kw_122 : Cond.code ⟨"TokenMouth$Groups", "<init>", "()V"⟩ prog_2_method_1_code 1 none ∈ am_ws := am_in1 151 rfl rfl
set_option maxRecDepth 20000 in
theorem kw_123 : Cond.methodLink "TokenMouth" 25 ⟨"TokenMouth$Groups", "<init>", "()V"⟩ ∈ am_ws := am_in1 149 rfl rfl
set_option maxRecDepth 20000 in
theorem kw_124 : Cond.instanceMethod ⟨"TokenMouth$Groups", "<init>", "()V"⟩ ∈ am_ws := am_in1 150 rfl rfl
set_option maxRecDepth 20000 in
theorem kw_125 : Cond.fieldLink "TokenMouth" 26 "TokenMouth" "groups" "LTokenMouth$Groups;" ∈ am_ws := am_in1 209 rfl rfl
set_option maxRecDepth 20000 in
theorem kw_126 : Cond.classLink "TokenMouth" 30 "TokenMouth$Row" ∈ am_ws := am_in1 182 rfl rfl
set_option maxRecDepth 20000 in
theorem kw_127 : Cond.methodLink "TokenMouth" 32 ⟨"TokenMouth$Row", "<init>", "(I)V"⟩ ∈ am_ws := am_in1 183 rfl rfl
set_option maxRecDepth 20000 in
theorem kw_128 : Cond.fieldLink "TokenMouth" 35 "TokenMouth" "pending" "LTokenMouth$Row;" ∈ am_ws := am_in1 210 rfl rfl
set_option maxRecDepth 20000 in
theorem kw_129 : Cond.fieldLink "TokenMouth" 39 "TokenMouth" "outs" "LTokenMouth$Row;" ∈ am_ws := am_in1 211 rfl rfl
set_option maxRecDepth 20000 in
theorem kw_130 : Cond.fieldLink "TokenMouth" 42 "TokenMouth" "conditionals" "LTokenMouth$Row;" ∈ am_ws := am_in1 212 rfl rfl
set_option maxRecDepth 20000 in
theorem kw_131 : Cond.fieldLink "TokenMouth" 45 "TokenMouth" "arguments" "[LTokenMouth$Row;" ∈ am_ws := am_in1 213 rfl rfl
set_option maxRecDepth 20000 in
theorem kw_132 : Cond.classLink "TokenMouth" 49 "TokenMouth$Macro" ∈ am_ws := am_in1 185 rfl rfl
set_option maxRecDepth 20000 in
theorem kw_133 : Cond.fieldLink "TokenMouth" 51 "TokenMouth" "macros" "[LTokenMouth$Macro;" ∈ am_ws := am_in1 214 rfl rfl
set_option maxRecDepth 20000 in
theorem kw_134 : Cond.instantiable "TokenMouth$Macro" 3 ∈ am_ws := am_in1 187 rfl rfl
set_option maxRecDepth 20000 in
theorem kw_135 : Cond.initialized "TokenMouth$Macro" ∈ am_ws := am_in1 12 rfl rfl
set_option maxRecDepth 20000 in
theorem kw_136 : Cond.code ⟨"TokenMouth$Macro", "<init>", "()V"⟩ prog_3_method_1_code 1 none ∈ am_ws := am_in1 190 rfl rfl
set_option maxRecDepth 20000 in
theorem kw_137 : Cond.methodLink "TokenMouth" 55 ⟨"TokenMouth$Macro", "<init>", "()V"⟩ ∈ am_ws := am_in1 188 rfl rfl
set_option maxRecDepth 20000 in
theorem kw_138 : Cond.instanceMethod ⟨"TokenMouth$Macro", "<init>", "()V"⟩ ∈ am_ws := am_in1 189 rfl rfl
set_option maxRecDepth 20000 in
theorem kw_139 : Cond.fieldLink "TokenMouth" 56 "TokenMouth" "draft" "LTokenMouth$Macro;" ∈ am_ws := am_in1 215 rfl rfl
set_option maxRecDepth 20000 in
theorem kw_140 : Cond.fieldLink "TokenMouth" 60 "TokenMouth" "steps" "I" ∈ am_ws := am_in1 217 rfl rfl
set_option maxRecDepth 20000 in
theorem kw_141 : Cond.code ⟨"TokenMouth$Reader", "append", "(J)Z"⟩ prog_5_method_6_code 6 (some .boolean) ∈ am_ws := am_in2 17 rfl rfl
set_option maxRecDepth 20000 in
theorem kw_142 : Cond.methodLink "TokenMouth" 64 ⟨"TokenMouth$Reader", "append", "(J)Z"⟩ ∈ am_ws := am_in2 14 rfl rfl
set_option maxRecDepth 20000 in
theorem kw_143 : Cond.instanceMethod ⟨"TokenMouth$Reader", "append", "(J)Z"⟩ ∈ am_ws := am_in2 15 rfl rfl
set_option maxRecDepth 20000 in
theorem kw_144 : Cond.selects "TokenMouth$Reader" ⟨"TokenMouth$Reader", "append", "(J)Z"⟩ ⟨"TokenMouth$Reader", "append", "(J)Z"⟩ ∈ am_ws := am_in2 16 rfl rfl
set_option maxRecDepth 20000 in
theorem kw_145 : Cond.code ⟨"TokenMouth$Reader", "forgetText", "()V"⟩ prog_5_method_2_code 1 none ∈ am_ws := am_in2 31 rfl rfl
set_option maxRecDepth 20000 in
theorem kw_146 : Cond.methodLink "TokenMouth" 68 ⟨"TokenMouth$Reader", "forgetText", "()V"⟩ ∈ am_ws := am_in2 28 rfl rfl
set_option maxRecDepth 20000 in
theorem kw_147 : Cond.instanceMethod ⟨"TokenMouth$Reader", "forgetText", "()V"⟩ ∈ am_ws := am_in2 29 rfl rfl
set_option maxRecDepth 20000 in
theorem kw_148 : Cond.selects "TokenMouth$Reader" ⟨"TokenMouth$Reader", "forgetText", "()V"⟩ ⟨"TokenMouth$Reader", "forgetText", "()V"⟩ ∈ am_ws := am_in2 30 rfl rfl
set_option maxRecDepth 20000 in
theorem kw_149 : Cond.code ⟨"TokenMouth", "startAnew", "()V"⟩ prog_1_method_12_code 1 none ∈ am_ws := am_in2 35 rfl rfl
set_option maxRecDepth 20000 in
theorem kw_150 : Cond.methodLink "TokenMouth" 71 ⟨"TokenMouth", "startAnew", "()V"⟩ ∈ am_ws := am_in2 32 rfl rfl
set_option maxRecDepth 20000 in
theorem kw_151 : Cond.instanceMethod ⟨"TokenMouth", "startAnew", "()V"⟩ ∈ am_ws := am_in2 34 rfl rfl
set_option maxRecDepth 20000 in
theorem kw_152 : Cond.selects "TokenMouth" ⟨"TokenMouth", "startAnew", "()V"⟩ ⟨"TokenMouth", "startAnew", "()V"⟩ ∈ am_ws := am_inS 0 rfl rfl
set_option maxRecDepth 20000 in
theorem kw_153 : Cond.fieldLink "TokenMouth" 81 "TokenMouth" "faultKind" "I" ∈ am_ws := am_in1 218 rfl rfl
set_option maxRecDepth 20000 in
theorem kw_154 : Cond.fieldLink "TokenMouth" 89 "TokenMouth" "expansions" "I" ∈ am_ws := am_in1 219 rfl rfl
set_option maxRecDepth 20000 in
theorem kw_155 : Cond.fieldLink "TokenMouth" 92 "TokenMouth" "openExpansions" "I" ∈ am_ws := am_in1 220 rfl rfl
set_option maxRecDepth 20000 in
theorem kw_156 : Cond.code ⟨"TokenMouth", "get", "(Z)I"⟩ prog_1_method_26_code 4 (some .int) ∈ am_ws := am_in2 147 rfl rfl
set_option maxRecDepth 20000 in
theorem kw_157 : Cond.methodLink "TokenMouth" 95 ⟨"TokenMouth", "get", "(Z)I"⟩ ∈ am_ws := am_in2 144 rfl rfl
set_option maxRecDepth 20000 in
theorem kw_158 : Cond.instanceMethod ⟨"TokenMouth", "get", "(Z)I"⟩ ∈ am_ws := am_in2 146 rfl rfl
set_option maxRecDepth 20000 in
theorem kw_159 : Cond.selects "TokenMouth" ⟨"TokenMouth", "get", "(Z)I"⟩ ⟨"TokenMouth", "get", "(Z)I"⟩ ∈ am_ws := am_inS 2 rfl rfl
set_option maxRecDepth 20000 in
theorem kw_160 : Cond.code ⟨"TokenMouth", "meaningOf", "(I)I"⟩ prog_1_method_20_code 2 (some .int) ∈ am_ws := am_in2 177 rfl rfl
set_option maxRecDepth 20000 in
theorem kw_161 : Cond.methodLink "TokenMouth" 99 ⟨"TokenMouth", "meaningOf", "(I)I"⟩ ∈ am_ws := am_in2 174 rfl rfl
set_option maxRecDepth 20000 in
theorem kw_162 : Cond.instanceMethod ⟨"TokenMouth", "meaningOf", "(I)I"⟩ ∈ am_ws := am_in2 176 rfl rfl
set_option maxRecDepth 20000 in
theorem kw_163 : Cond.selects "TokenMouth" ⟨"TokenMouth", "meaningOf", "(I)I"⟩ ⟨"TokenMouth", "meaningOf", "(I)I"⟩ ∈ am_ws := am_inS 4 rfl rfl
set_option maxRecDepth 20000 in
theorem kw_164 : Cond.code ⟨"TokenMouth", "execute", "(I)V"⟩ prog_1_method_29_code 3 none ∈ am_ws := am_in2 185 rfl rfl
set_option maxRecDepth 20000 in
theorem kw_165 : Cond.methodLink "TokenMouth" 103 ⟨"TokenMouth", "execute", "(I)V"⟩ ∈ am_ws := am_in2 182 rfl rfl
set_option maxRecDepth 20000 in
theorem kw_166 : Cond.instanceMethod ⟨"TokenMouth", "execute", "(I)V"⟩ ∈ am_ws := am_in2 184 rfl rfl
set_option maxRecDepth 20000 in
theorem kw_167 : Cond.selects "TokenMouth" ⟨"TokenMouth", "execute", "(I)V"⟩ ⟨"TokenMouth", "execute", "(I)V"⟩ ∈ am_ws := am_inS 5 rfl rfl
set_option maxRecDepth 20000 in
theorem kw_168 : Cond.fieldLink "TokenMouth" 111 "TokenMouth$Reader" "place" "I" ∈ am_ws := am_in1 48 rfl rfl
set_option maxRecDepth 20000 in
theorem kw_169 : Cond.methodLink "TokenMouth" 114 ⟨"TokenMouth$Row", "at", "(I)I"⟩ ∈ am_ws := am_in3 73 rfl rfl
set_option maxRecDepth 20000 in
theorem kw_170 : Cond.methodLink "TokenMouth" 119 ⟨"TokenMouth$Row", "size", "()I"⟩ ∈ am_ws := am_in2 148 rfl rfl
set_option maxRecDepth 20000 in
theorem kw_171 : Cond.fieldLink "TokenMouth" 123 "TokenMouth$Groups" "starts" "LTokenMouth$Row;" ∈ am_ws := am_in1 170 rfl rfl
set_option maxRecDepth 20000 in
theorem kw_172 : Cond.fieldLink "TokenMouth" 126 "TokenMouth" "made" "I" ∈ am_ws := am_in1 216 rfl rfl
set_option maxRecDepth 20000 in
theorem kw_173 : Cond.code ⟨"TokenMouth", "isOfText", "(I)Z"⟩ prog_1_method_14_code 1 (some .boolean) ∈ am_ws := am_in2 23 rfl rfl
set_option maxRecDepth 20000 in
theorem kw_174 : Cond.methodLink "TokenMouth" 131 ⟨"TokenMouth", "isOfText", "(I)Z"⟩ ∈ am_ws := am_in2 21 rfl rfl
set_option maxRecDepth 20000 in
theorem kw_175 : Cond.static ⟨"TokenMouth", "isOfText", "(I)Z"⟩ ∈ am_ws := am_in2 22 rfl rfl
set_option maxRecDepth 20000 in
theorem kw_176 : Cond.code ⟨"TokenMouth$Reader", "categoryOf", "(I)I"⟩ prog_5_method_4_code 2 (some .int) ∈ am_ws := am_in2 224 rfl rfl
set_option maxRecDepth 20000 in
theorem kw_177 : Cond.methodLink "TokenMouth" 137 ⟨"TokenMouth$Reader", "categoryOf", "(I)I"⟩ ∈ am_ws := am_in2 221 rfl rfl
set_option maxRecDepth 20000 in
theorem kw_178 : Cond.instanceMethod ⟨"TokenMouth$Reader", "categoryOf", "(I)I"⟩ ∈ am_ws := am_in2 222 rfl rfl
set_option maxRecDepth 20000 in
theorem kw_179 : Cond.selects "TokenMouth$Reader" ⟨"TokenMouth$Reader", "categoryOf", "(I)I"⟩ ⟨"TokenMouth$Reader", "categoryOf", "(I)I"⟩ ∈ am_ws := am_in2 223 rfl rfl
set_option maxRecDepth 20000 in
theorem kw_180 : Cond.code ⟨"TokenMouth", "meaningOfTyped", "(JZ)I"⟩ prog_1_method_16_code 10 (some .int) ∈ am_ws := am_in3 228 rfl rfl
set_option maxRecDepth 20000 in
theorem kw_181 : Cond.methodLink "TokenMouth" 140 ⟨"TokenMouth", "meaningOfTyped", "(JZ)I"⟩ ∈ am_ws := am_in3 225 rfl rfl
set_option maxRecDepth 20000 in
theorem kw_182 : Cond.instanceMethod ⟨"TokenMouth", "meaningOfTyped", "(JZ)I"⟩ ∈ am_ws := am_in3 227 rfl rfl
set_option maxRecDepth 20000 in
theorem kw_183 : Cond.selects "TokenMouth" ⟨"TokenMouth", "meaningOfTyped", "(JZ)I"⟩ ⟨"TokenMouth", "meaningOfTyped", "(JZ)I"⟩ ∈ am_ws := am_inS 33 rfl rfl
set_option maxRecDepth 20000 in
theorem kw_184 : Cond.code ⟨"TokenMouth", "macroOf", "(I)LTokenMouth$Macro;"⟩ prog_1_method_23_code 3 (some (.object "TokenMouth$Macro")) ∈ am_ws := am_in3 47 rfl rfl
set_option maxRecDepth 20000 in
theorem kw_185 : Cond.methodLink "TokenMouth" 144 ⟨"TokenMouth", "macroOf", "(I)LTokenMouth$Macro;"⟩ ∈ am_ws := am_in3 44 rfl rfl
set_option maxRecDepth 20000 in
theorem kw_186 : Cond.instanceMethod ⟨"TokenMouth", "macroOf", "(I)LTokenMouth$Macro;"⟩ ∈ am_ws := am_in3 46 rfl rfl
set_option maxRecDepth 20000 in
theorem kw_187 : Cond.selects "TokenMouth" ⟨"TokenMouth", "macroOf", "(I)LTokenMouth$Macro;"⟩ ⟨"TokenMouth", "macroOf", "(I)LTokenMouth$Macro;"⟩ ∈ am_ws := am_inS 17 rfl rfl
set_option maxRecDepth 20000 in
theorem kw_188 : Cond.fieldLink "TokenMouth" 148 "TokenMouth$Macro" "parameters" "I" ∈ am_ws := am_in1 199 rfl rfl
set_option maxRecDepth 20000 in
theorem kw_189 : Cond.fieldLink "TokenMouth" 151 "TokenMouth$Macro" "text" "LTokenMouth$Row;" ∈ am_ws := am_in1 195 rfl rfl
set_option maxRecDepth 20000 in
theorem kw_190 : Cond.fieldLink "TokenMouth" 154 "TokenMouth$Macro" "body" "LTokenMouth$Row;" ∈ am_ws := am_in1 197 rfl rfl
set_option maxRecDepth 20000 in
theorem kw_191 : Cond.methodLink "TokenMouth" 157 ⟨"TokenMouth$Reader", "startAnew", "()V"⟩ ∈ am_ws := am_in2 36 rfl rfl
set_option maxRecDepth 20000 in
theorem kw_192 : Cond.methodLink "TokenMouth" 158 ⟨"TokenMouth$Names", "startAnew", "()V"⟩ ∈ am_ws := am_in2 37 rfl rfl
set_option maxRecDepth 20000 in
theorem kw_193 : Cond.code ⟨"TokenMouth$Groups", "startAnew", "()V"⟩ prog_2_method_2_code 1 none ∈ am_ws := am_in2 41 rfl rfl
set_option maxRecDepth 20000 in
theorem kw_194 : Cond.methodLink "TokenMouth" 159 ⟨"TokenMouth$Groups", "startAnew", "()V"⟩ ∈ am_ws := am_in2 38 rfl rfl
set_option maxRecDepth 20000 in
theorem kw_195 : Cond.instanceMethod ⟨"TokenMouth$Groups", "startAnew", "()V"⟩ ∈ am_ws := am_in2 39 rfl rfl
set_option maxRecDepth 20000 in
theorem kw_196 : Cond.selects "TokenMouth$Groups" ⟨"TokenMouth$Groups", "startAnew", "()V"⟩ ⟨"TokenMouth$Groups", "startAnew", "()V"⟩ ∈ am_ws := am_in2 40 rfl rfl
set_option maxRecDepth 20000 in
theorem kw_197 : Cond.methodLink "TokenMouth" 160 ⟨"TokenMouth$Row", "cutTo", "(I)V"⟩ ∈ am_ws := am_in2 46 rfl rfl
set_option maxRecDepth 20000 in
theorem kw_198 : Cond.methodLink "TokenMouth" 165 ⟨"TokenMouth", "charactersOf", "(J)I"⟩ ∈ am_ws := am_in3 229 rfl rfl
set_option maxRecDepth 20000 in
theorem kw_199 : Cond.constantLong "TokenMouth" 174 255 ∈ am_ws := am_in4 6 rfl rfl
set_option maxRecDepth 20000 in
theorem kw_200 : Cond.constantLong "TokenMouth" 176 (-1) ∈ am_ws := am_in3 29 rfl rfl
set_option maxRecDepth 20000 in
theorem kw_201 : Cond.code ⟨"TokenMouth$Names", "find", "(JJZ)I"⟩ prog_4_method_3_code 7 (some .int) ∈ am_ws := am_in2 173 rfl rfl
set_option maxRecDepth 20000 in
theorem kw_202 : Cond.methodLink "TokenMouth" 178 ⟨"TokenMouth$Names", "find", "(JJZ)I"⟩ ∈ am_ws := am_in2 170 rfl rfl
set_option maxRecDepth 20000 in
theorem kw_203 : Cond.instanceMethod ⟨"TokenMouth$Names", "find", "(JJZ)I"⟩ ∈ am_ws := am_in2 171 rfl rfl
set_option maxRecDepth 20000 in
theorem kw_204 : Cond.selects "TokenMouth$Names" ⟨"TokenMouth$Names", "find", "(JJZ)I"⟩ ⟨"TokenMouth$Names", "find", "(JJZ)I"⟩ ∈ am_ws := am_in2 172 rfl rfl
set_option maxRecDepth 20000 in
theorem kw_205 : Cond.code ⟨"TokenMouth$Names", "meaningAt", "(I)I"⟩ prog_4_method_4_code 2 (some .int) ∈ am_ws := am_in2 181 rfl rfl
set_option maxRecDepth 20000 in
theorem kw_206 : Cond.methodLink "TokenMouth" 182 ⟨"TokenMouth$Names", "meaningAt", "(I)I"⟩ ∈ am_ws := am_in2 178 rfl rfl
set_option maxRecDepth 20000 in
theorem kw_207 : Cond.instanceMethod ⟨"TokenMouth$Names", "meaningAt", "(I)I"⟩ ∈ am_ws := am_in2 179 rfl rfl
set_option maxRecDepth 20000 in
theorem kw_208 : Cond.selects "TokenMouth$Names" ⟨"TokenMouth$Names", "meaningAt", "(I)I"⟩ ⟨"TokenMouth$Names", "meaningAt", "(I)I"⟩ ∈ am_ws := am_in2 180 rfl rfl
set_option maxRecDepth 20000 in
theorem kw_209 : Cond.code ⟨"TokenMouth$Row", "sameAs", "(LTokenMouth$Row;)Z"⟩ prog_6_method_9_code 3 (some .boolean) ∈ am_ws := am_in3 51 rfl rfl
set_option maxRecDepth 20000 in
theorem kw_210 : Cond.methodLink "TokenMouth" 185 ⟨"TokenMouth$Row", "sameAs", "(LTokenMouth$Row;)Z"⟩ ∈ am_ws := am_in3 48 rfl rfl
set_option maxRecDepth 20000 in
theorem kw_211 : Cond.instanceMethod ⟨"TokenMouth$Row", "sameAs", "(LTokenMouth$Row;)Z"⟩ ∈ am_ws := am_in3 49 rfl rfl
set_option maxRecDepth 20000 in
theorem kw_212 : Cond.selects "TokenMouth$Row" ⟨"TokenMouth$Row", "sameAs", "(LTokenMouth$Row;)Z"⟩ ⟨"TokenMouth$Row", "sameAs", "(LTokenMouth$Row;)Z"⟩ ∈ am_ws := am_in3 50 rfl rfl
set_option maxRecDepth 20000 in
theorem kw_213 : Cond.code ⟨"TokenMouth", "isCharacter", "(I)Z"⟩ prog_1_method_21_code 1 (some .boolean) ∈ am_ws := am_in3 39 rfl rfl
set_option maxRecDepth 20000 in
theorem kw_214 : Cond.methodLink "TokenMouth" 189 ⟨"TokenMouth", "isCharacter", "(I)Z"⟩ ∈ am_ws := am_in3 37 rfl rfl
set_option maxRecDepth 20000 in
theorem kw_215 : Cond.static ⟨"TokenMouth", "isCharacter", "(I)Z"⟩ ∈ am_ws := am_in3 38 rfl rfl
set_option maxRecDepth 20000 in
theorem kw_216 : Cond.code ⟨"TokenMouth$Row", "takeLast", "()I"⟩ prog_6_method_6_code 1 (some .int) ∈ am_ws := am_in2 155 rfl rfl
set_option maxRecDepth 20000 in
theorem kw_217 : Cond.methodLink "TokenMouth" 192 ⟨"TokenMouth$Row", "takeLast", "()I"⟩ ∈ am_ws := am_in2 152 rfl rfl
set_option maxRecDepth 20000 in
theorem kw_218 : Cond.instanceMethod ⟨"TokenMouth$Row", "takeLast", "()I"⟩ ∈ am_ws := am_in2 153 rfl rfl
set_option maxRecDepth 20000 in
theorem kw_219 : Cond.selects "TokenMouth$Row" ⟨"TokenMouth$Row", "takeLast", "()I"⟩ ⟨"TokenMouth$Row", "takeLast", "()I"⟩ ∈ am_ws := am_in2 154 rfl rfl
set_option maxRecDepth 20000 in
theorem kw_220 : Cond.code ⟨"TokenMouth$Reader", "read", "()I"⟩ prog_5_method_7_code 6 (some .int) ∈ am_ws := am_in2 159 rfl rfl
set_option maxRecDepth 20000 in
theorem kw_221 : Cond.methodLink "TokenMouth" 195 ⟨"TokenMouth$Reader", "read", "()I"⟩ ∈ am_ws := am_in2 156 rfl rfl
set_option maxRecDepth 20000 in
theorem kw_222 : Cond.instanceMethod ⟨"TokenMouth$Reader", "read", "()I"⟩ ∈ am_ws := am_in2 157 rfl rfl
set_option maxRecDepth 20000 in
theorem kw_223 : Cond.selects "TokenMouth$Reader" ⟨"TokenMouth$Reader", "read", "()I"⟩ ⟨"TokenMouth$Reader", "read", "()I"⟩ ∈ am_ws := am_in2 158 rfl rfl
set_option maxRecDepth 20000 in
theorem kw_224 : Cond.code ⟨"TokenMouth$Reader", "readName", "()I"⟩ prog_5_method_8_code 4 (some .int) ∈ am_ws := am_in2 164 rfl rfl
set_option maxRecDepth 20000 in
theorem kw_225 : Cond.methodLink "TokenMouth" 198 ⟨"TokenMouth$Reader", "readName", "()I"⟩ ∈ am_ws := am_in2 161 rfl rfl
set_option maxRecDepth 20000 in
theorem kw_226 : Cond.instanceMethod ⟨"TokenMouth$Reader", "readName", "()I"⟩ ∈ am_ws := am_in2 162 rfl rfl
set_option maxRecDepth 20000 in
theorem kw_227 : Cond.selects "TokenMouth$Reader" ⟨"TokenMouth$Reader", "readName", "()I"⟩ ⟨"TokenMouth$Reader", "readName", "()I"⟩ ∈ am_ws := am_in2 163 rfl rfl
set_option maxRecDepth 20000 in
theorem kw_228 : Cond.fieldLink "TokenMouth" 201 "TokenMouth$Reader" "trouble" "I" ∈ am_ws := am_in1 50 rfl rfl
set_option maxRecDepth 20000 in
theorem kw_229 : Cond.code ⟨"TokenMouth", "fail", "(I)I"⟩ prog_1_method_13_code 2 (some .int) ∈ am_ws := am_in2 168 rfl rfl
set_option maxRecDepth 20000 in
theorem kw_230 : Cond.methodLink "TokenMouth" 204 ⟨"TokenMouth", "fail", "(I)I"⟩ ∈ am_ws := am_in2 165 rfl rfl
set_option maxRecDepth 20000 in
theorem kw_231 : Cond.instanceMethod ⟨"TokenMouth", "fail", "(I)I"⟩ ∈ am_ws := am_in2 167 rfl rfl
set_option maxRecDepth 20000 in
theorem kw_232 : Cond.selects "TokenMouth" ⟨"TokenMouth", "fail", "(I)I"⟩ ⟨"TokenMouth", "fail", "(I)I"⟩ ∈ am_ws := am_inS 3 rfl rfl
set_option maxRecDepth 20000 in
theorem kw_233 : Cond.fieldLink "TokenMouth" 207 "TokenMouth$Reader" "head" "J" ∈ am_ws := am_in1 52 rfl rfl
set_option maxRecDepth 20000 in
theorem kw_234 : Cond.fieldLink "TokenMouth" 211 "TokenMouth$Reader" "tail" "J" ∈ am_ws := am_in1 54 rfl rfl
set_option maxRecDepth 20000 in
theorem kw_235 : Cond.code ⟨"TokenMouth", "isExpandable", "(I)Z"⟩ prog_1_method_22_code 1 (some .boolean) ∈ am_ws := am_in2 188 rfl rfl
set_option maxRecDepth 20000 in
theorem kw_236 : Cond.methodLink "TokenMouth" 214 ⟨"TokenMouth", "isExpandable", "(I)Z"⟩ ∈ am_ws := am_in2 186 rfl rfl
set_option maxRecDepth 20000 in
theorem kw_237 : Cond.static ⟨"TokenMouth", "isExpandable", "(I)Z"⟩ ∈ am_ws := am_in2 187 rfl rfl
set_option maxRecDepth 20000 in
theorem kw_238 : Cond.code ⟨"TokenMouth", "expand", "(I)V"⟩ prog_1_method_44_code 6 none ∈ am_ws := am_in2 192 rfl rfl
set_option maxRecDepth 20000 in
theorem kw_239 : Cond.methodLink "TokenMouth" 217 ⟨"TokenMouth", "expand", "(I)V"⟩ ∈ am_ws := am_in2 189 rfl rfl
set_option maxRecDepth 20000 in
theorem kw_240 : Cond.instanceMethod ⟨"TokenMouth", "expand", "(I)V"⟩ ∈ am_ws := am_in2 191 rfl rfl
set_option maxRecDepth 20000 in
theorem kw_241 : Cond.selects "TokenMouth" ⟨"TokenMouth", "expand", "(I)V"⟩ ⟨"TokenMouth", "expand", "(I)V"⟩ ∈ am_ws := am_inS 6 rfl rfl
set_option maxRecDepth 20000 in
theorem kw_242 : Cond.methodLink "TokenMouth" 220 ⟨"TokenMouth$Row", "add", "(I)Z"⟩ ∈ am_ws := am_in2 201 rfl rfl
set_option maxRecDepth 20000 in
theorem kw_243 : Cond.code ⟨"TokenMouth", "executeCharacter", "(I)V"⟩ prog_1_method_30_code 3 none ∈ am_ws := am_in3 101 rfl rfl
set_option maxRecDepth 20000 in
theorem kw_244 : Cond.methodLink "TokenMouth" 223 ⟨"TokenMouth", "executeCharacter", "(I)V"⟩ ∈ am_ws := am_in3 98 rfl rfl
set_option maxRecDepth 20000 in
theorem kw_245 : Cond.instanceMethod ⟨"TokenMouth", "executeCharacter", "(I)V"⟩ ∈ am_ws := am_in3 100 rfl rfl
set_option maxRecDepth 20000 in
theorem kw_246 : Cond.selects "TokenMouth" ⟨"TokenMouth", "executeCharacter", "(I)V"⟩ ⟨"TokenMouth", "executeCharacter", "(I)V"⟩ ∈ am_ws := am_inS 22 rfl rfl
set_option maxRecDepth 20000 in
theorem kw_247 : Cond.code ⟨"TokenMouth", "putOut", "(I)V"⟩ prog_1_method_31_code 2 none ∈ am_ws := am_in3 116 rfl rfl
set_option maxRecDepth 20000 in
theorem kw_248 : Cond.methodLink "TokenMouth" 226 ⟨"TokenMouth", "putOut", "(I)V"⟩ ∈ am_ws := am_in3 113 rfl rfl
set_option maxRecDepth 20000 in
theorem kw_249 : Cond.instanceMethod ⟨"TokenMouth", "putOut", "(I)V"⟩ ∈ am_ws := am_in3 115 rfl rfl
set_option maxRecDepth 20000 in
theorem kw_250 : Cond.selects "TokenMouth" ⟨"TokenMouth", "putOut", "(I)V"⟩ ⟨"TokenMouth", "putOut", "(I)V"⟩ ∈ am_ws := am_inS 24 rfl rfl
set_option maxRecDepth 20000 in
theorem kw_251 : Cond.code ⟨"TokenMouth", "getName", "()I"⟩ prog_1_method_35_code 2 (some .int) ∈ am_ws := am_in3 120 rfl rfl
set_option maxRecDepth 20000 in
theorem kw_252 : Cond.methodLink "TokenMouth" 229 ⟨"TokenMouth", "getName", "()I"⟩ ∈ am_ws := am_in3 117 rfl rfl
set_option maxRecDepth 20000 in
theorem kw_253 : Cond.instanceMethod ⟨"TokenMouth", "getName", "()I"⟩ ∈ am_ws := am_in3 119 rfl rfl
set_option maxRecDepth 20000 in
theorem kw_254 : Cond.selects "TokenMouth" ⟨"TokenMouth", "getName", "()I"⟩ ⟨"TokenMouth", "getName", "()I"⟩ ∈ am_ws := am_inS 25 rfl rfl
set_option maxRecDepth 20000 in
theorem kw_255 : Cond.code ⟨"TokenMouth", "readMacroText", "()V"⟩ prog_1_method_39_code 4 none ∈ am_ws := am_in3 124 rfl rfl
set_option maxRecDepth 20000 in
theorem kw_256 : Cond.methodLink "TokenMouth" 232 ⟨"TokenMouth", "readMacroText", "()V"⟩ ∈ am_ws := am_in3 121 rfl rfl
set_option maxRecDepth 20000 in
theorem kw_257 : Cond.instanceMethod ⟨"TokenMouth", "readMacroText", "()V"⟩ ∈ am_ws := am_in3 123 rfl rfl
set_option maxRecDepth 20000 in
theorem kw_258 : Cond.selects "TokenMouth" ⟨"TokenMouth", "readMacroText", "()V"⟩ ⟨"TokenMouth", "readMacroText", "()V"⟩ ∈ am_ws := am_inS 26 rfl rfl
set_option maxRecDepth 20000 in
theorem kw_259 : Cond.code ⟨"TokenMouth", "readBody", "(Z)V"⟩ prog_1_method_41_code 5 none ∈ am_ws := am_in3 137 rfl rfl
set_option maxRecDepth 20000 in
theorem kw_260 : Cond.methodLink "TokenMouth" 235 ⟨"TokenMouth", "readBody", "(Z)V"⟩ ∈ am_ws := am_in3 134 rfl rfl
set_option maxRecDepth 20000 in
theorem kw_261 : Cond.instanceMethod ⟨"TokenMouth", "readBody", "(Z)V"⟩ ∈ am_ws := am_in3 136 rfl rfl
set_option maxRecDepth 20000 in
theorem kw_262 : Cond.selects "TokenMouth" ⟨"TokenMouth", "readBody", "(Z)V"⟩ ⟨"TokenMouth", "readBody", "(Z)V"⟩ ∈ am_ws := am_inS 28 rfl rfl
set_option maxRecDepth 20000 in
theorem kw_263 : Cond.code ⟨"TokenMouth", "define", "(IZ)V"⟩ prog_1_method_43_code 5 none ∈ am_ws := am_in3 145 rfl rfl
set_option maxRecDepth 20000 in
theorem kw_264 : Cond.methodLink "TokenMouth" 239 ⟨"TokenMouth", "define", "(IZ)V"⟩ ∈ am_ws := am_in3 142 rfl rfl
set_option maxRecDepth 20000 in
theorem kw_265 : Cond.instanceMethod ⟨"TokenMouth", "define", "(IZ)V"⟩ ∈ am_ws := am_in3 144 rfl rfl
set_option maxRecDepth 20000 in
theorem kw_266 : Cond.selects "TokenMouth" ⟨"TokenMouth", "define", "(IZ)V"⟩ ⟨"TokenMouth", "define", "(IZ)V"⟩ ∈ am_ws := am_inS 30 rfl rfl
set_option maxRecDepth 20000 in
theorem kw_267 : Cond.code ⟨"TokenMouth", "let", "()V"⟩ prog_1_method_36_code 3 none ∈ am_ws := am_in3 155 rfl rfl
set_option maxRecDepth 20000 in
theorem kw_268 : Cond.methodLink "TokenMouth" 243 ⟨"TokenMouth", "let", "()V"⟩ ∈ am_ws := am_in3 152 rfl rfl
set_option maxRecDepth 20000 in
theorem kw_269 : Cond.instanceMethod ⟨"TokenMouth", "let", "()V"⟩ ∈ am_ws := am_in3 154 rfl rfl
set_option maxRecDepth 20000 in
theorem kw_270 : Cond.selects "TokenMouth" ⟨"TokenMouth", "let", "()V"⟩ ⟨"TokenMouth", "let", "()V"⟩ ∈ am_ws := am_inS 31 rfl rfl
set_option maxRecDepth 20000 in
theorem kw_271 : Cond.code ⟨"TokenMouth", "changeCategory", "()V"⟩ prog_1_method_37_code 6 none ∈ am_ws := am_in3 159 rfl rfl
set_option maxRecDepth 20000 in
theorem kw_272 : Cond.methodLink "TokenMouth" 246 ⟨"TokenMouth", "changeCategory", "()V"⟩ ∈ am_ws := am_in3 156 rfl rfl
set_option maxRecDepth 20000 in
theorem kw_273 : Cond.instanceMethod ⟨"TokenMouth", "changeCategory", "()V"⟩ ∈ am_ws := am_in3 158 rfl rfl
set_option maxRecDepth 20000 in
theorem kw_274 : Cond.selects "TokenMouth" ⟨"TokenMouth", "changeCategory", "()V"⟩ ⟨"TokenMouth", "changeCategory", "()V"⟩ ∈ am_ws := am_inS 32 rfl rfl
set_option maxRecDepth 20000 in
theorem kw_275 : Cond.code ⟨"TokenMouth", "categoryOf", "(I)I"⟩ prog_1_method_18_code 1 (some .int) ∈ am_ws := am_in3 104 rfl rfl
set_option maxRecDepth 20000 in
theorem kw_276 : Cond.methodLink "TokenMouth" 249 ⟨"TokenMouth", "categoryOf", "(I)I"⟩ ∈ am_ws := am_in3 102 rfl rfl
set_option maxRecDepth 20000 in
theorem kw_277 : Cond.static ⟨"TokenMouth", "categoryOf", "(I)I"⟩ ∈ am_ws := am_in3 103 rfl rfl
set_option maxRecDepth 20000 in
theorem kw_278 : Cond.code ⟨"TokenMouth$Groups", "open", "()Z"⟩ prog_2_method_3_code 1 (some .boolean) ∈ am_ws := am_in3 108 rfl rfl
set_option maxRecDepth 20000 in
theorem kw_279 : Cond.methodLink "TokenMouth" 250 ⟨"TokenMouth$Groups", "open", "()Z"⟩ ∈ am_ws := am_in3 105 rfl rfl
set_option maxRecDepth 20000 in
theorem kw_280 : Cond.instanceMethod ⟨"TokenMouth$Groups", "open", "()Z"⟩ ∈ am_ws := am_in3 106 rfl rfl
set_option maxRecDepth 20000 in
theorem kw_281 : Cond.selects "TokenMouth$Groups" ⟨"TokenMouth$Groups", "open", "()Z"⟩ ⟨"TokenMouth$Groups", "open", "()Z"⟩ ∈ am_ws := am_in3 107 rfl rfl
set_option maxRecDepth 20000 in
theorem kw_282 : Cond.code ⟨"TokenMouth", "closeGroup", "()V"⟩ prog_1_method_32_code 3 none ∈ am_ws := am_in3 112 rfl rfl
set_option maxRecDepth 20000 in
theorem kw_283 : Cond.methodLink "TokenMouth" 254 ⟨"TokenMouth", "closeGroup", "()V"⟩ ∈ am_ws := am_in3 109 rfl rfl
set_option maxRecDepth 20000 in
theorem kw_284 : Cond.instanceMethod ⟨"TokenMouth", "closeGroup", "()V"⟩ ∈ am_ws := am_in3 111 rfl rfl
set_option maxRecDepth 20000 in
theorem kw_285 : Cond.selects "TokenMouth" ⟨"TokenMouth", "closeGroup", "()V"⟩ ⟨"TokenMouth", "closeGroup", "()V"⟩ ∈ am_ws := am_inS 23 rfl rfl
set_option maxRecDepth 20000 in
theorem kw_286 : Cond.fieldLink "TokenMouth" 257 "TokenMouth$Groups" "keys" "LTokenMouth$Row;" ∈ am_ws := am_in1 172 rfl rfl
set_option maxRecDepth 20000 in
theorem kw_287 : Cond.fieldLink "TokenMouth" 260 "TokenMouth$Groups" "values" "LTokenMouth$Row;" ∈ am_ws := am_in1 174 rfl rfl
set_option maxRecDepth 20000 in
theorem kw_288 : Cond.code ⟨"TokenMouth", "set", "(II)V"⟩ prog_1_method_33_code 3 none ∈ am_ws := am_in3 2 rfl rfl
set_option maxRecDepth 20000 in
theorem kw_289 : Cond.methodLink "TokenMouth" 263 ⟨"TokenMouth", "set", "(II)V"⟩ ∈ am_ws := am_in2 239 rfl rfl
set_option maxRecDepth 20000 in
theorem kw_290 : Cond.instanceMethod ⟨"TokenMouth", "set", "(II)V"⟩ ∈ am_ws := am_in3 1 rfl rfl
set_option maxRecDepth 20000 in
theorem kw_291 : Cond.selects "TokenMouth" ⟨"TokenMouth", "set", "(II)V"⟩ ⟨"TokenMouth", "set", "(II)V"⟩ ∈ am_ws := am_inS 13 rfl rfl
set_option maxRecDepth 20000 in
theorem kw_292 : Cond.code ⟨"TokenMouth$Names", "setMeaning", "(II)V"⟩ prog_4_method_5_code 3 none ∈ am_ws := am_in3 6 rfl rfl
set_option maxRecDepth 20000 in
theorem kw_293 : Cond.methodLink "TokenMouth" 267 ⟨"TokenMouth$Names", "setMeaning", "(II)V"⟩ ∈ am_ws := am_in3 3 rfl rfl
set_option maxRecDepth 20000 in
theorem kw_294 : Cond.instanceMethod ⟨"TokenMouth$Names", "setMeaning", "(II)V"⟩ ∈ am_ws := am_in3 4 rfl rfl
set_option maxRecDepth 20000 in
theorem kw_295 : Cond.selects "TokenMouth$Names" ⟨"TokenMouth$Names", "setMeaning", "(II)V"⟩ ⟨"TokenMouth$Names", "setMeaning", "(II)V"⟩ ∈ am_ws := am_in3 5 rfl rfl
set_option maxRecDepth 20000 in
theorem kw_296 : Cond.code ⟨"TokenMouth$Reader", "setCategory", "(II)V"⟩ prog_5_method_5_code 3 none ∈ am_ws := am_in3 10 rfl rfl
set_option maxRecDepth 20000 in
theorem kw_297 : Cond.methodLink "TokenMouth" 270 ⟨"TokenMouth$Reader", "setCategory", "(II)V"⟩ ∈ am_ws := am_in3 7 rfl rfl
set_option maxRecDepth 20000 in
theorem kw_298 : Cond.instanceMethod ⟨"TokenMouth$Reader", "setCategory", "(II)V"⟩ ∈ am_ws := am_in3 8 rfl rfl
set_option maxRecDepth 20000 in
theorem kw_299 : Cond.selects "TokenMouth$Reader" ⟨"TokenMouth$Reader", "setCategory", "(II)V"⟩ ⟨"TokenMouth$Reader", "setCategory", "(II)V"⟩ ∈ am_ws := am_in3 9 rfl rfl
set_option maxRecDepth 20000 in
theorem kw_300 : Cond.code ⟨"TokenMouth$Groups", "keep", "(II)Z"⟩ prog_2_method_4_code 4 (some .boolean) ∈ am_ws := am_in2 228 rfl rfl
set_option maxRecDepth 20000 in
theorem kw_301 : Cond.methodLink "TokenMouth" 273 ⟨"TokenMouth$Groups", "keep", "(II)Z"⟩ ∈ am_ws := am_in2 225 rfl rfl
set_option maxRecDepth 20000 in
theorem kw_302 : Cond.instanceMethod ⟨"TokenMouth$Groups", "keep", "(II)Z"⟩ ∈ am_ws := am_in2 226 rfl rfl
set_option maxRecDepth 20000 in
theorem kw_303 : Cond.selects "TokenMouth$Groups" ⟨"TokenMouth$Groups", "keep", "(II)Z"⟩ ⟨"TokenMouth$Groups", "keep", "(II)Z"⟩ ∈ am_ws := am_in2 227 rfl rfl
set_option maxRecDepth 20000 in
theorem kw_304 : Cond.code ⟨"TokenMouth", "unmarked", "(I)I"⟩ prog_1_method_17_code 1 (some .int) ∈ am_ws := am_in3 17 rfl rfl
set_option maxRecDepth 20000 in
theorem kw_305 : Cond.methodLink "TokenMouth" 277 ⟨"TokenMouth", "unmarked", "(I)I"⟩ ∈ am_ws := am_in3 15 rfl rfl
set_option maxRecDepth 20000 in
theorem kw_306 : Cond.static ⟨"TokenMouth", "unmarked", "(I)I"⟩ ∈ am_ws := am_in3 16 rfl rfl
set_option maxRecDepth 20000 in
theorem kw_307 : Cond.code ⟨"TokenMouth", "change", "(II)V"⟩ prog_1_method_34_code 4 none ∈ am_ws := am_in2 220 rfl rfl
set_option maxRecDepth 20000 in
theorem kw_308 : Cond.methodLink "TokenMouth" 280 ⟨"TokenMouth", "change", "(II)V"⟩ ∈ am_ws := am_in2 217 rfl rfl
set_option maxRecDepth 20000 in
theorem kw_309 : Cond.instanceMethod ⟨"TokenMouth", "change", "(II)V"⟩ ∈ am_ws := am_in2 219 rfl rfl
set_option maxRecDepth 20000 in
theorem kw_310 : Cond.selects "TokenMouth" ⟨"TokenMouth", "change", "(II)V"⟩ ⟨"TokenMouth", "change", "(II)V"⟩ ∈ am_ws := am_inS 12 rfl rfl
set_option maxRecDepth 20000 in
theorem kw_311 : Cond.code ⟨"TokenMouth$Names", "onlyCharacterOf", "(I)I"⟩ prog_4_method_8_code 4 (some .int) ∈ am_ws := am_in3 163 rfl rfl
set_option maxRecDepth 20000 in
theorem kw_312 : Cond.methodLink "TokenMouth" 283 ⟨"TokenMouth$Names", "onlyCharacterOf", "(I)I"⟩ ∈ am_ws := am_in3 160 rfl rfl
set_option maxRecDepth 20000 in
theorem kw_313 : Cond.instanceMethod ⟨"TokenMouth$Names", "onlyCharacterOf", "(I)I"⟩ ∈ am_ws := am_in3 161 rfl rfl
set_option maxRecDepth 20000 in
theorem kw_314 : Cond.selects "TokenMouth$Names" ⟨"TokenMouth$Names", "onlyCharacterOf", "(I)I"⟩ ⟨"TokenMouth$Names", "onlyCharacterOf", "(I)I"⟩ ∈ am_ws := am_in3 162 rfl rfl
set_option maxRecDepth 20000 in
theorem kw_315 : Cond.code ⟨"TokenMouth", "digitOf", "(I)I"⟩ prog_1_method_38_code 2 (some .int) ∈ am_ws := am_in3 168 rfl rfl
set_option maxRecDepth 20000 in
theorem kw_316 : Cond.methodLink "TokenMouth" 286 ⟨"TokenMouth", "digitOf", "(I)I"⟩ ∈ am_ws := am_in3 166 rfl rfl
set_option maxRecDepth 20000 in
theorem kw_317 : Cond.static ⟨"TokenMouth", "digitOf", "(I)I"⟩ ∈ am_ws := am_in3 167 rfl rfl
set_option maxRecDepth 20000 in
theorem kw_318 : Cond.code ⟨"TokenMouth", "putBack", "(I)V"⟩ prog_1_method_28_code 2 none ∈ am_ws := am_in2 200 rfl rfl
set_option maxRecDepth 20000 in
theorem kw_319 : Cond.methodLink "TokenMouth" 289 ⟨"TokenMouth", "putBack", "(I)V"⟩ ∈ am_ws := am_in2 197 rfl rfl
set_option maxRecDepth 20000 in
theorem kw_320 : Cond.instanceMethod ⟨"TokenMouth", "putBack", "(I)V"⟩ ∈ am_ws := am_in2 199 rfl rfl
set_option maxRecDepth 20000 in
theorem kw_321 : Cond.selects "TokenMouth" ⟨"TokenMouth", "putBack", "(I)V"⟩ ⟨"TokenMouth", "putBack", "(I)V"⟩ ∈ am_ws := am_inS 8 rfl rfl
set_option maxRecDepth 20000 in
theorem kw_322 : Cond.code ⟨"TokenMouth$Macro", "startAnew", "()V"⟩ prog_3_method_2_code 1 none ∈ am_ws := am_in3 128 rfl rfl
set_option maxRecDepth 20000 in
theorem kw_323 : Cond.methodLink "TokenMouth" 292 ⟨"TokenMouth$Macro", "startAnew", "()V"⟩ ∈ am_ws := am_in3 125 rfl rfl
set_option maxRecDepth 20000 in
theorem kw_324 : Cond.instanceMethod ⟨"TokenMouth$Macro", "startAnew", "()V"⟩ ∈ am_ws := am_in3 126 rfl rfl
set_option maxRecDepth 20000 in
theorem kw_325 : Cond.selects "TokenMouth$Macro" ⟨"TokenMouth$Macro", "startAnew", "()V"⟩ ⟨"TokenMouth$Macro", "startAnew", "()V"⟩ ∈ am_ws := am_in3 127 rfl rfl
set_option maxRecDepth 20000 in
theorem kw_326 : Cond.code ⟨"TokenMouth", "newParameter", "()I"⟩ prog_1_method_40_code 3 (some .int) ∈ am_ws := am_in3 133 rfl rfl
set_option maxRecDepth 20000 in
theorem kw_327 : Cond.methodLink "TokenMouth" 293 ⟨"TokenMouth", "newParameter", "()I"⟩ ∈ am_ws := am_in3 130 rfl rfl
set_option maxRecDepth 20000 in
theorem kw_328 : Cond.instanceMethod ⟨"TokenMouth", "newParameter", "()I"⟩ ∈ am_ws := am_in3 132 rfl rfl
set_option maxRecDepth 20000 in
theorem kw_329 : Cond.selects "TokenMouth" ⟨"TokenMouth", "newParameter", "()I"⟩ ⟨"TokenMouth", "newParameter", "()I"⟩ ∈ am_ws := am_inS 27 rfl rfl
set_option maxRecDepth 20000 in
theorem kw_330 : Cond.code ⟨"TokenMouth", "getExpanded", "()I"⟩ prog_1_method_27_code 4 (some .int) ∈ am_ws := am_in2 216 rfl rfl
set_option maxRecDepth 20000 in
theorem kw_331 : Cond.methodLink "TokenMouth" 296 ⟨"TokenMouth", "getExpanded", "()I"⟩ ∈ am_ws := am_in2 213 rfl rfl
set_option maxRecDepth 20000 in
theorem kw_332 : Cond.instanceMethod ⟨"TokenMouth", "getExpanded", "()I"⟩ ∈ am_ws := am_in2 215 rfl rfl
set_option maxRecDepth 20000 in
theorem kw_333 : Cond.selects "TokenMouth" ⟨"TokenMouth", "getExpanded", "()I"⟩ ⟨"TokenMouth", "getExpanded", "()I"⟩ ∈ am_ws := am_inS 11 rfl rfl
set_option maxRecDepth 20000 in
theorem kw_334 : Cond.methodLink "TokenMouth" 299 ⟨"TokenMouth", "braceStep", "(I)I"⟩ ∈ am_ws := am_in3 79 rfl rfl
set_option maxRecDepth 20000 in
theorem kw_335 : Cond.code ⟨"TokenMouth", "behindHash", "(I)I"⟩ prog_1_method_42_code 3 (some .int) ∈ am_ws := am_in3 141 rfl rfl
set_option maxRecDepth 20000 in
theorem kw_336 : Cond.methodLink "TokenMouth" 302 ⟨"TokenMouth", "behindHash", "(I)I"⟩ ∈ am_ws := am_in3 138 rfl rfl
set_option maxRecDepth 20000 in
theorem kw_337 : Cond.instanceMethod ⟨"TokenMouth", "behindHash", "(I)I"⟩ ∈ am_ws := am_in3 140 rfl rfl
set_option maxRecDepth 20000 in
theorem kw_338 : Cond.selects "TokenMouth" ⟨"TokenMouth", "behindHash", "(I)I"⟩ ⟨"TokenMouth", "behindHash", "(I)I"⟩ ∈ am_ws := am_inS 29 rfl rfl
set_option maxRecDepth 20000 in
theorem kw_339 : Cond.code ⟨"TokenMouth$Groups", "replaceKept", "(II)V"⟩ prog_2_method_5_code 4 none ∈ am_ws := am_in3 149 rfl rfl
set_option maxRecDepth 20000 in
theorem kw_340 : Cond.methodLink "TokenMouth" 305 ⟨"TokenMouth$Groups", "replaceKept", "(II)V"⟩ ∈ am_ws := am_in3 146 rfl rfl
set_option maxRecDepth 20000 in
theorem kw_341 : Cond.instanceMethod ⟨"TokenMouth$Groups", "replaceKept", "(II)V"⟩ ∈ am_ws := am_in3 147 rfl rfl
set_option maxRecDepth 20000 in
theorem kw_342 : Cond.selects "TokenMouth$Groups" ⟨"TokenMouth$Groups", "replaceKept", "(II)V"⟩ ⟨"TokenMouth$Groups", "replaceKept", "(II)V"⟩ ∈ am_ws := am_in3 148 rfl rfl
set_option maxRecDepth 20000 in
theorem kw_343 : Cond.code ⟨"TokenMouth", "expandAfter", "()V"⟩ prog_1_method_48_code 4 none ∈ am_ws := am_in2 196 rfl rfl
set_option maxRecDepth 20000 in
theorem kw_344 : Cond.methodLink "TokenMouth" 308 ⟨"TokenMouth", "expandAfter", "()V"⟩ ∈ am_ws := am_in2 193 rfl rfl
set_option maxRecDepth 20000 in
theorem kw_345 : Cond.instanceMethod ⟨"TokenMouth", "expandAfter", "()V"⟩ ∈ am_ws := am_in2 195 rfl rfl
set_option maxRecDepth 20000 in
theorem kw_346 : Cond.selects "TokenMouth" ⟨"TokenMouth", "expandAfter", "()V"⟩ ⟨"TokenMouth", "expandAfter", "()V"⟩ ∈ am_ws := am_inS 7 rfl rfl
set_option maxRecDepth 20000 in
theorem kw_347 : Cond.code ⟨"TokenMouth", "markNext", "()V"⟩ prog_1_method_49_code 2 none ∈ am_ws := am_in2 208 rfl rfl
set_option maxRecDepth 20000 in
theorem kw_348 : Cond.methodLink "TokenMouth" 311 ⟨"TokenMouth", "markNext", "()V"⟩ ∈ am_ws := am_in2 205 rfl rfl
set_option maxRecDepth 20000 in
theorem kw_349 : Cond.instanceMethod ⟨"TokenMouth", "markNext", "()V"⟩ ∈ am_ws := am_in2 207 rfl rfl
set_option maxRecDepth 20000 in
theorem kw_350 : Cond.selects "TokenMouth" ⟨"TokenMouth", "markNext", "()V"⟩ ⟨"TokenMouth", "markNext", "()V"⟩ ∈ am_ws := am_inS 9 rfl rfl
set_option maxRecDepth 20000 in
theorem kw_351 : Cond.code ⟨"TokenMouth", "makeName", "()I"⟩ prog_1_method_50_code 7 (some .int) ∈ am_ws := am_in2 212 rfl rfl
set_option maxRecDepth 20000 in
theorem kw_352 : Cond.methodLink "TokenMouth" 314 ⟨"TokenMouth", "makeName", "()I"⟩ ∈ am_ws := am_in2 209 rfl rfl
set_option maxRecDepth 20000 in
theorem kw_353 : Cond.instanceMethod ⟨"TokenMouth", "makeName", "()I"⟩ ∈ am_ws := am_in2 211 rfl rfl
set_option maxRecDepth 20000 in
theorem kw_354 : Cond.selects "TokenMouth" ⟨"TokenMouth", "makeName", "()I"⟩ ⟨"TokenMouth", "makeName", "()I"⟩ ∈ am_ws := am_inS 10 rfl rfl
set_option maxRecDepth 20000 in
theorem kw_355 : Cond.code ⟨"TokenMouth", "spell", "()V"⟩ prog_1_method_51_code 7 none ∈ am_ws := am_in3 14 rfl rfl
set_option maxRecDepth 20000 in
theorem kw_356 : Cond.methodLink "TokenMouth" 317 ⟨"TokenMouth", "spell", "()V"⟩ ∈ am_ws := am_in3 11 rfl rfl
set_option maxRecDepth 20000 in
theorem kw_357 : Cond.instanceMethod ⟨"TokenMouth", "spell", "()V"⟩ ∈ am_ws := am_in3 13 rfl rfl
set_option maxRecDepth 20000 in
theorem kw_358 : Cond.selects "TokenMouth" ⟨"TokenMouth", "spell", "()V"⟩ ⟨"TokenMouth", "spell", "()V"⟩ ∈ am_ws := am_inS 14 rfl rfl
set_option maxRecDepth 20000 in
theorem kw_359 : Cond.code ⟨"TokenMouth", "openConditional", "(I)Z"⟩ prog_1_method_53_code 5 (some .boolean) ∈ am_ws := am_in3 33 rfl rfl
set_option maxRecDepth 20000 in
theorem kw_360 : Cond.methodLink "TokenMouth" 320 ⟨"TokenMouth", "openConditional", "(I)Z"⟩ ∈ am_ws := am_in3 30 rfl rfl
set_option maxRecDepth 20000 in
theorem kw_361 : Cond.instanceMethod ⟨"TokenMouth", "openConditional", "(I)Z"⟩ ∈ am_ws := am_in3 32 rfl rfl
set_option maxRecDepth 20000 in
theorem kw_362 : Cond.selects "TokenMouth" ⟨"TokenMouth", "openConditional", "(I)Z"⟩ ⟨"TokenMouth", "openConditional", "(I)Z"⟩ ∈ am_ws := am_inS 15 rfl rfl
set_option maxRecDepth 20000 in
theorem kw_363 : Cond.code ⟨"TokenMouth", "pass", "(Z)V"⟩ prog_1_method_54_code 5 none ∈ am_ws := am_in3 59 rfl rfl
set_option maxRecDepth 20000 in
theorem kw_364 : Cond.methodLink "TokenMouth" 323 ⟨"TokenMouth", "pass", "(Z)V"⟩ ∈ am_ws := am_in3 56 rfl rfl
set_option maxRecDepth 20000 in
theorem kw_365 : Cond.instanceMethod ⟨"TokenMouth", "pass", "(Z)V"⟩ ∈ am_ws := am_in3 58 rfl rfl
set_option maxRecDepth 20000 in
theorem kw_366 : Cond.selects "TokenMouth" ⟨"TokenMouth", "pass", "(Z)V"⟩ ⟨"TokenMouth", "pass", "(Z)V"⟩ ∈ am_ws := am_inS 18 rfl rfl
set_option maxRecDepth 20000 in
theorem kw_367 : Cond.methodLink "TokenMouth" 326 ⟨"TokenMouth$Row", "last", "()I"⟩ ∈ am_ws := am_in3 60 rfl rfl
set_option maxRecDepth 20000 in
theorem kw_368 : Cond.code ⟨"TokenMouth", "matchStart", "(LTokenMouth$Row;)I"⟩ prog_1_method_45_code 4 (some .int) ∈ am_ws := am_in3 64 rfl rfl
set_option maxRecDepth 20000 in
theorem kw_369 : Cond.methodLink "TokenMouth" 329 ⟨"TokenMouth", "matchStart", "(LTokenMouth$Row;)I"⟩ ∈ am_ws := am_in3 61 rfl rfl
set_option maxRecDepth 20000 in
theorem kw_370 : Cond.instanceMethod ⟨"TokenMouth", "matchStart", "(LTokenMouth$Row;)I"⟩ ∈ am_ws := am_in3 63 rfl rfl
set_option maxRecDepth 20000 in
theorem kw_371 : Cond.selects "TokenMouth" ⟨"TokenMouth", "matchStart", "(LTokenMouth$Row;)I"⟩ ⟨"TokenMouth", "matchStart", "(LTokenMouth$Row;)I"⟩ ∈ am_ws := am_inS 19 rfl rfl
set_option maxRecDepth 20000 in
theorem kw_372 : Cond.code ⟨"TokenMouth", "takeArgument", "(LTokenMouth$Row;ILTokenMouth$Row;)I"⟩ prog_1_method_46_code 10 (some .int) ∈ am_ws := am_in3 77 rfl rfl
set_option maxRecDepth 20000 in
theorem kw_373 : Cond.methodLink "TokenMouth" 333 ⟨"TokenMouth", "takeArgument", "(LTokenMouth$Row;ILTokenMouth$Row;)I"⟩ ∈ am_ws := am_in3 74 rfl rfl
set_option maxRecDepth 20000 in
theorem kw_374 : Cond.instanceMethod ⟨"TokenMouth", "takeArgument", "(LTokenMouth$Row;ILTokenMouth$Row;)I"⟩ ∈ am_ws := am_in3 76 rfl rfl
set_option maxRecDepth 20000 in
theorem kw_375 : Cond.selects "TokenMouth" ⟨"TokenMouth", "takeArgument", "(LTokenMouth$Row;ILTokenMouth$Row;)I"⟩ ⟨"TokenMouth", "takeArgument", "(LTokenMouth$Row;ILTokenMouth$Row;)I"⟩ ∈ am_ws := am_inS 20 rfl rfl
set_option maxRecDepth 20000 in
theorem kw_376 : Cond.code ⟨"TokenMouth", "putBodyBack", "(LTokenMouth$Row;)V"⟩ prog_1_method_47_code 7 none ∈ am_ws := am_in3 97 rfl rfl
set_option maxRecDepth 20000 in
theorem kw_377 : Cond.methodLink "TokenMouth" 337 ⟨"TokenMouth", "putBodyBack", "(LTokenMouth$Row;)V"⟩ ∈ am_ws := am_in3 94 rfl rfl
set_option maxRecDepth 20000 in
theorem kw_378 : Cond.instanceMethod ⟨"TokenMouth", "putBodyBack", "(LTokenMouth$Row;)V"⟩ ∈ am_ws := am_in3 96 rfl rfl
set_option maxRecDepth 20000 in
theorem kw_379 : Cond.selects "TokenMouth" ⟨"TokenMouth", "putBodyBack", "(LTokenMouth$Row;)V"⟩ ⟨"TokenMouth", "putBodyBack", "(LTokenMouth$Row;)V"⟩ ∈ am_ws := am_inS 21 rfl rfl
set_option maxRecDepth 20000 in
theorem kw_380 : Cond.code ⟨"TokenMouth$Row", "nextParameter", "(I)I"⟩ prog_6_method_12_code 3 (some .int) ∈ am_ws := am_in3 68 rfl rfl
set_option maxRecDepth 20000 in
theorem kw_381 : Cond.methodLink "TokenMouth" 341 ⟨"TokenMouth$Row", "nextParameter", "(I)I"⟩ ∈ am_ws := am_in3 65 rfl rfl
set_option maxRecDepth 20000 in
theorem kw_382 : Cond.instanceMethod ⟨"TokenMouth$Row", "nextParameter", "(I)I"⟩ ∈ am_ws := am_in3 66 rfl rfl
set_option maxRecDepth 20000 in
theorem kw_383 : Cond.selects "TokenMouth$Row" ⟨"TokenMouth$Row", "nextParameter", "(I)I"⟩ ⟨"TokenMouth$Row", "nextParameter", "(I)I"⟩ ∈ am_ws := am_in3 67 rfl rfl
set_option maxRecDepth 20000 in
theorem kw_384 : Cond.methodLink "TokenMouth" 344 ⟨"TokenMouth$Row", "holds", "(III)Z"⟩ ∈ am_ws := am_in3 78 rfl rfl
set_option maxRecDepth 20000 in
theorem kw_385 : Cond.code ⟨"TokenMouth$Row", "endsWith", "(LTokenMouth$Row;II)Z"⟩ prog_6_method_11_code 6 (some .boolean) ∈ am_ws := am_in3 85 rfl rfl
set_option maxRecDepth 20000 in
theorem kw_386 : Cond.methodLink "TokenMouth" 348 ⟨"TokenMouth$Row", "endsWith", "(LTokenMouth$Row;II)Z"⟩ ∈ am_ws := am_in3 82 rfl rfl
set_option maxRecDepth 20000 in
theorem kw_387 : Cond.instanceMethod ⟨"TokenMouth$Row", "endsWith", "(LTokenMouth$Row;II)Z"⟩ ∈ am_ws := am_in3 83 rfl rfl
set_option maxRecDepth 20000 in
theorem kw_388 : Cond.selects "TokenMouth$Row" ⟨"TokenMouth$Row", "endsWith", "(LTokenMouth$Row;II)Z"⟩ ⟨"TokenMouth$Row", "endsWith", "(LTokenMouth$Row;II)Z"⟩ ∈ am_ws := am_in3 84 rfl rfl
set_option maxRecDepth 20000 in
theorem kw_389 : Cond.code ⟨"TokenMouth$Row", "peelGroup", "()V"⟩ prog_6_method_13_code 3 none ∈ am_ws := am_in3 89 rfl rfl
set_option maxRecDepth 20000 in
theorem kw_390 : Cond.methodLink "TokenMouth" 352 ⟨"TokenMouth$Row", "peelGroup", "()V"⟩ ∈ am_ws := am_in3 86 rfl rfl
set_option maxRecDepth 20000 in
theorem kw_391 : Cond.instanceMethod ⟨"TokenMouth$Row", "peelGroup", "()V"⟩ ∈ am_ws := am_in3 87 rfl rfl
set_option maxRecDepth 20000 in
theorem kw_392 : Cond.selects "TokenMouth$Row" ⟨"TokenMouth$Row", "peelGroup", "()V"⟩ ⟨"TokenMouth$Row", "peelGroup", "()V"⟩ ∈ am_ws := am_in3 88 rfl rfl
set_option maxRecDepth 20000 in
theorem kw_393 : Cond.code ⟨"TokenMouth", "spelled", "(I)I"⟩ prog_1_method_52_code 2 (some .int) ∈ am_ws := am_in3 20 rfl rfl
set_option maxRecDepth 20000 in
theorem kw_394 : Cond.methodLink "TokenMouth" 355 ⟨"TokenMouth", "spelled", "(I)I"⟩ ∈ am_ws := am_in3 18 rfl rfl
set_option maxRecDepth 20000 in
theorem kw_395 : Cond.static ⟨"TokenMouth", "spelled", "(I)I"⟩ ∈ am_ws := am_in3 19 rfl rfl
set_option maxRecDepth 20000 in
theorem kw_396 : Cond.methodLink "TokenMouth" 358 ⟨"TokenMouth$Names", "headAt", "(I)J"⟩ ∈ am_ws := am_in3 21 rfl rfl
set_option maxRecDepth 20000 in
theorem kw_397 : Cond.code ⟨"TokenMouth$Names", "tailAt", "(I)J"⟩ prog_4_method_7_code 2 (some .long) ∈ am_ws := am_in3 28 rfl rfl
set_option maxRecDepth 20000 in
theorem kw_398 : Cond.methodLink "TokenMouth" 362 ⟨"TokenMouth$Names", "tailAt", "(I)J"⟩ ∈ am_ws := am_in3 25 rfl rfl
set_option maxRecDepth 20000 in
theorem kw_399 : Cond.instanceMethod ⟨"TokenMouth$Names", "tailAt", "(I)J"⟩ ∈ am_ws := am_in3 26 rfl rfl
set_option maxRecDepth 20000 in
theorem kw_400 : Cond.selects "TokenMouth$Names" ⟨"TokenMouth$Names", "tailAt", "(I)J"⟩ ⟨"TokenMouth$Names", "tailAt", "(I)J"⟩ ∈ am_ws := am_in3 27 rfl rfl
set_option maxRecDepth 20000 in
theorem kw_401 : Cond.code ⟨"TokenMouth", "codeOf", "(I)I"⟩ prog_1_method_25_code 1 (some .int) ∈ am_ws := am_in3 36 rfl rfl
set_option maxRecDepth 20000 in
theorem kw_402 : Cond.methodLink "TokenMouth" 365 ⟨"TokenMouth", "codeOf", "(I)I"⟩ ∈ am_ws := am_in3 34 rfl rfl
set_option maxRecDepth 20000 in
theorem kw_403 : Cond.static ⟨"TokenMouth", "codeOf", "(I)I"⟩ ∈ am_ws := am_in3 35 rfl rfl
set_option maxRecDepth 20000 in
theorem kw_404 : Cond.code ⟨"TokenMouth", "meanTheSame", "(II)Z"⟩ prog_1_method_24_code 5 (some .boolean) ∈ am_ws := am_in3 43 rfl rfl
set_option maxRecDepth 20000 in
theorem kw_405 : Cond.methodLink "TokenMouth" 368 ⟨"TokenMouth", "meanTheSame", "(II)Z"⟩ ∈ am_ws := am_in3 40 rfl rfl
set_option maxRecDepth 20000 in
theorem kw_406 : Cond.instanceMethod ⟨"TokenMouth", "meanTheSame", "(II)Z"⟩ ∈ am_ws := am_in3 42 rfl rfl
set_option maxRecDepth 20000 in
theorem kw_407 : Cond.selects "TokenMouth" ⟨"TokenMouth", "meanTheSame", "(II)Z"⟩ ⟨"TokenMouth", "meanTheSame", "(II)Z"⟩ ∈ am_ws := am_inS 16 rfl rfl
set_option maxRecDepth 20000 in
theorem kw_408 : Cond.methodLink "TokenMouth" 371 ⟨"TokenMouth$Row", "replace", "(II)V"⟩ ∈ am_ws := am_in3 52 rfl rfl
set_option maxRecDepth 20000 in
theorem kw_409 : Cond.methodLink "TokenMouthModel" 1 ⟨"java/lang/Object", "<init>", "()V"⟩ ∈ am_ws := am_in4 19 rfl rfl
set_option maxRecDepth 20000 in
theorem kw_410 : Cond.fieldLink "TokenMouthModel" 7 "TokenMouthModel" "text" "[I" ∈ am_ws := am_in4 58 rfl rfl
set_option maxRecDepth 20000 in
theorem kw_411 : Cond.fieldLink "TokenMouthModel" 13 "TokenMouthModel" "categories" "[I" ∈ am_ws := am_in4 64 rfl rfl
set_option maxRecDepth 20000 in
theorem kw_412 : Cond.fieldLink "TokenMouthModel" 16 "TokenMouthModel" "waiting" "[I" ∈ am_ws := am_in4 66 rfl rfl
set_option maxRecDepth 20000 in
theorem kw_413 : Cond.fieldLink "TokenMouthModel" 19 "TokenMouthModel" "letters" "[I" ∈ am_ws := am_in4 68 rfl rfl
set_option maxRecDepth 20000 in
theorem kw_414 : Cond.fieldLink "TokenMouthModel" 22 "TokenMouthModel" "size" "[I" ∈ am_ws := am_in4 69 rfl rfl
set_option maxRecDepth 20000 in
theorem kw_415 : Cond.arrayClass .boolean ∈ am_ws := am_in4 180 rfl rfl
set_option maxRecDepth 20000 in
theorem kw_416 : Cond.fieldLink "TokenMouthModel" 25 "TokenMouthModel" "active" "[Z" ∈ am_ws := am_in4 70 rfl rfl
set_option maxRecDepth 20000 in
theorem kw_417 : Cond.fieldLink "TokenMouthModel" 29 "TokenMouthModel" "means" "[I" ∈ am_ws := am_in4 71 rfl rfl
set_option maxRecDepth 20000 in
theorem kw_418 : Cond.fieldLink "TokenMouthModel" 32 "TokenMouthModel" "spelling" "[I" ∈ am_ws := am_in4 73 rfl rfl
set_option maxRecDepth 20000 in
theorem kw_419 : Cond.fieldLink "TokenMouthModel" 35 "TokenMouthModel" "keptGroup" "[I" ∈ am_ws := am_in4 76 rfl rfl
set_option maxRecDepth 20000 in
theorem kw_420 : Cond.fieldLink "TokenMouthModel" 38 "TokenMouthModel" "keptOf" "[I" ∈ am_ws := am_in4 77 rfl rfl
set_option maxRecDepth 20000 in
theorem kw_421 : Cond.fieldLink "TokenMouthModel" 41 "TokenMouthModel" "keptWas" "[I" ∈ am_ws := am_in4 78 rfl rfl
set_option maxRecDepth 20000 in
theorem kw_422 : Cond.fieldLink "TokenMouthModel" 44 "TokenMouthModel" "textSize" "[I" ∈ am_ws := am_in4 80 rfl rfl
set_option maxRecDepth 20000 in
theorem kw_423 : Cond.fieldLink "TokenMouthModel" 47 "TokenMouthModel" "texts" "[I" ∈ am_ws := am_in4 81 rfl rfl
set_option maxRecDepth 20000 in
theorem kw_424 : Cond.fieldLink "TokenMouthModel" 50 "TokenMouthModel" "bodySize" "[I" ∈ am_ws := am_in4 82 rfl rfl
set_option maxRecDepth 20000 in
theorem kw_425 : Cond.fieldLink "TokenMouthModel" 53 "TokenMouthModel" "bodies" "[I" ∈ am_ws := am_in4 83 rfl rfl
set_option maxRecDepth 20000 in
theorem kw_426 : Cond.fieldLink "TokenMouthModel" 56 "TokenMouthModel" "parameters" "[I" ∈ am_ws := am_in4 84 rfl rfl
set_option maxRecDepth 20000 in
theorem kw_427 : Cond.fieldLink "TokenMouthModel" 59 "TokenMouthModel" "part" "[I" ∈ am_ws := am_in4 86 rfl rfl
set_option maxRecDepth 20000 in
theorem kw_428 : Cond.fieldLink "TokenMouthModel" 62 "TokenMouthModel" "doing" "[I" ∈ am_ws := am_in4 88 rfl rfl
set_option maxRecDepth 20000 in
theorem kw_429 : Cond.fieldLink "TokenMouthModel" 65 "TokenMouthModel" "holds" "[I" ∈ am_ws := am_in4 89 rfl rfl
set_option maxRecDepth 20000 in
theorem kw_430 : Cond.fieldLink "TokenMouthModel" 68 "TokenMouthModel" "stage" "[I" ∈ am_ws := am_in4 90 rfl rfl
set_option maxRecDepth 20000 in
theorem kw_431 : Cond.fieldLink "TokenMouthModel" 71 "TokenMouthModel" "opened" "[I" ∈ am_ws := am_in4 91 rfl rfl
set_option maxRecDepth 20000 in
theorem kw_432 : Cond.fieldLink "TokenMouthModel" 74 "TokenMouthModel" "spell" "[I" ∈ am_ws := am_in4 92 rfl rfl
set_option maxRecDepth 20000 in
theorem kw_433 : Cond.fieldLink "TokenMouthModel" 77 "TokenMouthModel" "outputs" "[I" ∈ am_ws := am_in4 94 rfl rfl
set_option maxRecDepth 20000 in
theorem kw_434 : Cond.fieldLink "TokenMouthModel" 80 "TokenMouthModel" "argument" "[I" ∈ am_ws := am_in4 95 rfl rfl
set_option maxRecDepth 20000 in
theorem kw_435 : Cond.fieldLink "TokenMouthModel" 83 "TokenMouthModel" "argumentSize" "[I" ∈ am_ws := am_in4 96 rfl rfl
set_option maxRecDepth 20000 in
theorem kw_436 : Cond.constantLong "TokenMouthModel" 86 3 ∈ am_ws := am_in4 20 rfl rfl
set_option maxRecDepth 20000 in
theorem kw_437 : Cond.constantLong "TokenMouthModel" 88 18480 ∈ am_ws := am_in4 21 rfl rfl
set_option maxRecDepth 20000 in
theorem kw_438 : Cond.code ⟨"TokenMouthModel", "command", "(JJ)V"⟩ prog_8_method_2_code 6 none ∈ am_ws := am_in4 25 rfl rfl
set_option maxRecDepth 20000 in
theorem kw_439 : Cond.methodLink "TokenMouthModel" 90 ⟨"TokenMouthModel", "command", "(JJ)V"⟩ ∈ am_ws := am_in4 22 rfl rfl
set_option maxRecDepth 20000 in
theorem kw_440 : Cond.instanceMethod ⟨"TokenMouthModel", "command", "(JJ)V"⟩ ∈ am_ws := am_in4 24 rfl rfl
set_option maxRecDepth 20000 in
theorem kw_441 : Cond.selects "TokenMouthModel" ⟨"TokenMouthModel", "command", "(JJ)V"⟩ ⟨"TokenMouthModel", "command", "(JJ)V"⟩ ∈ am_ws := am_inS 34 rfl rfl
set_option maxRecDepth 20000 in
theorem kw_442 : Cond.constantLong "TokenMouthModel" 94 5 ∈ am_ws := am_in4 27 rfl rfl
set_option maxRecDepth 20000 in
theorem kw_443 : Cond.constantLong "TokenMouthModel" 96 25211058 ∈ am_ws := am_in4 28 rfl rfl
set_option maxRecDepth 20000 in
theorem kw_444 : Cond.constantLong "TokenMouthModel" 98 6308 ∈ am_ws := am_in4 29 rfl rfl
set_option maxRecDepth 20000 in
theorem kw_445 : Cond.constantLong "TokenMouthModel" 100 4 ∈ am_ws := am_in4 30 rfl rfl
set_option maxRecDepth 20000 in
theorem kw_446 : Cond.constantLong "TokenMouthModel" 102 201863 ∈ am_ws := am_in4 31 rfl rfl
set_option maxRecDepth 20000 in
theorem kw_447 : Cond.constantLong "TokenMouthModel" 104 201861 ∈ am_ws := am_in4 32 rfl rfl
set_option maxRecDepth 20000 in
theorem kw_448 : Cond.constantLong "TokenMouthModel" 106 20652 ∈ am_ws := am_in4 33 rfl rfl
set_option maxRecDepth 20000 in
theorem kw_449 : Cond.constantLong "TokenMouthModel" 108 7 ∈ am_ws := am_in4 34 rfl rfl
set_option maxRecDepth 20000 in
theorem kw_450 : Cond.constantLong "TokenMouthModel" 110 5518774307 ∈ am_ws := am_in4 35 rfl rfl
set_option maxRecDepth 20000 in
theorem kw_451 : Cond.constantLong "TokenMouthModel" 112 11 ∈ am_ws := am_in4 36 rfl rfl
set_option maxRecDepth 20000 in
theorem kw_452 : Cond.constantLong "TokenMouthModel" 114 20464317797286661 ∈ am_ws := am_in4 37 rfl rfl
set_option maxRecDepth 20000 in
theorem kw_453 : Cond.constantLong "TokenMouthModel" 116 8 ∈ am_ws := am_in4 38 rfl rfl
set_option maxRecDepth 20000 in
theorem kw_454 : Cond.constantLong "TokenMouthModel" 118 152522462702 ∈ am_ws := am_in4 39 rfl rfl
set_option maxRecDepth 20000 in
theorem kw_455 : Cond.constantLong "TokenMouthModel" 120 6 ∈ am_ws := am_in4 40 rfl rfl
set_option maxRecDepth 20000 in
theorem kw_456 : Cond.constantLong "TokenMouthModel" 122 181451363 ∈ am_ws := am_in4 41 rfl rfl
set_option maxRecDepth 20000 in
theorem kw_457 : Cond.constantLong "TokenMouthModel" 124 9 ∈ am_ws := am_in4 42 rfl rfl
set_option maxRecDepth 20000 in
theorem kw_458 : Cond.constantLong "TokenMouthModel" 126 5945798267333 ∈ am_ws := am_in4 43 rfl rfl
set_option maxRecDepth 20000 in
theorem kw_459 : Cond.constantLong "TokenMouthModel" 128 249875091 ∈ am_ws := am_in4 44 rfl rfl
set_option maxRecDepth 20000 in
theorem kw_460 : Cond.constantLong "TokenMouthModel" 130 2 ∈ am_ws := am_in4 45 rfl rfl
set_option maxRecDepth 20000 in
theorem kw_461 : Cond.constantLong "TokenMouthModel" 132 201 ∈ am_ws := am_in4 46 rfl rfl
set_option maxRecDepth 20000 in
theorem kw_462 : Cond.constantLong "TokenMouthModel" 134 24777 ∈ am_ws := am_in4 47 rfl rfl
set_option maxRecDepth 20000 in
theorem kw_463 : Cond.constantLong "TokenMouthModel" 136 190402761 ∈ am_ws := am_in4 48 rfl rfl
set_option maxRecDepth 20000 in
theorem kw_464 : Cond.constantLong "TokenMouthModel" 138 6018865353 ∈ am_ws := am_in4 49 rfl rfl
set_option maxRecDepth 20000 in
theorem kw_465 : Cond.constantLong "TokenMouthModel" 140 183685 ∈ am_ws := am_in4 50 rfl rfl
set_option maxRecDepth 20000 in
theorem kw_466 : Cond.constantLong "TokenMouthModel" 142 294 ∈ am_ws := am_in4 51 rfl rfl
set_option maxRecDepth 20000 in
theorem kw_467 : Cond.code ⟨"TokenMouthModel", "start", "()V"⟩ prog_8_method_3_code 2 none ∈ am_ws := am_in4 55 rfl rfl
set_option maxRecDepth 20000 in
theorem kw_468 : Cond.methodLink "TokenMouthModel" 144 ⟨"TokenMouthModel", "start", "()V"⟩ ∈ am_ws := am_in4 52 rfl rfl
set_option maxRecDepth 20000 in
theorem kw_469 : Cond.instanceMethod ⟨"TokenMouthModel", "start", "()V"⟩ ∈ am_ws := am_in4 54 rfl rfl
set_option maxRecDepth 20000 in
theorem kw_470 : Cond.selects "TokenMouthModel" ⟨"TokenMouthModel", "start", "()V"⟩ ⟨"TokenMouthModel", "start", "()V"⟩ ∈ am_ws := am_inS 35 rfl rfl
set_option maxRecDepth 20000 in
theorem kw_471 : Cond.fieldLink "TokenMouthModel" 147 "TokenMouthModel" "names" "I" ∈ am_ws := am_in4 67 rfl rfl
set_option maxRecDepth 20000 in
theorem kw_472 : Cond.constantLong "TokenMouthModel" 151 31 ∈ am_ws := am_in4 26 rfl rfl
set_option maxRecDepth 20000 in
theorem kw_473 : Cond.fieldLink "TokenMouthModel" 153 "TokenMouthModel" "at" "I" ∈ am_ws := am_in4 59 rfl rfl
set_option maxRecDepth 20000 in
theorem kw_474 : Cond.fieldLink "TokenMouthModel" 156 "TokenMouthModel" "state" "I" ∈ am_ws := am_in4 60 rfl rfl
set_option maxRecDepth 20000 in
theorem kw_475 : Cond.fieldLink "TokenMouthModel" 159 "TokenMouthModel" "fault" "I" ∈ am_ws := am_in4 61 rfl rfl
set_option maxRecDepth 20000 in
theorem kw_476 : Cond.fieldLink "TokenMouthModel" 162 "TokenMouthModel" "steps" "I" ∈ am_ws := am_in4 62 rfl rfl
set_option maxRecDepth 20000 in
theorem kw_477 : Cond.fieldLink "TokenMouthModel" 165 "TokenMouthModel" "pending" "I" ∈ am_ws := am_in4 65 rfl rfl
set_option maxRecDepth 20000 in
theorem kw_478 : Cond.fieldLink "TokenMouthModel" 168 "TokenMouthModel" "groups" "I" ∈ am_ws := am_in4 74 rfl rfl
set_option maxRecDepth 20000 in
theorem kw_479 : Cond.fieldLink "TokenMouthModel" 171 "TokenMouthModel" "kept" "I" ∈ am_ws := am_in4 75 rfl rfl
set_option maxRecDepth 20000 in
theorem kw_480 : Cond.fieldLink "TokenMouthModel" 174 "TokenMouthModel" "macros" "I" ∈ am_ws := am_in4 79 rfl rfl
set_option maxRecDepth 20000 in
theorem kw_481 : Cond.fieldLink "TokenMouthModel" 177 "TokenMouthModel" "conditionals" "I" ∈ am_ws := am_in4 85 rfl rfl
set_option maxRecDepth 20000 in
theorem kw_482 : Cond.fieldLink "TokenMouthModel" 180 "TokenMouthModel" "frames" "I" ∈ am_ws := am_in4 87 rfl rfl
set_option maxRecDepth 20000 in
theorem kw_483 : Cond.fieldLink "TokenMouthModel" 183 "TokenMouthModel" "outs" "I" ∈ am_ws := am_in4 93 rfl rfl
set_option maxRecDepth 20000 in
theorem kw_484 : Cond.fieldLink "TokenMouthModel" 186 "TokenMouthModel" "thrown" "I" ∈ am_ws := am_in4 56 rfl rfl
set_option maxRecDepth 20000 in
theorem kw_485 : Cond.constantLong "TokenMouthModel" 189 255 ∈ am_ws := am_in4 189 rfl rfl
set_option maxRecDepth 20000 in
theorem kw_486 : Cond.code ⟨"TokenMouthModel", "isCode", "(I)Z"⟩ prog_8_method_5_code 1 (some .boolean) ∈ am_ws := am_in4 192 rfl rfl
set_option maxRecDepth 20000 in
theorem kw_487 : Cond.initialized "TokenMouthModel" ∈ am_ws := am_in1 13 rfl rfl
set_option maxRecDepth 20000 in
theorem kw_488 : Cond.methodLink "TokenMouthModel" 191 ⟨"TokenMouthModel", "isCode", "(I)Z"⟩ ∈ am_ws := am_in4 190 rfl rfl
set_option maxRecDepth 20000 in
theorem kw_489 : Cond.static ⟨"TokenMouthModel", "isCode", "(I)Z"⟩ ∈ am_ws := am_in4 191 rfl rfl
set_option maxRecDepth 20000 in
theorem kw_490 : Cond.fieldLink "TokenMouthModel" 195 "TokenMouthModel" "length" "I" ∈ am_ws := am_in4 57 rfl rfl
set_option maxRecDepth 20000 in
theorem kw_491 : Cond.fieldLink "TokenMouthModel" 198 "TokenMouthModel" "spelt" "I" ∈ am_ws := am_in4 72 rfl rfl
set_option maxRecDepth 20000 in
theorem kw_492 : Cond.code ⟨"TokenMouthModel", "known", "(Z)I"⟩ prog_8_method_11_code 5 (some .int) ∈ am_ws := am_in4 236 rfl rfl
set_option maxRecDepth 20000 in
theorem kw_493 : Cond.methodLink "TokenMouthModel" 201 ⟨"TokenMouthModel", "known", "(Z)I"⟩ ∈ am_ws := am_in4 233 rfl rfl
set_option maxRecDepth 20000 in
theorem kw_494 : Cond.instanceMethod ⟨"TokenMouthModel", "known", "(Z)I"⟩ ∈ am_ws := am_in4 235 rfl rfl
set_option maxRecDepth 20000 in
theorem kw_495 : Cond.selects "TokenMouthModel" ⟨"TokenMouthModel", "known", "(Z)I"⟩ ⟨"TokenMouthModel", "known", "(Z)I"⟩ ∈ am_ws := am_inS 43 rfl rfl
set_option maxRecDepth 20000 in
theorem kw_496 : Cond.code ⟨"TokenMouthModel", "stop", "(I)I"⟩ prog_8_method_9_code 2 (some .int) ∈ am_ws := am_in4 224 rfl rfl
set_option maxRecDepth 20000 in
theorem kw_497 : Cond.methodLink "TokenMouthModel" 205 ⟨"TokenMouthModel", "stop", "(I)I"⟩ ∈ am_ws := am_in4 221 rfl rfl
set_option maxRecDepth 20000 in
theorem kw_498 : Cond.instanceMethod ⟨"TokenMouthModel", "stop", "(I)I"⟩ ∈ am_ws := am_in4 223 rfl rfl
set_option maxRecDepth 20000 in
theorem kw_499 : Cond.selects "TokenMouthModel" ⟨"TokenMouthModel", "stop", "(I)I"⟩ ⟨"TokenMouthModel", "stop", "(I)I"⟩ ∈ am_ws := am_inS 40 rfl rfl
set_option maxRecDepth 20000 in
theorem kw_500 : Cond.code ⟨"TokenMouthModel", "say", "(I)V"⟩ prog_8_method_10_code 2 none ∈ am_ws := am_in4 228 rfl rfl
set_option maxRecDepth 20000 in
theorem kw_501 : Cond.methodLink "TokenMouthModel" 209 ⟨"TokenMouthModel", "say", "(I)V"⟩ ∈ am_ws := am_in4 225 rfl rfl
set_option maxRecDepth 20000 in
theorem kw_502 : Cond.instanceMethod ⟨"TokenMouthModel", "say", "(I)V"⟩ ∈ am_ws := am_in4 227 rfl rfl
set_option maxRecDepth 20000 in
theorem kw_503 : Cond.selects "TokenMouthModel" ⟨"TokenMouthModel", "say", "(I)V"⟩ ⟨"TokenMouthModel", "say", "(I)V"⟩ ∈ am_ws := am_inS 41 rfl rfl
set_option maxRecDepth 20000 in
theorem kw_504 : Cond.code ⟨"TokenMouthModel", "named", "(Z)I"⟩ prog_8_method_12_code 4 (some .int) ∈ am_ws := am_in4 232 rfl rfl
set_option maxRecDepth 20000 in
theorem kw_505 : Cond.methodLink "TokenMouthModel" 213 ⟨"TokenMouthModel", "named", "(Z)I"⟩ ∈ am_ws := am_in4 229 rfl rfl
set_option maxRecDepth 20000 in
theorem kw_506 : Cond.instanceMethod ⟨"TokenMouthModel", "named", "(Z)I"⟩ ∈ am_ws := am_in4 231 rfl rfl
set_option maxRecDepth 20000 in
theorem kw_507 : Cond.selects "TokenMouthModel" ⟨"TokenMouthModel", "named", "(Z)I"⟩ ⟨"TokenMouthModel", "named", "(Z)I"⟩ ∈ am_ws := am_inS 42 rfl rfl
set_option maxRecDepth 20000 in
theorem kw_508 : Cond.code ⟨"TokenMouthModel", "readName", "()I"⟩ prog_8_method_13_code 2 (some .int) ∈ am_ws := am_in4 220 rfl rfl
set_option maxRecDepth 20000 in
theorem kw_509 : Cond.methodLink "TokenMouthModel" 216 ⟨"TokenMouthModel", "readName", "()I"⟩ ∈ am_ws := am_in4 217 rfl rfl
set_option maxRecDepth 20000 in
theorem kw_510 : Cond.instanceMethod ⟨"TokenMouthModel", "readName", "()I"⟩ ∈ am_ws := am_in4 219 rfl rfl
set_option maxRecDepth 20000 in
theorem kw_511 : Cond.selects "TokenMouthModel" ⟨"TokenMouthModel", "readName", "()I"⟩ ⟨"TokenMouthModel", "readName", "()I"⟩ ∈ am_ws := am_inS 39 rfl rfl
set_option maxRecDepth 20000 in
theorem kw_512 : Cond.code ⟨"TokenMouthModel", "read", "()I"⟩ prog_8_method_14_code 5 (some .int) ∈ am_ws := am_in4 216 rfl rfl
set_option maxRecDepth 20000 in
theorem kw_513 : Cond.methodLink "TokenMouthModel" 220 ⟨"TokenMouthModel", "read", "()I"⟩ ∈ am_ws := am_in4 213 rfl rfl
set_option maxRecDepth 20000 in
theorem kw_514 : Cond.instanceMethod ⟨"TokenMouthModel", "read", "()I"⟩ ∈ am_ws := am_in4 215 rfl rfl
set_option maxRecDepth 20000 in
theorem kw_515 : Cond.selects "TokenMouthModel" ⟨"TokenMouthModel", "read", "()I"⟩ ⟨"TokenMouthModel", "read", "()I"⟩ ∈ am_ws := am_inS 38 rfl rfl
set_option maxRecDepth 20000 in
theorem kw_516 : Cond.code ⟨"TokenMouthModel", "get", "()I"⟩ prog_8_method_15_code 1 (some .int) ∈ am_ws := am_in4 212 rfl rfl
set_option maxRecDepth 20000 in
theorem kw_517 : Cond.methodLink "TokenMouthModel" 223 ⟨"TokenMouthModel", "get", "()I"⟩ ∈ am_ws := am_in4 209 rfl rfl
set_option maxRecDepth 20000 in
theorem kw_518 : Cond.instanceMethod ⟨"TokenMouthModel", "get", "()I"⟩ ∈ am_ws := am_in4 211 rfl rfl
set_option maxRecDepth 20000 in
theorem kw_519 : Cond.selects "TokenMouthModel" ⟨"TokenMouthModel", "get", "()I"⟩ ⟨"TokenMouthModel", "get", "()I"⟩ ∈ am_ws := am_inS 37 rfl rfl
set_option maxRecDepth 20000 in
theorem kw_520 : Cond.code ⟨"TokenMouthModel", "isName", "(I)Z"⟩ prog_8_method_18_code 1 (some .boolean) ∈ am_ws := am_in5 10 rfl rfl
set_option maxRecDepth 20000 in
theorem kw_521 : Cond.methodLink "TokenMouthModel" 226 ⟨"TokenMouthModel", "isName", "(I)Z"⟩ ∈ am_ws := am_in5 8 rfl rfl
set_option maxRecDepth 20000 in
theorem kw_522 : Cond.static ⟨"TokenMouthModel", "isName", "(I)Z"⟩ ∈ am_ws := am_in5 9 rfl rfl
set_option maxRecDepth 20000 in
theorem kw_523 : Cond.code ⟨"TokenMouthModel", "isMarked", "(I)Z"⟩ prog_8_method_19_code 1 (some .boolean) ∈ am_ws := am_in5 7 rfl rfl
set_option maxRecDepth 20000 in
theorem kw_524 : Cond.methodLink "TokenMouthModel" 229 ⟨"TokenMouthModel", "isMarked", "(I)Z"⟩ ∈ am_ws := am_in5 5 rfl rfl
set_option maxRecDepth 20000 in
theorem kw_525 : Cond.static ⟨"TokenMouthModel", "isMarked", "(I)Z"⟩ ∈ am_ws := am_in5 6 rfl rfl
set_option maxRecDepth 20000 in
theorem kw_526 : Cond.code ⟨"TokenMouthModel", "meaningOf", "(I)I"⟩ prog_8_method_22_code 2 (some .int) ∈ am_ws := am_in5 4 rfl rfl
set_option maxRecDepth 20000 in
theorem kw_527 : Cond.methodLink "TokenMouthModel" 232 ⟨"TokenMouthModel", "meaningOf", "(I)I"⟩ ∈ am_ws := am_in5 1 rfl rfl
set_option maxRecDepth 20000 in
theorem kw_528 : Cond.instanceMethod ⟨"TokenMouthModel", "meaningOf", "(I)I"⟩ ∈ am_ws := am_in5 3 rfl rfl
set_option maxRecDepth 20000 in
theorem kw_529 : Cond.selects "TokenMouthModel" ⟨"TokenMouthModel", "meaningOf", "(I)I"⟩ ⟨"TokenMouthModel", "meaningOf", "(I)I"⟩ ∈ am_ws := am_inS 45 rfl rfl
set_option maxRecDepth 20000 in
theorem kw_530 : Cond.code ⟨"TokenMouthModel", "plain", "(I)I"⟩ prog_8_method_20_code 1 (some .int) ∈ am_ws := am_in5 29 rfl rfl
set_option maxRecDepth 20000 in
theorem kw_531 : Cond.methodLink "TokenMouthModel" 235 ⟨"TokenMouthModel", "plain", "(I)I"⟩ ∈ am_ws := am_in5 27 rfl rfl
set_option maxRecDepth 20000 in
theorem kw_532 : Cond.static ⟨"TokenMouthModel", "plain", "(I)I"⟩ ∈ am_ws := am_in5 28 rfl rfl
set_option maxRecDepth 20000 in
theorem kw_533 : Cond.code ⟨"TokenMouthModel", "isCharacter", "(II)Z"⟩ prog_8_method_21_code 2 (some .boolean) ∈ am_ws := am_in5 40 rfl rfl
set_option maxRecDepth 20000 in
theorem kw_534 : Cond.methodLink "TokenMouthModel" 238 ⟨"TokenMouthModel", "isCharacter", "(II)Z"⟩ ∈ am_ws := am_in5 38 rfl rfl
set_option maxRecDepth 20000 in
theorem kw_535 : Cond.static ⟨"TokenMouthModel", "isCharacter", "(II)Z"⟩ ∈ am_ws := am_in5 39 rfl rfl
set_option maxRecDepth 20000 in
theorem kw_536 : Cond.code ⟨"TokenMouthModel", "piece", "(IIIIII)I"⟩ prog_8_method_27_code 9 (some .int) ∈ am_ws := am_in5 37 rfl rfl
set_option maxRecDepth 20000 in
theorem kw_537 : Cond.methodLink "TokenMouthModel" 242 ⟨"TokenMouthModel", "piece", "(IIIIII)I"⟩ ∈ am_ws := am_in5 34 rfl rfl
set_option maxRecDepth 20000 in
theorem kw_538 : Cond.instanceMethod ⟨"TokenMouthModel", "piece", "(IIIIII)I"⟩ ∈ am_ws := am_in5 36 rfl rfl
set_option maxRecDepth 20000 in
theorem kw_539 : Cond.selects "TokenMouthModel" ⟨"TokenMouthModel", "piece", "(IIIIII)I"⟩ ⟨"TokenMouthModel", "piece", "(IIIIII)I"⟩ ∈ am_ws := am_inS 51 rfl rfl
set_option maxRecDepth 20000 in
theorem kw_540 : Cond.code ⟨"TokenMouthModel", "add", "(II)V"⟩ prog_8_method_28_code 3 none ∈ am_ws := am_in5 44 rfl rfl
set_option maxRecDepth 20000 in
theorem kw_541 : Cond.methodLink "TokenMouthModel" 246 ⟨"TokenMouthModel", "add", "(II)V"⟩ ∈ am_ws := am_in5 41 rfl rfl
set_option maxRecDepth 20000 in
theorem kw_542 : Cond.instanceMethod ⟨"TokenMouthModel", "add", "(II)V"⟩ ∈ am_ws := am_in5 43 rfl rfl
set_option maxRecDepth 20000 in
theorem kw_543 : Cond.selects "TokenMouthModel" ⟨"TokenMouthModel", "add", "(II)V"⟩ ⟨"TokenMouthModel", "add", "(II)V"⟩ ∈ am_ws := am_inS 52 rfl rfl
set_option maxRecDepth 20000 in
theorem kw_544 : Cond.code ⟨"TokenMouthModel", "isBehind", "(IIII)Z"⟩ prog_8_method_26_code 8 (some .boolean) ∈ am_ws := am_in5 52 rfl rfl
set_option maxRecDepth 20000 in
theorem kw_545 : Cond.methodLink "TokenMouthModel" 250 ⟨"TokenMouthModel", "isBehind", "(IIII)Z"⟩ ∈ am_ws := am_in5 49 rfl rfl
set_option maxRecDepth 20000 in
theorem kw_546 : Cond.instanceMethod ⟨"TokenMouthModel", "isBehind", "(IIII)Z"⟩ ∈ am_ws := am_in5 51 rfl rfl
set_option maxRecDepth 20000 in
theorem kw_547 : Cond.selects "TokenMouthModel" ⟨"TokenMouthModel", "isBehind", "(IIII)Z"⟩ ⟨"TokenMouthModel", "isBehind", "(IIII)Z"⟩ ∈ am_ws := am_inS 54 rfl rfl
set_option maxRecDepth 20000 in
theorem kw_548 : Cond.code ⟨"TokenMouthModel", "need", "()I"⟩ prog_8_method_16_code 2 (some .int) ∈ am_ws := am_in5 26 rfl rfl
set_option maxRecDepth 20000 in
theorem kw_549 : Cond.methodLink "TokenMouthModel" 254 ⟨"TokenMouthModel", "need", "()I"⟩ ∈ am_ws := am_in5 23 rfl rfl
set_option maxRecDepth 20000 in
theorem kw_550 : Cond.instanceMethod ⟨"TokenMouthModel", "need", "()I"⟩ ∈ am_ws := am_in5 25 rfl rfl
set_option maxRecDepth 20000 in
theorem kw_551 : Cond.selects "TokenMouthModel" ⟨"TokenMouthModel", "need", "()I"⟩ ⟨"TokenMouthModel", "need", "()I"⟩ ∈ am_ws := am_inS 49 rfl rfl
set_option maxRecDepth 20000 in
theorem kw_552 : Cond.code ⟨"TokenMouthModel", "plainArgument", "(II)V"⟩ prog_8_method_29_code 7 none ∈ am_ws := am_in5 33 rfl rfl
set_option maxRecDepth 20000 in
theorem kw_553 : Cond.methodLink "TokenMouthModel" 257 ⟨"TokenMouthModel", "plainArgument", "(II)V"⟩ ∈ am_ws := am_in5 30 rfl rfl
set_option maxRecDepth 20000 in
theorem kw_554 : Cond.instanceMethod ⟨"TokenMouthModel", "plainArgument", "(II)V"⟩ ∈ am_ws := am_in5 32 rfl rfl
set_option maxRecDepth 20000 in
theorem kw_555 : Cond.selects "TokenMouthModel" ⟨"TokenMouthModel", "plainArgument", "(II)V"⟩ ⟨"TokenMouthModel", "plainArgument", "(II)V"⟩ ∈ am_ws := am_inS 50 rfl rfl
set_option maxRecDepth 20000 in
theorem kw_556 : Cond.code ⟨"TokenMouthModel", "longArgument", "(IIII)V"⟩ prog_8_method_30_code 11 none ∈ am_ws := am_in5 48 rfl rfl
set_option maxRecDepth 20000 in
theorem kw_557 : Cond.methodLink "TokenMouthModel" 260 ⟨"TokenMouthModel", "longArgument", "(IIII)V"⟩ ∈ am_ws := am_in5 45 rfl rfl
set_option maxRecDepth 20000 in
theorem kw_558 : Cond.instanceMethod ⟨"TokenMouthModel", "longArgument", "(IIII)V"⟩ ∈ am_ws := am_in5 47 rfl rfl
set_option maxRecDepth 20000 in
theorem kw_559 : Cond.selects "TokenMouthModel" ⟨"TokenMouthModel", "longArgument", "(IIII)V"⟩ ⟨"TokenMouthModel", "longArgument", "(IIII)V"⟩ ∈ am_ws := am_inS 53 rfl rfl
set_option maxRecDepth 20000 in
theorem kw_560 : Cond.code ⟨"TokenMouthModel", "putBack", "(I)V"⟩ prog_8_method_17_code 3 none ∈ am_ws := am_in5 56 rfl rfl
set_option maxRecDepth 20000 in
theorem kw_561 : Cond.methodLink "TokenMouthModel" 264 ⟨"TokenMouthModel", "putBack", "(I)V"⟩ ∈ am_ws := am_in5 53 rfl rfl
set_option maxRecDepth 20000 in
theorem kw_562 : Cond.instanceMethod ⟨"TokenMouthModel", "putBack", "(I)V"⟩ ∈ am_ws := am_in5 55 rfl rfl
set_option maxRecDepth 20000 in
theorem kw_563 : Cond.selects "TokenMouthModel" ⟨"TokenMouthModel", "putBack", "(I)V"⟩ ⟨"TokenMouthModel", "putBack", "(I)V"⟩ ∈ am_ws := am_inS 55 rfl rfl
set_option maxRecDepth 20000 in
theorem kw_564 : Cond.code ⟨"TokenMouthModel", "pass", "(Z)Z"⟩ prog_8_method_33_code 5 (some .boolean) ∈ am_ws := am_in5 75 rfl rfl
set_option maxRecDepth 20000 in
theorem kw_565 : Cond.methodLink "TokenMouthModel" 267 ⟨"TokenMouthModel", "pass", "(Z)Z"⟩ ∈ am_ws := am_in5 72 rfl rfl
set_option maxRecDepth 20000 in
theorem kw_566 : Cond.instanceMethod ⟨"TokenMouthModel", "pass", "(Z)Z"⟩ ∈ am_ws := am_in5 74 rfl rfl
set_option maxRecDepth 20000 in
theorem kw_567 : Cond.selects "TokenMouthModel" ⟨"TokenMouthModel", "pass", "(Z)Z"⟩ ⟨"TokenMouthModel", "pass", "(Z)Z"⟩ ∈ am_ws := am_inS 59 rfl rfl
set_option maxRecDepth 20000 in
theorem kw_568 : Cond.code ⟨"TokenMouthModel", "other", "(I)I"⟩ prog_8_method_36_code 1 (some .int) ∈ am_ws := am_in5 67 rfl rfl
set_option maxRecDepth 20000 in
theorem kw_569 : Cond.methodLink "TokenMouthModel" 271 ⟨"TokenMouthModel", "other", "(I)I"⟩ ∈ am_ws := am_in5 65 rfl rfl
set_option maxRecDepth 20000 in
theorem kw_570 : Cond.static ⟨"TokenMouthModel", "other", "(I)I"⟩ ∈ am_ws := am_in5 66 rfl rfl
set_option maxRecDepth 20000 in
theorem kw_571 : Cond.fieldLink "TokenMouthModel" 274 "TokenMouthModel" "expansions" "I" ∈ am_ws := am_in4 63 rfl rfl
set_option maxRecDepth 20000 in
theorem kw_572 : Cond.code ⟨"TokenMouthModel", "call", "(I)V"⟩ prog_8_method_31_code 7 none ∈ am_ws := am_in5 22 rfl rfl
set_option maxRecDepth 20000 in
theorem kw_573 : Cond.methodLink "TokenMouthModel" 277 ⟨"TokenMouthModel", "call", "(I)V"⟩ ∈ am_ws := am_in5 19 rfl rfl
set_option maxRecDepth 20000 in
theorem kw_574 : Cond.instanceMethod ⟨"TokenMouthModel", "call", "(I)V"⟩ ∈ am_ws := am_in5 21 rfl rfl
set_option maxRecDepth 20000 in
theorem kw_575 : Cond.selects "TokenMouthModel" ⟨"TokenMouthModel", "call", "(I)V"⟩ ⟨"TokenMouthModel", "call", "(I)V"⟩ ∈ am_ws := am_inS 48 rfl rfl
set_option maxRecDepth 20000 in
theorem kw_576 : Cond.code ⟨"TokenMouthModel", "isExpandable", "(I)Z"⟩ prog_8_method_23_code 3 (some .boolean) ∈ am_ws := am_in5 0 rfl rfl
set_option maxRecDepth 20000 in
theorem kw_577 : Cond.methodLink "TokenMouthModel" 280 ⟨"TokenMouthModel", "isExpandable", "(I)Z"⟩ ∈ am_ws := am_in4 237 rfl rfl
set_option maxRecDepth 20000 in
theorem kw_578 : Cond.instanceMethod ⟨"TokenMouthModel", "isExpandable", "(I)Z"⟩ ∈ am_ws := am_in4 239 rfl rfl
set_option maxRecDepth 20000 in
theorem kw_579 : Cond.selects "TokenMouthModel" ⟨"TokenMouthModel", "isExpandable", "(I)Z"⟩ ⟨"TokenMouthModel", "isExpandable", "(I)Z"⟩ ∈ am_ws := am_inS 44 rfl rfl
set_option maxRecDepth 20000 in
theorem kw_580 : Cond.code ⟨"TokenMouthModel", "push", "(III)V"⟩ prog_8_method_38_code 4 none ∈ am_ws := am_in5 60 rfl rfl
set_option maxRecDepth 20000 in
theorem kw_581 : Cond.methodLink "TokenMouthModel" 283 ⟨"TokenMouthModel", "push", "(III)V"⟩ ∈ am_ws := am_in5 57 rfl rfl
set_option maxRecDepth 20000 in
theorem kw_582 : Cond.instanceMethod ⟨"TokenMouthModel", "push", "(III)V"⟩ ∈ am_ws := am_in5 59 rfl rfl
set_option maxRecDepth 20000 in
theorem kw_583 : Cond.selects "TokenMouthModel" ⟨"TokenMouthModel", "push", "(III)V"⟩ ⟨"TokenMouthModel", "push", "(III)V"⟩ ∈ am_ws := am_inS 56 rfl rfl
set_option maxRecDepth 20000 in
theorem kw_584 : Cond.code ⟨"TokenMouthModel", "string", "(I)V"⟩ prog_8_method_37_code 4 none ∈ am_ws := am_in5 64 rfl rfl
set_option maxRecDepth 20000 in
theorem kw_585 : Cond.methodLink "TokenMouthModel" 287 ⟨"TokenMouthModel", "string", "(I)V"⟩ ∈ am_ws := am_in5 61 rfl rfl
set_option maxRecDepth 20000 in
theorem kw_586 : Cond.instanceMethod ⟨"TokenMouthModel", "string", "(I)V"⟩ ∈ am_ws := am_in5 63 rfl rfl
set_option maxRecDepth 20000 in
theorem kw_587 : Cond.selects "TokenMouthModel" ⟨"TokenMouthModel", "string", "(I)V"⟩ ⟨"TokenMouthModel", "string", "(I)V"⟩ ∈ am_ws := am_inS 57 rfl rfl
set_option maxRecDepth 20000 in
theorem kw_588 : Cond.code ⟨"TokenMouthModel", "close", "(I)V"⟩ prog_8_method_40_code 4 none ∈ am_ws := am_in5 71 rfl rfl
set_option maxRecDepth 20000 in
theorem kw_589 : Cond.methodLink "TokenMouthModel" 290 ⟨"TokenMouthModel", "close", "(I)V"⟩ ∈ am_ws := am_in5 68 rfl rfl
set_option maxRecDepth 20000 in
theorem kw_590 : Cond.instanceMethod ⟨"TokenMouthModel", "close", "(I)V"⟩ ∈ am_ws := am_in5 70 rfl rfl
set_option maxRecDepth 20000 in
theorem kw_591 : Cond.selects "TokenMouthModel" ⟨"TokenMouthModel", "close", "(I)V"⟩ ⟨"TokenMouthModel", "close", "(I)V"⟩ ∈ am_ws := am_inS 58 rfl rfl
set_option maxRecDepth 20000 in
theorem kw_592 : Cond.code ⟨"TokenMouthModel", "open", "()V"⟩ prog_8_method_32_code 2 none ∈ am_ws := am_in5 79 rfl rfl
set_option maxRecDepth 20000 in
theorem kw_593 : Cond.methodLink "TokenMouthModel" 293 ⟨"TokenMouthModel", "open", "()V"⟩ ∈ am_ws := am_in5 76 rfl rfl
set_option maxRecDepth 20000 in
theorem kw_594 : Cond.instanceMethod ⟨"TokenMouthModel", "open", "()V"⟩ ∈ am_ws := am_in5 78 rfl rfl
set_option maxRecDepth 20000 in
theorem kw_595 : Cond.selects "TokenMouthModel" ⟨"TokenMouthModel", "open", "()V"⟩ ⟨"TokenMouthModel", "open", "()V"⟩ ∈ am_ws := am_inS 60 rfl rfl
set_option maxRecDepth 20000 in
theorem kw_596 : Cond.code ⟨"TokenMouthModel", "test", "(I)V"⟩ prog_8_method_41_code 5 none ∈ am_ws := am_in5 83 rfl rfl
set_option maxRecDepth 20000 in
theorem kw_597 : Cond.methodLink "TokenMouthModel" 296 ⟨"TokenMouthModel", "test", "(I)V"⟩ ∈ am_ws := am_in5 80 rfl rfl
set_option maxRecDepth 20000 in
theorem kw_598 : Cond.instanceMethod ⟨"TokenMouthModel", "test", "(I)V"⟩ ∈ am_ws := am_in5 82 rfl rfl
set_option maxRecDepth 20000 in
theorem kw_599 : Cond.selects "TokenMouthModel" ⟨"TokenMouthModel", "test", "(I)V"⟩ ⟨"TokenMouthModel", "test", "(I)V"⟩ ∈ am_ws := am_inS 61 rfl rfl
set_option maxRecDepth 20000 in
theorem kw_600 : Cond.code ⟨"TokenMouthModel", "alike", "(II)Z"⟩ prog_8_method_35_code 7 (some .boolean) ∈ am_ws := am_in5 87 rfl rfl
set_option maxRecDepth 20000 in
theorem kw_601 : Cond.methodLink "TokenMouthModel" 299 ⟨"TokenMouthModel", "alike", "(II)Z"⟩ ∈ am_ws := am_in5 84 rfl rfl
set_option maxRecDepth 20000 in
theorem kw_602 : Cond.instanceMethod ⟨"TokenMouthModel", "alike", "(II)Z"⟩ ∈ am_ws := am_in5 86 rfl rfl
set_option maxRecDepth 20000 in
theorem kw_603 : Cond.selects "TokenMouthModel" ⟨"TokenMouthModel", "alike", "(II)Z"⟩ ⟨"TokenMouthModel", "alike", "(II)Z"⟩ ∈ am_ws := am_inS 62 rfl rfl
set_option maxRecDepth 20000 in
theorem kw_604 : Cond.code ⟨"TokenMouthModel", "decide", "(IZ)V"⟩ prog_8_method_34_code 3 none ∈ am_ws := am_in5 91 rfl rfl
set_option maxRecDepth 20000 in
theorem kw_605 : Cond.methodLink "TokenMouthModel" 302 ⟨"TokenMouthModel", "decide", "(IZ)V"⟩ ∈ am_ws := am_in5 88 rfl rfl
set_option maxRecDepth 20000 in
theorem kw_606 : Cond.instanceMethod ⟨"TokenMouthModel", "decide", "(IZ)V"⟩ ∈ am_ws := am_in5 90 rfl rfl
set_option maxRecDepth 20000 in
theorem kw_607 : Cond.selects "TokenMouthModel" ⟨"TokenMouthModel", "decide", "(IZ)V"⟩ ⟨"TokenMouthModel", "decide", "(IZ)V"⟩ ∈ am_ws := am_inS 63 rfl rfl
set_option maxRecDepth 20000 in
theorem kw_608 : Cond.code ⟨"TokenMouthModel", "spelled", "(I)V"⟩ prog_8_method_43_code 3 none ∈ am_ws := am_in5 99 rfl rfl
set_option maxRecDepth 20000 in
theorem kw_609 : Cond.methodLink "TokenMouthModel" 306 ⟨"TokenMouthModel", "spelled", "(I)V"⟩ ∈ am_ws := am_in5 96 rfl rfl
set_option maxRecDepth 20000 in
theorem kw_610 : Cond.instanceMethod ⟨"TokenMouthModel", "spelled", "(I)V"⟩ ∈ am_ws := am_in5 98 rfl rfl
set_option maxRecDepth 20000 in
theorem kw_611 : Cond.selects "TokenMouthModel" ⟨"TokenMouthModel", "spelled", "(I)V"⟩ ⟨"TokenMouthModel", "spelled", "(I)V"⟩ ∈ am_ws := am_inS 65 rfl rfl
set_option maxRecDepth 20000 in
theorem kw_612 : Cond.code ⟨"TokenMouthModel", "change", "(II)V"⟩ prog_8_method_24_code 5 none ∈ am_ws := am_in5 103 rfl rfl
set_option maxRecDepth 20000 in
theorem kw_613 : Cond.methodLink "TokenMouthModel" 309 ⟨"TokenMouthModel", "change", "(II)V"⟩ ∈ am_ws := am_in5 100 rfl rfl
set_option maxRecDepth 20000 in
theorem kw_614 : Cond.instanceMethod ⟨"TokenMouthModel", "change", "(II)V"⟩ ∈ am_ws := am_in5 102 rfl rfl
set_option maxRecDepth 20000 in
theorem kw_615 : Cond.selects "TokenMouthModel" ⟨"TokenMouthModel", "change", "(II)V"⟩ ⟨"TokenMouthModel", "change", "(II)V"⟩ ∈ am_ws := am_inS 66 rfl rfl
set_option maxRecDepth 20000 in
theorem kw_616 : Cond.code ⟨"TokenMouthModel", "begin", "(I)I"⟩ prog_8_method_39_code 5 (some .int) ∈ am_ws := am_in5 18 rfl rfl
set_option maxRecDepth 20000 in
theorem kw_617 : Cond.methodLink "TokenMouthModel" 312 ⟨"TokenMouthModel", "begin", "(I)I"⟩ ∈ am_ws := am_in5 15 rfl rfl
set_option maxRecDepth 20000 in
theorem kw_618 : Cond.instanceMethod ⟨"TokenMouthModel", "begin", "(I)I"⟩ ∈ am_ws := am_in5 17 rfl rfl
set_option maxRecDepth 20000 in
theorem kw_619 : Cond.selects "TokenMouthModel" ⟨"TokenMouthModel", "begin", "(I)I"⟩ ⟨"TokenMouthModel", "begin", "(I)I"⟩ ∈ am_ws := am_inS 47 rfl rfl
set_option maxRecDepth 20000 in
theorem kw_620 : Cond.code ⟨"TokenMouthModel", "goOn", "()I"⟩ prog_8_method_42_code 5 (some .int) ∈ am_ws := am_in5 95 rfl rfl
set_option maxRecDepth 20000 in
theorem kw_621 : Cond.methodLink "TokenMouthModel" 315 ⟨"TokenMouthModel", "goOn", "()I"⟩ ∈ am_ws := am_in5 92 rfl rfl
set_option maxRecDepth 20000 in
theorem kw_622 : Cond.instanceMethod ⟨"TokenMouthModel", "goOn", "()I"⟩ ∈ am_ws := am_in5 94 rfl rfl
set_option maxRecDepth 20000 in
theorem kw_623 : Cond.selects "TokenMouthModel" ⟨"TokenMouthModel", "goOn", "()I"⟩ ⟨"TokenMouthModel", "goOn", "()I"⟩ ∈ am_ws := am_inS 64 rfl rfl
set_option maxRecDepth 20000 in
theorem kw_624 : Cond.code ⟨"TokenMouthModel", "expand", "(I)V"⟩ prog_8_method_44_code 4 none ∈ am_ws := am_in5 14 rfl rfl
set_option maxRecDepth 20000 in
theorem kw_625 : Cond.methodLink "TokenMouthModel" 318 ⟨"TokenMouthModel", "expand", "(I)V"⟩ ∈ am_ws := am_in5 11 rfl rfl
set_option maxRecDepth 20000 in
theorem kw_626 : Cond.instanceMethod ⟨"TokenMouthModel", "expand", "(I)V"⟩ ∈ am_ws := am_in5 13 rfl rfl
set_option maxRecDepth 20000 in
theorem kw_627 : Cond.selects "TokenMouthModel" ⟨"TokenMouthModel", "expand", "(I)V"⟩ ⟨"TokenMouthModel", "expand", "(I)V"⟩ ∈ am_ws := am_inS 46 rfl rfl
set_option maxRecDepth 20000 in
theorem kw_628 : Cond.code ⟨"TokenMouthModel", "needExpanded", "()I"⟩ prog_8_method_45_code 2 (some .int) ∈ am_ws := am_in5 146 rfl rfl
set_option maxRecDepth 20000 in
theorem kw_629 : Cond.methodLink "TokenMouthModel" 321 ⟨"TokenMouthModel", "needExpanded", "()I"⟩ ∈ am_ws := am_in5 143 rfl rfl
set_option maxRecDepth 20000 in
theorem kw_630 : Cond.instanceMethod ⟨"TokenMouthModel", "needExpanded", "()I"⟩ ∈ am_ws := am_in5 145 rfl rfl
set_option maxRecDepth 20000 in
theorem kw_631 : Cond.selects "TokenMouthModel" ⟨"TokenMouthModel", "needExpanded", "()I"⟩ ⟨"TokenMouthModel", "needExpanded", "()I"⟩ ∈ am_ws := am_inS 76 rfl rfl
set_option maxRecDepth 20000 in
theorem kw_632 : Cond.code ⟨"TokenMouthModel", "needName", "()I"⟩ prog_8_method_46_code 2 (some .int) ∈ am_ws := am_in5 123 rfl rfl
set_option maxRecDepth 20000 in
theorem kw_633 : Cond.methodLink "TokenMouthModel" 324 ⟨"TokenMouthModel", "needName", "()I"⟩ ∈ am_ws := am_in5 120 rfl rfl
set_option maxRecDepth 20000 in
theorem kw_634 : Cond.instanceMethod ⟨"TokenMouthModel", "needName", "()I"⟩ ∈ am_ws := am_in5 122 rfl rfl
set_option maxRecDepth 20000 in
theorem kw_635 : Cond.selects "TokenMouthModel" ⟨"TokenMouthModel", "needName", "()I"⟩ ⟨"TokenMouthModel", "needName", "()I"⟩ ∈ am_ws := am_inS 71 rfl rfl
set_option maxRecDepth 20000 in
theorem kw_636 : Cond.code ⟨"TokenMouthModel", "readText", "()Z"⟩ prog_8_method_47_code 4 (some .boolean) ∈ am_ws := am_in5 138 rfl rfl
set_option maxRecDepth 20000 in
theorem kw_637 : Cond.methodLink "TokenMouthModel" 327 ⟨"TokenMouthModel", "readText", "()Z"⟩ ∈ am_ws := am_in5 135 rfl rfl
set_option maxRecDepth 20000 in
theorem kw_638 : Cond.instanceMethod ⟨"TokenMouthModel", "readText", "()Z"⟩ ∈ am_ws := am_in5 137 rfl rfl
set_option maxRecDepth 20000 in
theorem kw_639 : Cond.selects "TokenMouthModel" ⟨"TokenMouthModel", "readText", "()Z"⟩ ⟨"TokenMouthModel", "readText", "()Z"⟩ ∈ am_ws := am_inS 74 rfl rfl
set_option maxRecDepth 20000 in
theorem kw_640 : Cond.code ⟨"TokenMouthModel", "readBody", "(Z)Z"⟩ prog_8_method_48_code 7 (some .boolean) ∈ am_ws := am_in5 142 rfl rfl
set_option maxRecDepth 20000 in
theorem kw_641 : Cond.methodLink "TokenMouthModel" 331 ⟨"TokenMouthModel", "readBody", "(Z)Z"⟩ ∈ am_ws := am_in5 139 rfl rfl
set_option maxRecDepth 20000 in
theorem kw_642 : Cond.instanceMethod ⟨"TokenMouthModel", "readBody", "(Z)Z"⟩ ∈ am_ws := am_in5 141 rfl rfl
set_option maxRecDepth 20000 in
theorem kw_643 : Cond.selects "TokenMouthModel" ⟨"TokenMouthModel", "readBody", "(Z)Z"⟩ ⟨"TokenMouthModel", "readBody", "(Z)Z"⟩ ∈ am_ws := am_inS 75 rfl rfl
set_option maxRecDepth 20000 in
theorem kw_644 : Cond.code ⟨"TokenMouthModel", "digit", "(I)I"⟩ prog_8_method_51_code 1 (some .int) ∈ am_ws := am_in5 130 rfl rfl
set_option maxRecDepth 20000 in
theorem kw_645 : Cond.methodLink "TokenMouthModel" 334 ⟨"TokenMouthModel", "digit", "(I)I"⟩ ∈ am_ws := am_in5 128 rfl rfl
set_option maxRecDepth 20000 in
theorem kw_646 : Cond.static ⟨"TokenMouthModel", "digit", "(I)I"⟩ ∈ am_ws := am_in5 129 rfl rfl
set_option maxRecDepth 20000 in
theorem kw_647 : Cond.code ⟨"TokenMouthModel", "closeGroup", "()V"⟩ prog_8_method_25_code 2 none ∈ am_ws := am_in5 111 rfl rfl
set_option maxRecDepth 20000 in
theorem kw_648 : Cond.methodLink "TokenMouthModel" 337 ⟨"TokenMouthModel", "closeGroup", "()V"⟩ ∈ am_ws := am_in5 108 rfl rfl
set_option maxRecDepth 20000 in
theorem kw_649 : Cond.instanceMethod ⟨"TokenMouthModel", "closeGroup", "()V"⟩ ∈ am_ws := am_in5 110 rfl rfl
set_option maxRecDepth 20000 in
theorem kw_650 : Cond.selects "TokenMouthModel" ⟨"TokenMouthModel", "closeGroup", "()V"⟩ ⟨"TokenMouthModel", "closeGroup", "()V"⟩ ∈ am_ws := am_inS 68 rfl rfl
set_option maxRecDepth 20000 in
theorem kw_651 : Cond.code ⟨"TokenMouthModel", "send", "(I)V"⟩ prog_8_method_53_code 3 none ∈ am_ws := am_in5 115 rfl rfl
set_option maxRecDepth 20000 in
theorem kw_652 : Cond.methodLink "TokenMouthModel" 340 ⟨"TokenMouthModel", "send", "(I)V"⟩ ∈ am_ws := am_in5 112 rfl rfl
set_option maxRecDepth 20000 in
theorem kw_653 : Cond.instanceMethod ⟨"TokenMouthModel", "send", "(I)V"⟩ ∈ am_ws := am_in5 114 rfl rfl
set_option maxRecDepth 20000 in
theorem kw_654 : Cond.selects "TokenMouthModel" ⟨"TokenMouthModel", "send", "(I)V"⟩ ⟨"TokenMouthModel", "send", "(I)V"⟩ ∈ am_ws := am_inS 69 rfl rfl
set_option maxRecDepth 20000 in
theorem kw_655 : Cond.code ⟨"TokenMouthModel", "let", "()V"⟩ prog_8_method_50_code 3 none ∈ am_ws := am_in5 119 rfl rfl
set_option maxRecDepth 20000 in
theorem kw_656 : Cond.methodLink "TokenMouthModel" 343 ⟨"TokenMouthModel", "let", "()V"⟩ ∈ am_ws := am_in5 116 rfl rfl
set_option maxRecDepth 20000 in
theorem kw_657 : Cond.instanceMethod ⟨"TokenMouthModel", "let", "()V"⟩ ∈ am_ws := am_in5 118 rfl rfl
set_option maxRecDepth 20000 in
theorem kw_658 : Cond.selects "TokenMouthModel" ⟨"TokenMouthModel", "let", "()V"⟩ ⟨"TokenMouthModel", "let", "()V"⟩ ∈ am_ws := am_inS 70 rfl rfl
set_option maxRecDepth 20000 in
theorem kw_659 : Cond.code ⟨"TokenMouthModel", "catcode", "()V"⟩ prog_8_method_52_code 8 none ∈ am_ws := am_in5 127 rfl rfl
set_option maxRecDepth 20000 in
theorem kw_660 : Cond.methodLink "TokenMouthModel" 346 ⟨"TokenMouthModel", "catcode", "()V"⟩ ∈ am_ws := am_in5 124 rfl rfl
set_option maxRecDepth 20000 in
theorem kw_661 : Cond.instanceMethod ⟨"TokenMouthModel", "catcode", "()V"⟩ ∈ am_ws := am_in5 126 rfl rfl
set_option maxRecDepth 20000 in
theorem kw_662 : Cond.selects "TokenMouthModel" ⟨"TokenMouthModel", "catcode", "()V"⟩ ⟨"TokenMouthModel", "catcode", "()V"⟩ ∈ am_ws := am_inS 72 rfl rfl
set_option maxRecDepth 20000 in
theorem kw_663 : Cond.code ⟨"TokenMouthModel", "define", "(I)V"⟩ prog_8_method_49_code 5 none ∈ am_ws := am_in5 134 rfl rfl
set_option maxRecDepth 20000 in
theorem kw_664 : Cond.methodLink "TokenMouthModel" 349 ⟨"TokenMouthModel", "define", "(I)V"⟩ ∈ am_ws := am_in5 131 rfl rfl
set_option maxRecDepth 20000 in
theorem kw_665 : Cond.instanceMethod ⟨"TokenMouthModel", "define", "(I)V"⟩ ∈ am_ws := am_in5 133 rfl rfl
set_option maxRecDepth 20000 in
theorem kw_666 : Cond.selects "TokenMouthModel" ⟨"TokenMouthModel", "define", "(I)V"⟩ ⟨"TokenMouthModel", "define", "(I)V"⟩ ∈ am_ws := am_inS 73 rfl rfl
set_option maxRecDepth 20000 in
theorem kw_667 : Cond.code ⟨"TokenMouthModel", "act", "(I)V"⟩ prog_8_method_54_code 5 none ∈ am_ws := am_in5 107 rfl rfl
set_option maxRecDepth 20000 in
theorem kw_668 : Cond.methodLink "TokenMouthModel" 352 ⟨"TokenMouthModel", "act", "(I)V"⟩ ∈ am_ws := am_in5 104 rfl rfl
set_option maxRecDepth 20000 in
theorem kw_669 : Cond.instanceMethod ⟨"TokenMouthModel", "act", "(I)V"⟩ ∈ am_ws := am_in5 106 rfl rfl
set_option maxRecDepth 20000 in
theorem kw_670 : Cond.selects "TokenMouthModel" ⟨"TokenMouthModel", "act", "(I)V"⟩ ⟨"TokenMouthModel", "act", "(I)V"⟩ ∈ am_ws := am_inS 67 rfl rfl
set_option maxRecDepth 20000 in
theorem kw_671 : Cond.code ⟨"TokenMouthModel", "step", "()Z"⟩ prog_8_method_55_code 2 (some .boolean) ∈ am_ws := am_in4 208 rfl rfl
set_option maxRecDepth 20000 in
theorem kw_672 : Cond.methodLink "TokenMouthModel" 355 ⟨"TokenMouthModel", "step", "()Z"⟩ ∈ am_ws := am_in4 205 rfl rfl
set_option maxRecDepth 20000 in
theorem kw_673 : Cond.instanceMethod ⟨"TokenMouthModel", "step", "()Z"⟩ ∈ am_ws := am_in4 207 rfl rfl
set_option maxRecDepth 20000 in
theorem kw_674 : Cond.selects "TokenMouthModel" ⟨"TokenMouthModel", "step", "()Z"⟩ ⟨"TokenMouthModel", "step", "()Z"⟩ ∈ am_ws := am_inS 36 rfl rfl
set_option maxRecDepth 20000 in
theorem kw_675 : Cond.code ⟨"TokenMouthModel", "fails", "()I"⟩ prog_8_method_57_code 1 (some .int) ∈ am_ws := am_in5 154 rfl rfl
set_option maxRecDepth 20000 in
theorem kw_676 : Cond.methodLink "TokenMouthModel" 358 ⟨"TokenMouthModel", "fails", "()I"⟩ ∈ am_ws := am_in5 151 rfl rfl
set_option maxRecDepth 20000 in
theorem kw_677 : Cond.instanceMethod ⟨"TokenMouthModel", "fails", "()I"⟩ ∈ am_ws := am_in5 153 rfl rfl
set_option maxRecDepth 20000 in
theorem kw_678 : Cond.selects "TokenMouthModel" ⟨"TokenMouthModel", "fails", "()I"⟩ ⟨"TokenMouthModel", "fails", "()I"⟩ ∈ am_ws := am_inS 77 rfl rfl
set_option maxRecDepth 20000 in
theorem kw_679 : Cond.code ⟨"TokenMouthModel", "lookUp", "(JZ)I"⟩ prog_8_method_62_code 7 (some .int) ∈ am_ws := am_in5 174 rfl rfl
set_option maxRecDepth 20000 in
theorem kw_680 : Cond.methodLink "TokenMouthModel" 361 ⟨"TokenMouthModel", "lookUp", "(JZ)I"⟩ ∈ am_ws := am_in5 171 rfl rfl
set_option maxRecDepth 20000 in
theorem kw_681 : Cond.instanceMethod ⟨"TokenMouthModel", "lookUp", "(JZ)I"⟩ ∈ am_ws := am_in5 173 rfl rfl
set_option maxRecDepth 20000 in
theorem kw_682 : Cond.selects "TokenMouthModel" ⟨"TokenMouthModel", "lookUp", "(JZ)I"⟩ ⟨"TokenMouthModel", "lookUp", "(JZ)I"⟩ ∈ am_ws := am_inS 78 rfl rfl
set_option maxRecDepth 20000 in
theorem kw_683 : Cond.code ⟨"TokenMouth", "run", "(I)I"⟩ prog_1_method_5_code 4 (some .int) ∈ am_ws := am_in2 59 rfl rfl
set_option maxRecDepth 20000 in
theorem kw_684 : Cond.code ⟨"TokenMouth", "fault", "(I)I"⟩ prog_1_method_6_code 2 (some .int) ∈ am_ws := am_in3 176 rfl rfl
set_option maxRecDepth 20000 in
theorem kw_685 : Cond.code ⟨"TokenMouth", "out", "(I)I"⟩ prog_1_method_7_code 3 (some .int) ∈ am_ws := am_in3 199 rfl rfl
set_option maxRecDepth 20000 in
theorem kw_686 : Cond.code ⟨"TokenMouth", "count", "(I)I"⟩ prog_1_method_8_code 2 (some .int) ∈ am_ws := am_in3 207 rfl rfl
set_option maxRecDepth 20000 in
theorem kw_687 : Cond.code ⟨"TokenMouth", "category", "(I)I"⟩ prog_1_method_9_code 2 (some .int) ∈ am_ws := am_in3 215 rfl rfl
set_option maxRecDepth 20000 in
theorem kw_688 : Cond.code ⟨"TokenMouth", "meaning", "(JZ)I"⟩ prog_1_method_10_code 5 (some .int) ∈ am_ws := am_in3 224 rfl rfl
set_option maxRecDepth 20000 in
theorem kw_689 : Cond.code ⟨"TokenMouth", "detail", "(JZI)I"⟩ prog_1_method_11_code 8 (some .int) ∈ am_ws := am_in4 13 rfl rfl
set_option maxRecDepth 20000 in
theorem kw_690 : Cond.classLink "TokenMouthLaw" 8 "TokenMouth" ∈ am_ws := am_in1 22 rfl rfl
set_option maxRecDepth 20000 in
theorem kw_691 : Cond.instantiable "TokenMouth" 14 ∈ am_ws := am_in1 23 rfl rfl
set_option maxRecDepth 20000 in
theorem kw_692 : Cond.code ⟨"TokenMouth", "<init>", "()V"⟩ prog_1_method_1_code 2 none ∈ am_ws := am_in1 26 rfl rfl
set_option maxRecDepth 20000 in
theorem kw_693 : Cond.methodLink "TokenMouthLaw" 41 ⟨"TokenMouth", "<init>", "()V"⟩ ∈ am_ws := am_in1 24 rfl rfl
set_option maxRecDepth 20000 in
theorem kw_694 : Cond.instanceMethod ⟨"TokenMouth", "<init>", "()V"⟩ ∈ am_ws := am_in1 25 rfl rfl
set_option maxRecDepth 20000 in
theorem kw_695 : Cond.classLink "TokenMouthLaw" 42 "TokenMouthModel" ∈ am_ws := am_in4 14 rfl rfl
set_option maxRecDepth 20000 in
theorem kw_696 : Cond.instantiable "TokenMouthModel" 41 ∈ am_ws := am_in4 15 rfl rfl
set_option maxRecDepth 20000 in
theorem kw_697 : Cond.code ⟨"TokenMouthModel", "<init>", "()V"⟩ prog_8_method_1_code 1 none ∈ am_ws := am_in4 18 rfl rfl
set_option maxRecDepth 20000 in
theorem kw_698 : Cond.methodLink "TokenMouthLaw" 44 ⟨"TokenMouthModel", "<init>", "()V"⟩ ∈ am_ws := am_in4 16 rfl rfl
set_option maxRecDepth 20000 in
theorem kw_699 : Cond.instanceMethod ⟨"TokenMouthModel", "<init>", "()V"⟩ ∈ am_ws := am_in4 17 rfl rfl
set_option maxRecDepth 20000 in
theorem kw_700 : Cond.constantLong "TokenMouthLaw" 45 4294967295 ∈ am_ws := am_in5 179 rfl rfl
set_option maxRecDepth 20000 in
theorem kw_701 : Cond.code ⟨"TokenMouth", "type", "(J)Z"⟩ prog_1_method_2_code 3 (some .boolean) ∈ am_ws := am_in2 13 rfl rfl
set_option maxRecDepth 20000 in
theorem kw_702 : Cond.methodLink "TokenMouthLaw" 47 ⟨"TokenMouth", "type", "(J)Z"⟩ ∈ am_ws := am_in2 10 rfl rfl
set_option maxRecDepth 20000 in
theorem kw_703 : Cond.instanceMethod ⟨"TokenMouth", "type", "(J)Z"⟩ ∈ am_ws := am_in2 11 rfl rfl
set_option maxRecDepth 20000 in
theorem kw_704 : Cond.selects "TokenMouth" ⟨"TokenMouth", "type", "(J)Z"⟩ ⟨"TokenMouth", "type", "(J)Z"⟩ ∈ am_ws := am_in2 12 rfl rfl
set_option maxRecDepth 20000 in
theorem kw_705 : Cond.code ⟨"TokenMouthModel", "type", "(J)Z"⟩ prog_8_method_6_code 7 (some .boolean) ∈ am_ws := am_in4 188 rfl rfl
set_option maxRecDepth 20000 in
theorem kw_706 : Cond.methodLink "TokenMouthLaw" 51 ⟨"TokenMouthModel", "type", "(J)Z"⟩ ∈ am_ws := am_in4 185 rfl rfl
set_option maxRecDepth 20000 in
theorem kw_707 : Cond.instanceMethod ⟨"TokenMouthModel", "type", "(J)Z"⟩ ∈ am_ws := am_in4 186 rfl rfl
set_option maxRecDepth 20000 in
theorem kw_708 : Cond.selects "TokenMouthModel" ⟨"TokenMouthModel", "type", "(J)Z"⟩ ⟨"TokenMouthModel", "type", "(J)Z"⟩ ∈ am_ws := am_in4 187 rfl rfl
set_option maxRecDepth 20000 in
theorem kw_709 : Cond.code ⟨"TokenMouth", "wipe", "()V"⟩ prog_1_method_3_code 1 none ∈ am_ws := am_in2 27 rfl rfl
set_option maxRecDepth 20000 in
theorem kw_710 : Cond.methodLink "TokenMouthLaw" 52 ⟨"TokenMouth", "wipe", "()V"⟩ ∈ am_ws := am_in2 24 rfl rfl
set_option maxRecDepth 20000 in
theorem kw_711 : Cond.instanceMethod ⟨"TokenMouth", "wipe", "()V"⟩ ∈ am_ws := am_in2 25 rfl rfl
set_option maxRecDepth 20000 in
theorem kw_712 : Cond.selects "TokenMouth" ⟨"TokenMouth", "wipe", "()V"⟩ ⟨"TokenMouth", "wipe", "()V"⟩ ∈ am_ws := am_in2 26 rfl rfl
set_option maxRecDepth 20000 in
theorem kw_713 : Cond.code ⟨"TokenMouthModel", "wipe", "()V"⟩ prog_8_method_7_code 1 none ∈ am_ws := am_in4 196 rfl rfl
set_option maxRecDepth 20000 in
theorem kw_714 : Cond.methodLink "TokenMouthLaw" 55 ⟨"TokenMouthModel", "wipe", "()V"⟩ ∈ am_ws := am_in4 193 rfl rfl
set_option maxRecDepth 20000 in
theorem kw_715 : Cond.instanceMethod ⟨"TokenMouthModel", "wipe", "()V"⟩ ∈ am_ws := am_in4 194 rfl rfl
set_option maxRecDepth 20000 in
theorem kw_716 : Cond.selects "TokenMouthModel" ⟨"TokenMouthModel", "wipe", "()V"⟩ ⟨"TokenMouthModel", "wipe", "()V"⟩ ∈ am_ws := am_in4 195 rfl rfl
set_option maxRecDepth 20000 in
theorem kw_717 : Cond.code ⟨"TokenMouth", "again", "()V"⟩ prog_1_method_4_code 1 none ∈ am_ws := am_in2 50 rfl rfl
set_option maxRecDepth 20000 in
theorem kw_718 : Cond.methodLink "TokenMouthLaw" 56 ⟨"TokenMouth", "again", "()V"⟩ ∈ am_ws := am_in2 47 rfl rfl
set_option maxRecDepth 20000 in
theorem kw_719 : Cond.instanceMethod ⟨"TokenMouth", "again", "()V"⟩ ∈ am_ws := am_in2 48 rfl rfl
set_option maxRecDepth 20000 in
theorem kw_720 : Cond.selects "TokenMouth" ⟨"TokenMouth", "again", "()V"⟩ ⟨"TokenMouth", "again", "()V"⟩ ∈ am_ws := am_in2 49 rfl rfl
set_option maxRecDepth 20000 in
theorem kw_721 : Cond.code ⟨"TokenMouthModel", "again", "()V"⟩ prog_8_method_8_code 1 none ∈ am_ws := am_in4 200 rfl rfl
set_option maxRecDepth 20000 in
theorem kw_722 : Cond.methodLink "TokenMouthLaw" 59 ⟨"TokenMouthModel", "again", "()V"⟩ ∈ am_ws := am_in4 197 rfl rfl
set_option maxRecDepth 20000 in
theorem kw_723 : Cond.instanceMethod ⟨"TokenMouthModel", "again", "()V"⟩ ∈ am_ws := am_in4 198 rfl rfl
set_option maxRecDepth 20000 in
theorem kw_724 : Cond.selects "TokenMouthModel" ⟨"TokenMouthModel", "again", "()V"⟩ ⟨"TokenMouthModel", "again", "()V"⟩ ∈ am_ws := am_in4 199 rfl rfl
set_option maxRecDepth 20000 in
theorem kw_725 : Cond.codeWith ⟨"TokenMouthLaw", "run", "(LTokenMouth;I[J)I"⟩ method_3_code 4 (some .int) [(0, 9, 12, 13), (0, 9, 15, 15)] ∈ am_ws := am_in2 53 rfl rfl
set_option maxRecDepth 20000 in
theorem kw_726 : Cond.initialized "TokenMouthLaw" ∈ am_ws := am_in1 0 rfl rfl
set_option maxRecDepth 20000 in
theorem kw_727 : Cond.methodLink "TokenMouthLaw" 60 ⟨"TokenMouthLaw", "run", "(LTokenMouth;I[J)I"⟩ ∈ am_ws := am_in2 51 rfl rfl
set_option maxRecDepth 20000 in
theorem kw_728 : Cond.static ⟨"TokenMouthLaw", "run", "(LTokenMouth;I[J)I"⟩ ∈ am_ws := am_in2 52 rfl rfl
set_option maxRecDepth 20000 in
theorem kw_729 : Cond.code ⟨"TokenMouthModel", "run", "(I)I"⟩ prog_8_method_56_code 3 (some .int) ∈ am_ws := am_in4 204 rfl rfl
set_option maxRecDepth 20000 in
theorem kw_730 : Cond.methodLink "TokenMouthLaw" 65 ⟨"TokenMouthModel", "run", "(I)I"⟩ ∈ am_ws := am_in4 201 rfl rfl
set_option maxRecDepth 20000 in
theorem kw_731 : Cond.instanceMethod ⟨"TokenMouthModel", "run", "(I)I"⟩ ∈ am_ws := am_in4 202 rfl rfl
set_option maxRecDepth 20000 in
theorem kw_732 : Cond.selects "TokenMouthModel" ⟨"TokenMouthModel", "run", "(I)I"⟩ ⟨"TokenMouthModel", "run", "(I)I"⟩ ∈ am_ws := am_in4 203 rfl rfl
set_option maxRecDepth 20000 in
theorem kw_733 : Cond.code ⟨"TokenMouthModel", "thrown", "()I"⟩ prog_8_method_4_code 1 (some .int) ∈ am_ws := am_in4 184 rfl rfl
set_option maxRecDepth 20000 in
theorem kw_734 : Cond.methodLink "TokenMouthLaw" 66 ⟨"TokenMouthModel", "thrown", "()I"⟩ ∈ am_ws := am_in4 181 rfl rfl
set_option maxRecDepth 20000 in
theorem kw_735 : Cond.instanceMethod ⟨"TokenMouthModel", "thrown", "()I"⟩ ∈ am_ws := am_in4 182 rfl rfl
set_option maxRecDepth 20000 in
theorem kw_736 : Cond.selects "TokenMouthModel" ⟨"TokenMouthModel", "thrown", "()I"⟩ ⟨"TokenMouthModel", "thrown", "()I"⟩ ∈ am_ws := am_in4 183 rfl rfl
set_option maxRecDepth 20000 in
theorem kw_737 : Cond.codeWith ⟨"TokenMouthLaw", "fault", "(LTokenMouth;I[J)I"⟩ method_4_code 4 (some .int) [(0, 9, 12, 20)] ∈ am_ws := am_in3 171 rfl rfl
set_option maxRecDepth 20000 in
theorem kw_738 : Cond.methodLink "TokenMouthLaw" 70 ⟨"TokenMouthLaw", "fault", "(LTokenMouth;I[J)I"⟩ ∈ am_ws := am_in3 169 rfl rfl
set_option maxRecDepth 20000 in
theorem kw_739 : Cond.static ⟨"TokenMouthLaw", "fault", "(LTokenMouth;I[J)I"⟩ ∈ am_ws := am_in3 170 rfl rfl
set_option maxRecDepth 20000 in
theorem kw_740 : Cond.code ⟨"TokenMouthModel", "fault", "(I)I"⟩ prog_8_method_58_code 2 (some .int) ∈ am_ws := am_in5 150 rfl rfl
set_option maxRecDepth 20000 in
theorem kw_741 : Cond.methodLink "TokenMouthLaw" 72 ⟨"TokenMouthModel", "fault", "(I)I"⟩ ∈ am_ws := am_in5 147 rfl rfl
set_option maxRecDepth 20000 in
theorem kw_742 : Cond.instanceMethod ⟨"TokenMouthModel", "fault", "(I)I"⟩ ∈ am_ws := am_in5 148 rfl rfl
set_option maxRecDepth 20000 in
theorem kw_743 : Cond.selects "TokenMouthModel" ⟨"TokenMouthModel", "fault", "(I)I"⟩ ⟨"TokenMouthModel", "fault", "(I)I"⟩ ∈ am_ws := am_in5 149 rfl rfl
set_option maxRecDepth 20000 in
theorem kw_744 : Cond.codeWith ⟨"TokenMouthLaw", "out", "(LTokenMouth;I[J)I"⟩ method_5_code 4 (some .int) [(0, 9, 12, 20)] ∈ am_ws := am_in3 195 rfl rfl
set_option maxRecDepth 20000 in
theorem kw_745 : Cond.methodLink "TokenMouthLaw" 73 ⟨"TokenMouthLaw", "out", "(LTokenMouth;I[J)I"⟩ ∈ am_ws := am_in3 193 rfl rfl
set_option maxRecDepth 20000 in
theorem kw_746 : Cond.static ⟨"TokenMouthLaw", "out", "(LTokenMouth;I[J)I"⟩ ∈ am_ws := am_in3 194 rfl rfl
set_option maxRecDepth 20000 in
theorem kw_747 : Cond.code ⟨"TokenMouthModel", "out", "(I)I"⟩ prog_8_method_59_code 2 (some .int) ∈ am_ws := am_in5 158 rfl rfl
set_option maxRecDepth 20000 in
theorem kw_748 : Cond.methodLink "TokenMouthLaw" 75 ⟨"TokenMouthModel", "out", "(I)I"⟩ ∈ am_ws := am_in5 155 rfl rfl
set_option maxRecDepth 20000 in
theorem kw_749 : Cond.instanceMethod ⟨"TokenMouthModel", "out", "(I)I"⟩ ∈ am_ws := am_in5 156 rfl rfl
set_option maxRecDepth 20000 in
theorem kw_750 : Cond.selects "TokenMouthModel" ⟨"TokenMouthModel", "out", "(I)I"⟩ ⟨"TokenMouthModel", "out", "(I)I"⟩ ∈ am_ws := am_in5 157 rfl rfl
set_option maxRecDepth 20000 in
theorem kw_751 : Cond.codeWith ⟨"TokenMouthLaw", "count", "(LTokenMouth;I[J)I"⟩ method_6_code 4 (some .int) [(0, 9, 12, 20)] ∈ am_ws := am_in3 203 rfl rfl
set_option maxRecDepth 20000 in
theorem kw_752 : Cond.methodLink "TokenMouthLaw" 76 ⟨"TokenMouthLaw", "count", "(LTokenMouth;I[J)I"⟩ ∈ am_ws := am_in3 201 rfl rfl
set_option maxRecDepth 20000 in
theorem kw_753 : Cond.static ⟨"TokenMouthLaw", "count", "(LTokenMouth;I[J)I"⟩ ∈ am_ws := am_in3 202 rfl rfl
set_option maxRecDepth 20000 in
theorem kw_754 : Cond.code ⟨"TokenMouthModel", "count", "(I)I"⟩ prog_8_method_60_code 2 (some .int) ∈ am_ws := am_in5 162 rfl rfl
set_option maxRecDepth 20000 in
theorem kw_755 : Cond.methodLink "TokenMouthLaw" 78 ⟨"TokenMouthModel", "count", "(I)I"⟩ ∈ am_ws := am_in5 159 rfl rfl
set_option maxRecDepth 20000 in
theorem kw_756 : Cond.instanceMethod ⟨"TokenMouthModel", "count", "(I)I"⟩ ∈ am_ws := am_in5 160 rfl rfl
set_option maxRecDepth 20000 in
theorem kw_757 : Cond.selects "TokenMouthModel" ⟨"TokenMouthModel", "count", "(I)I"⟩ ⟨"TokenMouthModel", "count", "(I)I"⟩ ∈ am_ws := am_in5 161 rfl rfl
set_option maxRecDepth 20000 in
theorem kw_758 : Cond.codeWith ⟨"TokenMouthLaw", "category", "(LTokenMouth;I[J)I"⟩ method_7_code 4 (some .int) [(0, 9, 12, 20)] ∈ am_ws := am_in3 211 rfl rfl
set_option maxRecDepth 20000 in
theorem kw_759 : Cond.methodLink "TokenMouthLaw" 79 ⟨"TokenMouthLaw", "category", "(LTokenMouth;I[J)I"⟩ ∈ am_ws := am_in3 209 rfl rfl
set_option maxRecDepth 20000 in
theorem kw_760 : Cond.static ⟨"TokenMouthLaw", "category", "(LTokenMouth;I[J)I"⟩ ∈ am_ws := am_in3 210 rfl rfl
set_option maxRecDepth 20000 in
theorem kw_761 : Cond.code ⟨"TokenMouthModel", "category", "(I)I"⟩ prog_8_method_61_code 2 (some .int) ∈ am_ws := am_in5 166 rfl rfl
set_option maxRecDepth 20000 in
theorem kw_762 : Cond.methodLink "TokenMouthLaw" 81 ⟨"TokenMouthModel", "category", "(I)I"⟩ ∈ am_ws := am_in5 163 rfl rfl
set_option maxRecDepth 20000 in
theorem kw_763 : Cond.instanceMethod ⟨"TokenMouthModel", "category", "(I)I"⟩ ∈ am_ws := am_in5 164 rfl rfl
set_option maxRecDepth 20000 in
theorem kw_764 : Cond.selects "TokenMouthModel" ⟨"TokenMouthModel", "category", "(I)I"⟩ ⟨"TokenMouthModel", "category", "(I)I"⟩ ∈ am_ws := am_in5 165 rfl rfl
set_option maxRecDepth 20000 in
theorem kw_765 : Cond.codeWith ⟨"TokenMouthLaw", "meaning", "(LTokenMouth;JZ[J)I"⟩ method_8_code 6 (some .int) [(0, 11, 14, 35)] ∈ am_ws := am_in3 219 rfl rfl
set_option maxRecDepth 20000 in
theorem kw_766 : Cond.methodLink "TokenMouthLaw" 82 ⟨"TokenMouthLaw", "meaning", "(LTokenMouth;JZ[J)I"⟩ ∈ am_ws := am_in3 217 rfl rfl
set_option maxRecDepth 20000 in
theorem kw_767 : Cond.static ⟨"TokenMouthLaw", "meaning", "(LTokenMouth;JZ[J)I"⟩ ∈ am_ws := am_in3 218 rfl rfl
set_option maxRecDepth 20000 in
theorem kw_768 : Cond.code ⟨"TokenMouthModel", "meaning", "(JZ)I"⟩ prog_8_method_63_code 5 (some .int) ∈ am_ws := am_in5 170 rfl rfl
set_option maxRecDepth 20000 in
theorem kw_769 : Cond.methodLink "TokenMouthLaw" 85 ⟨"TokenMouthModel", "meaning", "(JZ)I"⟩ ∈ am_ws := am_in5 167 rfl rfl
set_option maxRecDepth 20000 in
theorem kw_770 : Cond.instanceMethod ⟨"TokenMouthModel", "meaning", "(JZ)I"⟩ ∈ am_ws := am_in5 168 rfl rfl
set_option maxRecDepth 20000 in
theorem kw_771 : Cond.selects "TokenMouthModel" ⟨"TokenMouthModel", "meaning", "(JZ)I"⟩ ⟨"TokenMouthModel", "meaning", "(JZ)I"⟩ ∈ am_ws := am_in5 169 rfl rfl
set_option maxRecDepth 20000 in
theorem kw_772 : Cond.codeWith ⟨"TokenMouthLaw", "detail", "(LTokenMouth;JZI[J)I"⟩ method_9_code 7 (some .int) [(0, 13, 16, 35)] ∈ am_ws := am_in4 9 rfl rfl
set_option maxRecDepth 20000 in
theorem kw_773 : Cond.methodLink "TokenMouthLaw" 86 ⟨"TokenMouthLaw", "detail", "(LTokenMouth;JZI[J)I"⟩ ∈ am_ws := am_in4 7 rfl rfl
set_option maxRecDepth 20000 in
theorem kw_774 : Cond.static ⟨"TokenMouthLaw", "detail", "(LTokenMouth;JZI[J)I"⟩ ∈ am_ws := am_in4 8 rfl rfl
set_option maxRecDepth 20000 in
theorem kw_775 : Cond.code ⟨"TokenMouthModel", "detail", "(JZI)I"⟩ prog_8_method_64_code 9 (some .int) ∈ am_ws := am_in5 178 rfl rfl
set_option maxRecDepth 20000 in
theorem kw_776 : Cond.methodLink "TokenMouthLaw" 89 ⟨"TokenMouthModel", "detail", "(JZI)I"⟩ ∈ am_ws := am_in5 175 rfl rfl
set_option maxRecDepth 20000 in
theorem kw_777 : Cond.instanceMethod ⟨"TokenMouthModel", "detail", "(JZI)I"⟩ ∈ am_ws := am_in5 176 rfl rfl
set_option maxRecDepth 20000 in
theorem kw_778 : Cond.selects "TokenMouthModel" ⟨"TokenMouthModel", "detail", "(JZI)I"⟩ ⟨"TokenMouthModel", "detail", "(JZI)I"⟩ ∈ am_ws := am_in5 177 rfl rfl
set_option maxRecDepth 20000 in
theorem kw_779 : Cond.fieldLink "java/lang/String" 9 "java/lang/String" "value" "[B" ∈ am_ws := am_in5 181 rfl rfl
set_option maxRecDepth 20000 in
theorem kw_780 : Cond.code ⟨"java/lang/String", "coder", "()B"⟩ prog_15_method_152_code 1 (some .byte) ∈ am_ws := am_in1 87 rfl rfl
set_option maxRecDepth 20000 in
theorem kw_781 : Cond.methodLink "java/lang/String" 335 ⟨"java/lang/String", "coder", "()B"⟩ ∈ am_ws := am_in1 84 rfl rfl
set_option maxRecDepth 20000 in
theorem kw_782 : Cond.instanceMethod ⟨"java/lang/String", "coder", "()B"⟩ ∈ am_ws := am_in1 85 rfl rfl
set_option maxRecDepth 20000 in
theorem kw_783 : Cond.selects "java/lang/String" ⟨"java/lang/String", "coder", "()B"⟩ ⟨"java/lang/String", "coder", "()B"⟩ ∈ am_ws := am_in1 86 rfl rfl
set_option maxRecDepth 20000 in
theorem kw_784 : Cond.code ⟨"java/lang/String", "isLatin1", "()Z"⟩ prog_15_method_154_code 1 (some .boolean) ∈ am_ws := am_in1 97 rfl rfl
set_option maxRecDepth 20000 in
theorem kw_785 : Cond.methodLink "java/lang/String" 492 ⟨"java/lang/String", "isLatin1", "()Z"⟩ ∈ am_ws := am_in1 94 rfl rfl
set_option maxRecDepth 20000 in
theorem kw_786 : Cond.instanceMethod ⟨"java/lang/String", "isLatin1", "()Z"⟩ ∈ am_ws := am_in1 95 rfl rfl
set_option maxRecDepth 20000 in
theorem kw_787 : Cond.selects "java/lang/String" ⟨"java/lang/String", "isLatin1", "()Z"⟩ ⟨"java/lang/String", "isLatin1", "()Z"⟩ ∈ am_ws := am_in1 96 rfl rfl
set_option maxRecDepth 20000 in
theorem kw_788 : Cond.code ⟨"java/lang/StringLatin1", "charAt", "([BI)C"⟩ prog_16_method_2_code 2 (some .char) ∈ am_ws := am_in1 100 rfl rfl
set_option maxRecDepth 20000 in
theorem kw_789 : Cond.initialized "java/lang/StringLatin1" ∈ am_ws := am_in1 6 rfl rfl
set_option maxRecDepth 20000 in
theorem kw_790 : Cond.methodLink "java/lang/String" 495 ⟨"java/lang/StringLatin1", "charAt", "([BI)C"⟩ ∈ am_ws := am_in1 98 rfl rfl
set_option maxRecDepth 20000 in
theorem kw_791 : Cond.static ⟨"java/lang/StringLatin1", "charAt", "([BI)C"⟩ ∈ am_ws := am_in1 99 rfl rfl
set_option maxRecDepth 20000 in
theorem kw_792 : Cond.fieldLink "java/lang/String" 38 "java/lang/String" "COMPACT_STRINGS" "Z" ∈ am_ws := am_in1 88 rfl rfl
set_option maxRecDepth 20000 in
theorem kw_793 : Cond.fieldLink "java/lang/String" 15 "java/lang/String" "coder" "B" ∈ am_ws := am_in5 182 rfl rfl
set_option maxRecDepth 20000 in
theorem kw_794 : Cond.fieldLink "java/lang/String" 1053 "jdk/internal/util/Preconditions" "SIOOBE_FORMATTER" "Ljava/util/function/BiFunction;" ∈ am_ws := am_in1 104 rfl rfl
set_option maxRecDepth 20000 in
theorem kw_795 : Cond.code ⟨"jdk/internal/util/Preconditions", "checkIndex", "(IILjava/util/function/BiFunction;)I"⟩ prog_22_method_11_code 3 (some .int) ∈ am_ws := am_in1 108 rfl rfl
set_option maxRecDepth 20000 in
theorem kw_796 : Cond.initialized "jdk/internal/util/Preconditions" ∈ am_ws := am_in1 7 rfl rfl
set_option maxRecDepth 20000 in
theorem kw_797 : Cond.methodLink "java/lang/String" 1059 ⟨"jdk/internal/util/Preconditions", "checkIndex", "(IILjava/util/function/BiFunction;)I"⟩ ∈ am_ws := am_in1 106 rfl rfl
set_option maxRecDepth 20000 in
theorem kw_798 : Cond.static ⟨"jdk/internal/util/Preconditions", "checkIndex", "(IILjava/util/function/BiFunction;)I"⟩ ∈ am_ws := am_in1 107 rfl rfl
set_option maxRecDepth 20000 in
theorem kw_799 : Cond.code ⟨"java/lang/String", "checkIndex", "(II)V"⟩ prog_15_method_155_code 2 none ∈ am_ws := am_in1 103 rfl rfl
set_option maxRecDepth 20000 in
theorem kw_800 : Cond.initialized "java/lang/String" ∈ am_ws := am_in1 5 rfl rfl
set_option maxRecDepth 20000 in
theorem kw_801 : Cond.methodLink "java/lang/StringLatin1" 9 ⟨"java/lang/String", "checkIndex", "(II)V"⟩ ∈ am_ws := am_in1 101 rfl rfl
set_option maxRecDepth 20000 in
theorem kw_802 : Cond.static ⟨"java/lang/String", "checkIndex", "(II)V"⟩ ∈ am_ws := am_in1 102 rfl rfl
set_option maxRecDepth 20000 in
theorem kw_803 : Cond.classLink "TokenMouthLaw" 13 "java/lang/IllegalArgumentException" ∈ am_ws := am_in2 54 rfl rfl
set_option maxRecDepth 20000 in
theorem kw_804 : Cond.classLink "TokenMouthLaw" 15 "java/lang/IllegalStateException" ∈ am_ws := am_in2 55 rfl rfl
set_option maxRecDepth 20000 in
theorem kw_805 : Cond.methodLink "TokenMouthLaw" 7 ⟨"TokenMouth", "run", "(I)I"⟩ ∈ am_ws := am_in2 56 rfl rfl
set_option maxRecDepth 20000 in
theorem kw_806 : Cond.instanceMethod ⟨"TokenMouth", "run", "(I)I"⟩ ∈ am_ws := am_in2 57 rfl rfl
set_option maxRecDepth 20000 in
theorem kw_807 : Cond.selects "TokenMouth" ⟨"TokenMouth", "run", "(I)I"⟩ ⟨"TokenMouth", "run", "(I)I"⟩ ∈ am_ws := am_in2 58 rfl rfl
set_option maxRecDepth 20000 in
theorem kw_808 : Cond.classLink "TokenMouthLaw" 20 "java/lang/IndexOutOfBoundsException" ∈ am_ws := am_in3 172 rfl rfl
set_option maxRecDepth 20000 in
theorem kw_809 : Cond.methodLink "TokenMouthLaw" 17 ⟨"TokenMouth", "fault", "(I)I"⟩ ∈ am_ws := am_in3 173 rfl rfl
set_option maxRecDepth 20000 in
theorem kw_810 : Cond.instanceMethod ⟨"TokenMouth", "fault", "(I)I"⟩ ∈ am_ws := am_in3 174 rfl rfl
set_option maxRecDepth 20000 in
theorem kw_811 : Cond.selects "TokenMouth" ⟨"TokenMouth", "fault", "(I)I"⟩ ⟨"TokenMouth", "fault", "(I)I"⟩ ∈ am_ws := am_in3 175 rfl rfl
set_option maxRecDepth 20000 in
theorem kw_812 : Cond.methodLink "TokenMouthLaw" 22 ⟨"TokenMouth", "out", "(I)I"⟩ ∈ am_ws := am_in3 196 rfl rfl
set_option maxRecDepth 20000 in
theorem kw_813 : Cond.instanceMethod ⟨"TokenMouth", "out", "(I)I"⟩ ∈ am_ws := am_in3 197 rfl rfl
set_option maxRecDepth 20000 in
theorem kw_814 : Cond.selects "TokenMouth" ⟨"TokenMouth", "out", "(I)I"⟩ ⟨"TokenMouth", "out", "(I)I"⟩ ∈ am_ws := am_in3 198 rfl rfl
set_option maxRecDepth 20000 in
theorem kw_815 : Cond.methodLink "TokenMouthLaw" 25 ⟨"TokenMouth", "count", "(I)I"⟩ ∈ am_ws := am_in3 204 rfl rfl
set_option maxRecDepth 20000 in
theorem kw_816 : Cond.instanceMethod ⟨"TokenMouth", "count", "(I)I"⟩ ∈ am_ws := am_in3 205 rfl rfl
set_option maxRecDepth 20000 in
theorem kw_817 : Cond.selects "TokenMouth" ⟨"TokenMouth", "count", "(I)I"⟩ ⟨"TokenMouth", "count", "(I)I"⟩ ∈ am_ws := am_in3 206 rfl rfl
set_option maxRecDepth 20000 in
theorem kw_818 : Cond.methodLink "TokenMouthLaw" 28 ⟨"TokenMouth", "category", "(I)I"⟩ ∈ am_ws := am_in3 212 rfl rfl
set_option maxRecDepth 20000 in
theorem kw_819 : Cond.instanceMethod ⟨"TokenMouth", "category", "(I)I"⟩ ∈ am_ws := am_in3 213 rfl rfl
set_option maxRecDepth 20000 in
theorem kw_820 : Cond.selects "TokenMouth" ⟨"TokenMouth", "category", "(I)I"⟩ ⟨"TokenMouth", "category", "(I)I"⟩ ∈ am_ws := am_in3 214 rfl rfl
set_option maxRecDepth 20000 in
theorem kw_821 : Cond.classLink "TokenMouthLaw" 35 "java/util/NoSuchElementException" ∈ am_ws := am_in3 220 rfl rfl
set_option maxRecDepth 20000 in
theorem kw_822 : Cond.methodLink "TokenMouthLaw" 31 ⟨"TokenMouth", "meaning", "(JZ)I"⟩ ∈ am_ws := am_in3 221 rfl rfl
set_option maxRecDepth 20000 in
theorem kw_823 : Cond.instanceMethod ⟨"TokenMouth", "meaning", "(JZ)I"⟩ ∈ am_ws := am_in3 222 rfl rfl
set_option maxRecDepth 20000 in
theorem kw_824 : Cond.selects "TokenMouth" ⟨"TokenMouth", "meaning", "(JZ)I"⟩ ⟨"TokenMouth", "meaning", "(JZ)I"⟩ ∈ am_ws := am_in3 223 rfl rfl
set_option maxRecDepth 20000 in
theorem kw_825 : Cond.methodLink "TokenMouthLaw" 37 ⟨"TokenMouth", "detail", "(JZI)I"⟩ ∈ am_ws := am_in4 10 rfl rfl
set_option maxRecDepth 20000 in
theorem kw_826 : Cond.instanceMethod ⟨"TokenMouth", "detail", "(JZI)I"⟩ ∈ am_ws := am_in4 11 rfl rfl
set_option maxRecDepth 20000 in
theorem kw_827 : Cond.selects "TokenMouth" ⟨"TokenMouth", "detail", "(JZI)I"⟩ ⟨"TokenMouth", "detail", "(JZI)I"⟩ ∈ am_ws := am_in4 12 rfl rfl
