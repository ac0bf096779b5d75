theorem zzA0 : lw_tbl[724]? = some (Cond.methodLink "java/lang/StringLatin1" 92 ⟨"java/lang/Math", "max", "(II)I"⟩) := by decide +kernel
theorem zzA1 : lw_tbl[726]? = some (Cond.code ⟨"java/lang/Math", "max", "(II)I"⟩ prog_17_method_65_code 2 (some FieldType.int)) := by decide +kernel
theorem zzA2 : lw_tbl[727]? = some (Cond.methodLink "java/lang/StringLatin1" 38 ⟨"java/lang/Math", "min", "(II)I"⟩) := by decide +kernel
theorem zzA3 : lw_tbl[728]? = some (Cond.methodLink "java/lang/StringLatin1" 95 ⟨"java/lang/StringLatin1", "indexOfChar", "([BIII)I"⟩) := by decide +kernel
theorem zzA4 : lw_tbl[730]? = some (Cond.code ⟨"java/lang/StringLatin1", "indexOfChar", "([BIII)I"⟩ prog_19_method_23_code 6 (some FieldType.int)) := by decide +kernel
theorem zzA5 : lw_tbl[731]? = some (Cond.methodLink "java/lang/String" 640 ⟨"java/lang/StringUTF16", "indexOf", "([BIII)I"⟩) := by decide +kernel
theorem zzA6 : lw_tbl[733]? = some (Cond.code ⟨"java/lang/StringUTF16", "indexOf", "([BIII)I"⟩ prog_20_method_40_code 4 (some FieldType.int)) := by decide +kernel
theorem zzA7 : lw_tbl[734]? = some (Cond.methodLink "java/lang/StringUTF16" 224 ⟨"java/lang/Math", "max", "(II)I"⟩) := by decide +kernel
theorem zzA8 : lw_tbl[735]? = some (Cond.methodLink "java/lang/StringUTF16" 183 ⟨"java/lang/Math", "min", "(II)I"⟩) := by decide +kernel
theorem zzA9 : lw_tbl[737]? = some (Cond.methodLink "java/lang/StringUTF16" 228 ⟨"java/lang/StringUTF16", "indexOfChar", "([BIII)I"⟩) := by decide +kernel
theorem zzA10 : lw_tbl[739]? = some (Cond.code ⟨"java/lang/StringUTF16", "indexOfChar", "([BIII)I"⟩ prog_20_method_47_code 4 (some FieldType.int)) := by decide +kernel
theorem zzA11 : lw_tbl[740]? = some (Cond.methodLink "java/lang/StringUTF16" 96 ⟨"java/lang/StringUTF16", "checkBoundsBeginEnd", "(II[B)V"⟩) := by decide +kernel
theorem zzA12 : lw_tbl[742]? = some (Cond.code ⟨"java/lang/StringUTF16", "checkBoundsBeginEnd", "(II[B)V"⟩ prog_20_method_93_code 3 (none : Option FieldType)) := by decide +kernel
theorem zzA13 : lw_tbl[743]? = some (Cond.methodLink "java/lang/StringUTF16" 241 ⟨"java/lang/String", "checkBoundsBeginEnd", "(III)V"⟩) := by decide +kernel
theorem zzA14 : lw_tbl[745]? = some (Cond.code ⟨"java/lang/String", "checkBoundsBeginEnd", "(III)V"⟩ prog_18_method_158_code 3 (none : Option FieldType)) := by decide +kernel
theorem zzA15 : lw_tbl[746]? = some (Cond.methodLink "java/lang/String" 1062 ⟨"jdk/internal/util/Preconditions", "checkFromToIndex", "(IIILjava/util/function/BiFunction;)I"⟩) := by decide +kernel
theorem zzA16 : lw_tbl[748]? = some (Cond.code ⟨"jdk/internal/util/Preconditions", "checkFromToIndex", "(IIILjava/util/function/BiFunction;)I"⟩ prog_23_method_12_code 4 (some FieldType.int)) := by decide +kernel
theorem zzA17 : lw_tbl[749]? = some (Cond.methodLink "java/lang/StringUTF16" 244 ⟨"java/lang/StringUTF16", "indexOfCharUnsafe", "([BIII)I"⟩) := by decide +kernel
theorem zzA18 : lw_tbl[751]? = some (Cond.code ⟨"java/lang/StringUTF16", "indexOfCharUnsafe", "([BIII)I"⟩ prog_20_method_48_code 5 (some FieldType.int)) := by decide +kernel
theorem zzA19 : lw_tbl[752]? = some (Cond.methodLink "java/lang/StringUTF16" 232 ⟨"java/lang/StringUTF16", "indexOfSupplementary", "([BIII)I"⟩) := by decide +kernel
theorem zzA20 : lw_tbl[754]? = some (Cond.code ⟨"java/lang/StringUTF16", "indexOfSupplementary", "([BIII)I"⟩ prog_20_method_49_code 7 (some FieldType.int)) := by decide +kernel
theorem zzA21 : lw_tbl[755]? = some (Cond.methodLink "java/lang/StringUTF16" 164 ⟨"java/lang/Character", "isValidCodePoint", "(I)Z"⟩) := by decide +kernel
theorem zzA22 : lw_tbl[757]? = some (Cond.code ⟨"java/lang/Character", "isValidCodePoint", "(I)Z"⟩ prog_15_method_11_code 2 (some FieldType.boolean)) := by decide +kernel
theorem zzA23 : lw_tbl[758]? = some (Cond.methodLink "java/lang/StringUTF16" 157 ⟨"java/lang/Character", "highSurrogate", "(I)C"⟩) := by decide +kernel
theorem zzA24 : lw_tbl[760]? = some (Cond.code ⟨"java/lang/Character", "highSurrogate", "(I)C"⟩ prog_15_method_28_code 1 (some FieldType.char)) := by decide +kernel
theorem zzA25 : lw_tbl[762]? = some (Cond.methodLink "java/lang/StringUTF16" 161 ⟨"java/lang/Character", "lowSurrogate", "(I)C"⟩) := by decide +kernel
theorem zzA26 : lw_tbl[764]? = some (Cond.code ⟨"java/lang/Character", "lowSurrogate", "(I)C"⟩ prog_15_method_29_code 1 (some FieldType.char)) := by decide +kernel
theorem zzA27 : lw_tbl[766]? = some (Cond.methodLink "CageLift$Reader" 63 ⟨"CageLift$Reader", "readHead", "()Z"⟩) := by decide +kernel
theorem zzA28 : lw_tbl[769]? = some (Cond.code ⟨"CageLift$Reader", "readHead", "()Z"⟩ prog_9_method_4_code 1 (some FieldType.boolean)) := by decide +kernel
theorem zzA29 : lw_tbl[770]? = some (Cond.methodLink "CageLift$Reader" 70 ⟨"CageLift$Reader", "take", "(I)Z"⟩) := by decide +kernel
