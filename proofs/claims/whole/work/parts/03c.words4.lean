set_option maxRecDepth 20000 in
theorem wd2179 : Cond.static ⟨"CageLiftModel", "cutTo", "(JI)J"⟩ ∈ aj_TB := aj_memL (aj_t9 (List.mem_of_getElem? (i := 130) (by decide +kernel))) (by decide +kernel)
set_option maxRecDepth 20000 in
theorem wd2181 : Cond.methodLink "CageLiftLaw" 203 ⟨"CageLiftModel", "lists", "(I)I"⟩ ∈ aj_TB := aj_memL (aj_t9 (List.mem_of_getElem? (i := 132) (by decide +kernel))) (by decide +kernel)
set_option maxRecDepth 20000 in
theorem wd2184 : Cond.code ⟨"CageLiftModel", "lists", "(I)I"⟩ prog_14_method_137_code 6 (Option.some FieldType.int) ∈ aj_TB := aj_memL (aj_t9 (List.mem_of_getElem? (i := 135) (by decide +kernel))) (by decide +kernel)
set_option maxRecDepth 20000 in
theorem wd2182 : Cond.instanceMethod ⟨"CageLiftModel", "lists", "(I)I"⟩ ∈ aj_TB := aj_memL (aj_t9 (List.mem_of_getElem? (i := 133) (by decide +kernel))) (by decide +kernel)
set_option maxRecDepth 20000 in
theorem wd2183 : Cond.selects "CageLiftModel" ⟨"CageLiftModel", "lists", "(I)I"⟩ ⟨"CageLiftModel", "lists", "(I)I"⟩ ∈ aj_TB := aj_memL (aj_t9 (List.mem_of_getElem? (i := 134) (by decide +kernel))) (by decide +kernel)
set_option maxRecDepth 20000 in
theorem wd2185 : Cond.methodLink "CageLiftLaw" 207 ⟨"CageLiftModel", "image", "(I)I"⟩ ∈ aj_TB := aj_memL (aj_t9 (List.mem_of_getElem? (i := 136) (by decide +kernel))) (by decide +kernel)
set_option maxRecDepth 20000 in
theorem wd2188 : Cond.code ⟨"CageLiftModel", "image", "(I)I"⟩ prog_14_method_138_code 3 (Option.some FieldType.int) ∈ aj_TB := aj_memL (aj_t9 (List.mem_of_getElem? (i := 139) (by decide +kernel))) (by decide +kernel)
set_option maxRecDepth 20000 in
theorem wd2186 : Cond.instanceMethod ⟨"CageLiftModel", "image", "(I)I"⟩ ∈ aj_TB := aj_memL (aj_t9 (List.mem_of_getElem? (i := 137) (by decide +kernel))) (by decide +kernel)
set_option maxRecDepth 20000 in
theorem wd2187 : Cond.selects "CageLiftModel" ⟨"CageLiftModel", "image", "(I)I"⟩ ⟨"CageLiftModel", "image", "(I)I"⟩ ∈ aj_TB := aj_memL (aj_t9 (List.mem_of_getElem? (i := 138) (by decide +kernel))) (by decide +kernel)
set_option maxRecDepth 20000 in
theorem wd2189 : Cond.methodLink "CageLiftLaw" 211 ⟨"CageLiftModel", "restore", "(I)I"⟩ ∈ aj_TB := aj_memL (aj_t9 (List.mem_of_getElem? (i := 140) (by decide +kernel))) (by decide +kernel)
set_option maxRecDepth 20000 in
theorem wd2192 : Cond.code ⟨"CageLiftModel", "restore", "(I)I"⟩ prog_14_method_139_code 3 (Option.some FieldType.int) ∈ aj_TB := aj_memL (aj_t9 (List.mem_of_getElem? (i := 143) (by decide +kernel))) (by decide +kernel)
set_option maxRecDepth 20000 in
theorem wd2190 : Cond.instanceMethod ⟨"CageLiftModel", "restore", "(I)I"⟩ ∈ aj_TB := aj_memL (aj_t9 (List.mem_of_getElem? (i := 141) (by decide +kernel))) (by decide +kernel)
set_option maxRecDepth 20000 in
theorem wd2191 : Cond.selects "CageLiftModel" ⟨"CageLiftModel", "restore", "(I)I"⟩ ⟨"CageLiftModel", "restore", "(I)I"⟩ ∈ aj_TB := aj_memL (aj_t9 (List.mem_of_getElem? (i := 142) (by decide +kernel))) (by decide +kernel)
set_option maxRecDepth 20000 in
theorem wd2193 : Cond.methodLink "CageLiftLaw" 215 ⟨"CageLiftModel", "count", "(I)I"⟩ ∈ aj_TB := aj_memL (aj_t9 (List.mem_of_getElem? (i := 144) (by decide +kernel))) (by decide +kernel)
set_option maxRecDepth 20000 in
theorem wd2196 : Cond.code ⟨"CageLiftModel", "count", "(I)I"⟩ prog_14_method_140_code 2 (Option.some FieldType.int) ∈ aj_TB := aj_memL (aj_t9 (List.mem_of_getElem? (i := 147) (by decide +kernel))) (by decide +kernel)
set_option maxRecDepth 20000 in
theorem wd2194 : Cond.instanceMethod ⟨"CageLiftModel", "count", "(I)I"⟩ ∈ aj_TB := aj_memL (aj_t9 (List.mem_of_getElem? (i := 145) (by decide +kernel))) (by decide +kernel)
set_option maxRecDepth 20000 in
theorem wd2195 : Cond.selects "CageLiftModel" ⟨"CageLiftModel", "count", "(I)I"⟩ ⟨"CageLiftModel", "count", "(I)I"⟩ ∈ aj_TB := aj_memL (aj_t9 (List.mem_of_getElem? (i := 146) (by decide +kernel))) (by decide +kernel)
set_option maxRecDepth 20000 in
theorem wd2198 : Cond.fieldLink "java/lang/String" 9 "java/lang/String" "value" "[B" ∈ aj_TB := aj_memL (aj_t9 (List.mem_of_getElem? (i := 149) (by decide +kernel))) (by decide +kernel)
set_option maxRecDepth 20000 in
theorem wd2199 : Cond.fieldLink "java/lang/String" 15 "java/lang/String" "coder" "B" ∈ aj_TB := aj_memL (aj_t9 (List.mem_of_getElem? (i := 150) (by decide +kernel))) (by decide +kernel)
set_option maxRecDepth 20000 in
theorem wd668 : Cond.fieldLink "java/lang/String" 38 "java/lang/String" "COMPACT_STRINGS" "Z" ∈ aj_TB := aj_memL (aj_t3 (List.mem_of_getElem? (i := 59) (by decide +kernel))) (by decide +kernel)
set_option maxRecDepth 20000 in
theorem wd790 : Cond.fieldLink "CageLift$Group" 32 "CageLift$Group" "AXES" "[I" ∈ aj_TB := aj_memL (aj_t3 (List.mem_of_getElem? (i := 181) (by decide +kernel))) (by decide +kernel)
set_option maxRecDepth 20000 in
theorem wd684 : Cond.fieldLink "java/lang/String" 1053 "jdk/internal/util/Preconditions" "SIOOBE_FORMATTER" "Ljava/util/function/BiFunction;" ∈ aj_TB := aj_memL (aj_t3 (List.mem_of_getElem? (i := 75) (by decide +kernel))) (by decide +kernel)
set_option maxRecDepth 20000 in
theorem wd736 : Cond.constant "java/lang/StringUTF16" 227 (65536 : Int32) ∈ aj_TB := aj_memL (aj_t3 (List.mem_of_getElem? (i := 127) (by decide +kernel))) (by decide +kernel)
set_option maxRecDepth 20000 in
theorem wd761 : Cond.constant "java/lang/Character" 110 (55232 : Int32) ∈ aj_TB := aj_memL (aj_t3 (List.mem_of_getElem? (i := 152) (by decide +kernel))) (by decide +kernel)
set_option maxRecDepth 20000 in
theorem wd765 : Cond.constant "java/lang/Character" 76 (56320 : Int32) ∈ aj_TB := aj_memL (aj_t3 (List.mem_of_getElem? (i := 156) (by decide +kernel))) (by decide +kernel)
set_option maxRecDepth 20000 in
theorem wd1012 : Cond.constantLong "CageLift$Setting" 40 (10 : Int64) ∈ aj_TB := aj_memL (aj_t4 (List.mem_of_getElem? (i := 163) (by decide +kernel))) (by decide +kernel)
set_option maxRecDepth 20000 in
theorem wd1013 : Cond.constantLong "CageLift$Setting" 42 (19 : Int64) ∈ aj_TB := aj_memL (aj_t4 (List.mem_of_getElem? (i := 164) (by decide +kernel))) (by decide +kernel)
set_option maxRecDepth 20000 in
theorem wd1015 : Cond.constantLong "CageLift$Setting" 48 (100 : Int64) ∈ aj_TB := aj_memL (aj_t4 (List.mem_of_getElem? (i := 166) (by decide +kernel))) (by decide +kernel)
set_option maxRecDepth 20000 in
theorem wd1016 : Cond.constantLong "CageLift$Setting" 50 (111 : Int64) ∈ aj_TB := aj_memL (aj_t4 (List.mem_of_getElem? (i := 167) (by decide +kernel))) (by decide +kernel)
set_option maxRecDepth 20000 in
theorem wd1018 : Cond.constantLong "CageLift$Setting" 56 (1000 : Int64) ∈ aj_TB := aj_memL (aj_t4 (List.mem_of_getElem? (i := 169) (by decide +kernel))) (by decide +kernel)
set_option maxRecDepth 20000 in
theorem wd1019 : Cond.constantLong "CageLift$Setting" 58 (2199 : Int64) ∈ aj_TB := aj_memL (aj_t4 (List.mem_of_getElem? (i := 170) (by decide +kernel))) (by decide +kernel)
set_option maxRecDepth 20000 in
theorem wd1039 : Cond.constantLong "CageLift$Laws" 48 (-1000000 : Int64) ∈ aj_TB := aj_memL (aj_t4 (List.mem_of_getElem? (i := 190) (by decide +kernel))) (by decide +kernel)
set_option maxRecDepth 20000 in
theorem wd1040 : Cond.constantLong "CageLift$Laws" 50 (1000000 : Int64) ∈ aj_TB := aj_memL (aj_t4 (List.mem_of_getElem? (i := 191) (by decide +kernel))) (by decide +kernel)
set_option maxRecDepth 20000 in
theorem wd1069 : Cond.constant "CageLift$Network" 151 (1000000 : Int32) ∈ aj_TB := aj_memL (aj_t4 (List.mem_of_getElem? (i := 220) (by decide +kernel))) (by decide +kernel)
set_option maxRecDepth 20000 in
theorem wd1082 : Cond.constant "CageLift" 414 (1000000 : Int32) ∈ aj_TB := aj_memL (aj_t4 (List.mem_of_getElem? (i := 233) (by decide +kernel))) (by decide +kernel)
set_option maxRecDepth 20000 in
theorem wd1098 : Cond.constant "CageLift" 421 (1103515245 : Int32) ∈ aj_TB := aj_memL (aj_t5 (List.mem_of_getElem? (i := 9) (by decide +kernel))) (by decide +kernel)
set_option maxRecDepth 20000 in
theorem wd1131 : Cond.constantLong "CageLift$Network" 134 (-1 : Int64) ∈ aj_TB := aj_memL (aj_t5 (List.mem_of_getElem? (i := 42) (by decide +kernel))) (by decide +kernel)
set_option maxRecDepth 20000 in
theorem wd1219 : Cond.constantLong "CageLift$Rings" 70 (-1 : Int64) ∈ aj_TB := aj_memL (aj_t5 (List.mem_of_getElem? (i := 130) (by decide +kernel))) (by decide +kernel)
set_option maxRecDepth 20000 in
theorem wd1257 : Cond.constantLong "CageLift$Rings" 108 (2 : Int64) ∈ aj_TB := aj_memL (aj_t5 (List.mem_of_getElem? (i := 168) (by decide +kernel))) (by decide +kernel)
set_option maxRecDepth 20000 in
theorem wd1276 : Cond.constantLong "CageLift" 422 (2 : Int64) ∈ aj_TB := aj_memL (aj_t5 (List.mem_of_getElem? (i := 187) (by decide +kernel))) (by decide +kernel)
set_option maxRecDepth 20000 in
theorem wd1277 : Cond.constantLong "CageLift" 293 (-3 : Int64) ∈ aj_TB := aj_memL (aj_t5 (List.mem_of_getElem? (i := 188) (by decide +kernel))) (by decide +kernel)
set_option maxRecDepth 20000 in
theorem wd1282 : Cond.constantLong "CageLift" 298 (-1 : Int64) ∈ aj_TB := aj_memL (aj_t5 (List.mem_of_getElem? (i := 193) (by decide +kernel))) (by decide +kernel)
set_option maxRecDepth 20000 in
theorem wd1377 : Cond.constant "java/lang/Integer" 265 (1431655765 : Int32) ∈ aj_TB := aj_memL (aj_t6 (List.mem_of_getElem? (i := 48) (by decide +kernel))) (by decide +kernel)
set_option maxRecDepth 20000 in
theorem wd1378 : Cond.constant "java/lang/Integer" 266 (858993459 : Int32) ∈ aj_TB := aj_memL (aj_t6 (List.mem_of_getElem? (i := 49) (by decide +kernel))) (by decide +kernel)
set_option maxRecDepth 20000 in
theorem wd1379 : Cond.constant "java/lang/Integer" 267 (252645135 : Int32) ∈ aj_TB := aj_memL (aj_t6 (List.mem_of_getElem? (i := 50) (by decide +kernel))) (by decide +kernel)
set_option maxRecDepth 20000 in
theorem wd1400 : Cond.constantLong "CageLift" 424 (10000 : Int64) ∈ aj_TB := aj_memL (aj_t6 (List.mem_of_getElem? (i := 71) (by decide +kernel))) (by decide +kernel)
set_option maxRecDepth 20000 in
theorem wd1401 : Cond.constantLong "CageLift" 426 (100 : Int64) ∈ aj_TB := aj_memL (aj_t6 (List.mem_of_getElem? (i := 72) (by decide +kernel))) (by decide +kernel)
set_option maxRecDepth 20000 in
theorem wd1455 : Cond.constantLong "CageLift" 385 (-7 : Int64) ∈ aj_TB := aj_memL (aj_t6 (List.mem_of_getElem? (i := 126) (by decide +kernel))) (by decide +kernel)
set_option maxRecDepth 20000 in
theorem wd1728 : Cond.constantLong "CageLiftModel" 216 (4 : Int64) ∈ aj_TB := aj_memL (aj_t7 (List.mem_of_getElem? (i := 159) (by decide +kernel))) (by decide +kernel)
set_option maxRecDepth 20000 in
theorem wd1831 : Cond.constantLong "CageLiftModel" 304 (9 : Int64) ∈ aj_TB := aj_memL (aj_t8 (List.mem_of_getElem? (i := 22) (by decide +kernel))) (by decide +kernel)
set_option maxRecDepth 20000 in
theorem wd1836 : Cond.constantLong "CageLiftModel" 306 (10 : Int64) ∈ aj_TB := aj_memL (aj_t8 (List.mem_of_getElem? (i := 27) (by decide +kernel))) (by decide +kernel)
set_option maxRecDepth 20000 in
theorem wd1841 : Cond.constantLong "CageLiftModel" 328 (3 : Int64) ∈ aj_TB := aj_memL (aj_t8 (List.mem_of_getElem? (i := 32) (by decide +kernel))) (by decide +kernel)
set_option maxRecDepth 20000 in
theorem wd1854 : Cond.constantLong "CageLiftModel" 308 (19 : Int64) ∈ aj_TB := aj_memL (aj_t8 (List.mem_of_getElem? (i := 45) (by decide +kernel))) (by decide +kernel)
set_option maxRecDepth 20000 in
theorem wd1855 : Cond.constantLong "CageLiftModel" 310 (100 : Int64) ∈ aj_TB := aj_memL (aj_t8 (List.mem_of_getElem? (i := 46) (by decide +kernel))) (by decide +kernel)
set_option maxRecDepth 20000 in
theorem wd1856 : Cond.constantLong "CageLiftModel" 312 (111 : Int64) ∈ aj_TB := aj_memL (aj_t8 (List.mem_of_getElem? (i := 47) (by decide +kernel))) (by decide +kernel)
set_option maxRecDepth 20000 in
theorem wd1857 : Cond.constantLong "CageLiftModel" 314 (1000 : Int64) ∈ aj_TB := aj_memL (aj_t8 (List.mem_of_getElem? (i := 48) (by decide +kernel))) (by decide +kernel)
set_option maxRecDepth 20000 in
theorem wd1858 : Cond.constantLong "CageLiftModel" 316 (2199 : Int64) ∈ aj_TB := aj_memL (aj_t8 (List.mem_of_getElem? (i := 49) (by decide +kernel))) (by decide +kernel)
set_option maxRecDepth 20000 in
theorem wd1886 : Cond.constantLong "CageLiftModel" 246 (1000000 : Int64) ∈ aj_TB := aj_memL (aj_t8 (List.mem_of_getElem? (i := 77) (by decide +kernel))) (by decide +kernel)
set_option maxRecDepth 20000 in
theorem wd1887 : Cond.constantLong "CageLiftModel" 248 (-1000000 : Int64) ∈ aj_TB := aj_memL (aj_t8 (List.mem_of_getElem? (i := 78) (by decide +kernel))) (by decide +kernel)
set_option maxRecDepth 20000 in
theorem wd1900 : Cond.constant "CageLiftModel" 281 (268435456 : Int32) ∈ aj_TB := aj_memL (aj_t8 (List.mem_of_getElem? (i := 91) (by decide +kernel))) (by decide +kernel)
set_option maxRecDepth 20000 in
theorem wd1924 : Cond.constantLong "CageLiftModel" 355 (40 : Int64) ∈ aj_TB := aj_memL (aj_t8 (List.mem_of_getElem? (i := 115) (by decide +kernel))) (by decide +kernel)
set_option maxRecDepth 20000 in
theorem wd1933 : Cond.constant "CageLiftModel" 348 (1103515245 : Int32) ∈ aj_TB := aj_memL (aj_t8 (List.mem_of_getElem? (i := 124) (by decide +kernel))) (by decide +kernel)
set_option maxRecDepth 20000 in
theorem wd1982 : Cond.constantLong "CageLiftModel" 369 (99 : Int64) ∈ aj_TB := aj_memL (aj_t8 (List.mem_of_getElem? (i := 173) (by decide +kernel))) (by decide +kernel)
set_option maxRecDepth 20000 in
theorem wd2007 : Cond.constantLong "CageLiftModel" 383 (6 : Int64) ∈ aj_TB := aj_memL (aj_t8 (List.mem_of_getElem? (i := 198) (by decide +kernel))) (by decide +kernel)
set_option maxRecDepth 20000 in
theorem wd2023 : Cond.constantLong "CageLiftModel" 385 (2 : Int64) ∈ aj_TB := aj_memL (aj_t8 (List.mem_of_getElem? (i := 214) (by decide +kernel))) (by decide +kernel)
set_option maxRecDepth 20000 in
theorem wd2024 : Cond.constantLong "CageLiftModel" 387 (12 : Int64) ∈ aj_TB := aj_memL (aj_t8 (List.mem_of_getElem? (i := 215) (by decide +kernel))) (by decide +kernel)
set_option maxRecDepth 20000 in
theorem wd2028 : Cond.constantLong "CageLiftModel" 396 (-3 : Int64) ∈ aj_TB := aj_memL (aj_t8 (List.mem_of_getElem? (i := 219) (by decide +kernel))) (by decide +kernel)
set_option maxRecDepth 20000 in
theorem wd2033 : Cond.constantLong "CageLiftModel" 398 (-1 : Int64) ∈ aj_TB := aj_memL (aj_t8 (List.mem_of_getElem? (i := 224) (by decide +kernel))) (by decide +kernel)
set_option maxRecDepth 20000 in
theorem wd2093 : Cond.constantLong "CageLiftModel" 455 (8 : Int64) ∈ aj_TB := aj_memL (aj_t9 (List.mem_of_getElem? (i := 44) (by decide +kernel))) (by decide +kernel)
set_option maxRecDepth 20000 in
theorem wd2094 : Cond.constantLong "CageLiftModel" 457 (14 : Int64) ∈ aj_TB := aj_memL (aj_t9 (List.mem_of_getElem? (i := 45) (by decide +kernel))) (by decide +kernel)
set_option maxRecDepth 20000 in
theorem wd2130 : Cond.constantLong "CageLiftModel" 466 (10000 : Int64) ∈ aj_TB := aj_memL (aj_t9 (List.mem_of_getElem? (i := 81) (by decide +kernel))) (by decide +kernel)
set_option maxRecDepth 20000 in
theorem wd2147 : Cond.constantLong "CageLiftModel" 496 (60 : Int64) ∈ aj_TB := aj_memL (aj_t9 (List.mem_of_getElem? (i := 98) (by decide +kernel))) (by decide +kernel)
set_option maxRecDepth 20000 in
theorem wd2177 : Cond.constantLong "CageLiftModel" 505 (-7 : Int64) ∈ aj_TB := aj_memL (aj_t9 (List.mem_of_getElem? (i := 128) (by decide +kernel))) (by decide +kernel)
set_option maxRecDepth 20000 in
theorem wd2197 : Cond.constantLong "CageLiftLaw" 193 (4294967295 : Int64) ∈ aj_TB := aj_memL (aj_t9 (List.mem_of_getElem? (i := 148) (by decide +kernel))) (by decide +kernel)
