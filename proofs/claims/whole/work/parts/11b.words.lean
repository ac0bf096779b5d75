set_option maxRecDepth 20000 in
theorem wd342 : Cond.methodLink "CageLift$Setting" 3 ⟨"java/lang/Object", "<init>", "()V"⟩ ∈ aj_TB := aj_memL (aj_t1 (List.mem_of_getElem? (i := 213) (by decide +kernel))) (by decide +kernel)
set_option maxRecDepth 20000 in
theorem wd158 : Cond.instanceMethod ⟨"java/lang/Object", "<init>", "()V"⟩ ∈ aj_TB := aj_memL (aj_t1 (List.mem_of_getElem? (i := 29) (by decide +kernel))) (by decide +kernel)
set_option maxRecDepth 20000 in
theorem wd159 : Cond.code ⟨"java/lang/Object", "<init>", "()V"⟩ object_method_1_code 1 (Option.none : Option FieldType) ∈ aj_TB := aj_memL (aj_t1 (List.mem_of_getElem? (i := 30) (by decide +kernel))) (by decide +kernel)
set_option maxRecDepth 20000 in
theorem wd200 : Cond.arrayClass FieldType.int ∈ aj_TB := aj_memL (aj_t1 (List.mem_of_getElem? (i := 71) (by decide +kernel))) (by decide +kernel)
set_option maxRecDepth 20000 in
theorem wd177 : Cond.methodLink "CageLift$Group" 3 ⟨"java/lang/Object", "<init>", "()V"⟩ ∈ aj_TB := aj_memL (aj_t1 (List.mem_of_getElem? (i := 48) (by decide +kernel))) (by decide +kernel)
set_option maxRecDepth 20000 in
theorem wd206 : Cond.methodLink "CageLift$Laws" 3 ⟨"java/lang/Object", "<init>", "()V"⟩ ∈ aj_TB := aj_memL (aj_t1 (List.mem_of_getElem? (i := 77) (by decide +kernel))) (by decide +kernel)
set_option maxRecDepth 20000 in
theorem wd554 : Cond.methodLink "CageLift$Tray" 3 ⟨"java/lang/Object", "<init>", "()V"⟩ ∈ aj_TB := aj_memL (aj_t2 (List.mem_of_getElem? (i := 185) (by decide +kernel))) (by decide +kernel)
set_option maxRecDepth 20000 in
theorem wd567 : Cond.arrayClass FieldType.long ∈ aj_TB := aj_memL (aj_t2 (List.mem_of_getElem? (i := 198) (by decide +kernel))) (by decide +kernel)
set_option maxRecDepth 20000 in
theorem wd500 : Cond.methodLink "CageLift$Hunt" 5 ⟨"java/lang/Object", "<init>", "()V"⟩ ∈ aj_TB := aj_memL (aj_t2 (List.mem_of_getElem? (i := 131) (by decide +kernel))) (by decide +kernel)
set_option maxRecDepth 20000 in
theorem wd393 : Cond.methodLink "CageLift$Network" 3 ⟨"java/lang/Object", "<init>", "()V"⟩ ∈ aj_TB := aj_memL (aj_t2 (List.mem_of_getElem? (i := 24) (by decide +kernel))) (by decide +kernel)
set_option maxRecDepth 20000 in
theorem wd171 : Cond.methodLink "CageLift$Plan" 3 ⟨"java/lang/Object", "<init>", "()V"⟩ ∈ aj_TB := aj_memL (aj_t1 (List.mem_of_getElem? (i := 42) (by decide +kernel))) (by decide +kernel)
set_option maxRecDepth 20000 in
theorem wd172 : Cond.classLink "CageLift$Plan" 9 "CageLift$Group" ∈ aj_TB := aj_memL (aj_t1 (List.mem_of_getElem? (i := 43) (by decide +kernel))) (by decide +kernel)
set_option maxRecDepth 20000 in
theorem wd173 : Cond.instantiable "CageLift$Group" 4 ∈ aj_TB := aj_memL (aj_t1 (List.mem_of_getElem? (i := 44) (by decide +kernel))) (by decide +kernel)
set_option maxRecDepth 20000 in
theorem wd174 : Cond.methodLink "CageLift$Plan" 11 ⟨"CageLift$Group", "<init>", "()V"⟩ ∈ aj_TB := aj_memL (aj_t1 (List.mem_of_getElem? (i := 45) (by decide +kernel))) (by decide +kernel)
set_option maxRecDepth 20000 in
theorem wd175 : Cond.instanceMethod ⟨"CageLift$Group", "<init>", "()V"⟩ ∈ aj_TB := aj_memL (aj_t1 (List.mem_of_getElem? (i := 46) (by decide +kernel))) (by decide +kernel)
set_option maxRecDepth 20000 in
theorem wd176 : Cond.code ⟨"CageLift$Group", "<init>", "()V"⟩ prog_2_method_1_code 1 (Option.none : Option FieldType) ∈ aj_TB := aj_memL (aj_t1 (List.mem_of_getElem? (i := 47) (by decide +kernel))) (by decide +kernel)
set_option maxRecDepth 20000 in
theorem wd201 : Cond.classLink "CageLift$Plan" 18 "CageLift$Laws" ∈ aj_TB := aj_memL (aj_t1 (List.mem_of_getElem? (i := 72) (by decide +kernel))) (by decide +kernel)
set_option maxRecDepth 20000 in
theorem wd202 : Cond.instantiable "CageLift$Laws" 7 ∈ aj_TB := aj_memL (aj_t1 (List.mem_of_getElem? (i := 73) (by decide +kernel))) (by decide +kernel)
set_option maxRecDepth 20000 in
theorem wd204 : Cond.instanceMethod ⟨"CageLift$Laws", "<init>", "()V"⟩ ∈ aj_TB := aj_memL (aj_t1 (List.mem_of_getElem? (i := 75) (by decide +kernel))) (by decide +kernel)
set_option maxRecDepth 20000 in
theorem wd205 : Cond.code ⟨"CageLift$Laws", "<init>", "()V"⟩ prog_6_method_1_code 1 (Option.none : Option FieldType) ∈ aj_TB := aj_memL (aj_t1 (List.mem_of_getElem? (i := 76) (by decide +kernel))) (by decide +kernel)
set_option maxRecDepth 20000 in
theorem wd387 : Cond.methodLink "CageLift$Rings" 3 ⟨"java/lang/Object", "<init>", "()V"⟩ ∈ aj_TB := aj_memL (aj_t2 (List.mem_of_getElem? (i := 18) (by decide +kernel))) (by decide +kernel)
set_option maxRecDepth 20000 in
theorem wd388 : Cond.classLink "CageLift$Rings" 23 "CageLift$Network" ∈ aj_TB := aj_memL (aj_t2 (List.mem_of_getElem? (i := 19) (by decide +kernel))) (by decide +kernel)
set_option maxRecDepth 20000 in
theorem wd389 : Cond.instantiable "CageLift$Network" 17 ∈ aj_TB := aj_memL (aj_t2 (List.mem_of_getElem? (i := 20) (by decide +kernel))) (by decide +kernel)
set_option maxRecDepth 20000 in
theorem wd391 : Cond.instanceMethod ⟨"CageLift$Network", "<init>", "()V"⟩ ∈ aj_TB := aj_memL (aj_t2 (List.mem_of_getElem? (i := 22) (by decide +kernel))) (by decide +kernel)
set_option maxRecDepth 20000 in
theorem wd392 : Cond.code ⟨"CageLift$Network", "<init>", "()V"⟩ prog_7_method_1_code 1 (Option.none : Option FieldType) ∈ aj_TB := aj_memL (aj_t2 (List.mem_of_getElem? (i := 23) (by decide +kernel))) (by decide +kernel)
set_option maxRecDepth 20000 in
theorem wd363 : Cond.methodLink "CageLift$History" 3 ⟨"java/lang/Object", "<init>", "()V"⟩ ∈ aj_TB := aj_memL (aj_t1 (List.mem_of_getElem? (i := 234) (by decide +kernel))) (by decide +kernel)
set_option maxRecDepth 20000 in
theorem wd364 : Cond.classLink "CageLift$History" 9 "CageLift$Setting" ∈ aj_TB := aj_memL (aj_t1 (List.mem_of_getElem? (i := 235) (by decide +kernel))) (by decide +kernel)
set_option maxRecDepth 20000 in
theorem wd338 : Cond.instantiable "CageLift$Setting" 3 ∈ aj_TB := aj_memL (aj_t1 (List.mem_of_getElem? (i := 209) (by decide +kernel))) (by decide +kernel)
set_option maxRecDepth 20000 in
theorem wd340 : Cond.instanceMethod ⟨"CageLift$Setting", "<init>", "()V"⟩ ∈ aj_TB := aj_memL (aj_t1 (List.mem_of_getElem? (i := 211) (by decide +kernel))) (by decide +kernel)
set_option maxRecDepth 20000 in
theorem wd341 : Cond.code ⟨"CageLift$Setting", "<init>", "()V"⟩ prog_11_method_1_code 1 (Option.none : Option FieldType) ∈ aj_TB := aj_memL (aj_t1 (List.mem_of_getElem? (i := 212) (by decide +kernel))) (by decide +kernel)
set_option maxRecDepth 20000 in
theorem wd534 : Cond.methodLink "CageLift$Image" 1 ⟨"java/lang/Object", "<init>", "()V"⟩ ∈ aj_TB := aj_memL (aj_t2 (List.mem_of_getElem? (i := 165) (by decide +kernel))) (by decide +kernel)
set_option maxRecDepth 20000 in
theorem wd535 : Cond.classLink "CageLift$Image" 7 "CageLift$Plan" ∈ aj_TB := aj_memL (aj_t2 (List.mem_of_getElem? (i := 166) (by decide +kernel))) (by decide +kernel)
set_option maxRecDepth 20000 in
theorem wd167 : Cond.instantiable "CageLift$Plan" 12 ∈ aj_TB := aj_memL (aj_t1 (List.mem_of_getElem? (i := 38) (by decide +kernel))) (by decide +kernel)
set_option maxRecDepth 20000 in
theorem wd169 : Cond.instanceMethod ⟨"CageLift$Plan", "<init>", "()V"⟩ ∈ aj_TB := aj_memL (aj_t1 (List.mem_of_getElem? (i := 40) (by decide +kernel))) (by decide +kernel)
set_option maxRecDepth 20000 in
theorem wd170 : Cond.code ⟨"CageLift$Plan", "<init>", "()V"⟩ prog_8_method_1_code 1 (Option.none : Option FieldType) ∈ aj_TB := aj_memL (aj_t1 (List.mem_of_getElem? (i := 41) (by decide +kernel))) (by decide +kernel)
set_option maxRecDepth 20000 in
theorem wd537 : Cond.classLink "CageLift$Image" 16 "CageLift$Setting" ∈ aj_TB := aj_memL (aj_t2 (List.mem_of_getElem? (i := 168) (by decide +kernel))) (by decide +kernel)
set_option maxRecDepth 20000 in
theorem wd165 : Cond.methodLink "CageLift$Reader" 3 ⟨"java/lang/Object", "<init>", "()V"⟩ ∈ aj_TB := aj_memL (aj_t1 (List.mem_of_getElem? (i := 36) (by decide +kernel))) (by decide +kernel)
set_option maxRecDepth 20000 in
theorem wd199 : Cond.arrayClass FieldType.byte ∈ aj_TB := aj_memL (aj_t1 (List.mem_of_getElem? (i := 70) (by decide +kernel))) (by decide +kernel)
set_option maxRecDepth 20000 in
theorem wd166 : Cond.classLink "CageLift$Reader" 22 "CageLift$Plan" ∈ aj_TB := aj_memL (aj_t1 (List.mem_of_getElem? (i := 37) (by decide +kernel))) (by decide +kernel)
