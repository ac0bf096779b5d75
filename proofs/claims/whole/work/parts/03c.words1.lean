set_option maxRecDepth 20000 in
theorem wd839 : Cond.methodLink "CageLift$Reader" 181 ⟨"CageLift$Reader", "readComparison", "(I)Z"⟩ ∈ aj_TB := aj_memL (aj_t3 (List.mem_of_getElem? (i := 230) (by decide +kernel))) (by decide +kernel)
set_option maxRecDepth 20000 in
theorem wd842 : Cond.code ⟨"CageLift$Reader", "readComparison", "(I)Z"⟩ prog_9_method_15_code 3 (Option.some FieldType.boolean) ∈ aj_TB := aj_memL (aj_t3 (List.mem_of_getElem? (i := 233) (by decide +kernel))) (by decide +kernel)
set_option maxRecDepth 20000 in
theorem wd841 : Cond.instanceMethod ⟨"CageLift$Reader", "readComparison", "(I)Z"⟩ ∈ aj_TB := aj_memL (aj_t3 (List.mem_of_getElem? (i := 232) (by decide +kernel))) (by decide +kernel)
set_option maxRecDepth 20000 in
theorem wd17 : Cond.selects "CageLift$Reader" ⟨"CageLift$Reader", "readComparison", "(I)Z"⟩ ⟨"CageLift$Reader", "readComparison", "(I)Z"⟩ ∈ aj_TB := aj_memL (List.mem_append_left _ (List.mem_of_getElem? (i := 17) (by decide +kernel))) (by decide +kernel)
set_option maxRecDepth 20000 in
theorem wd843 : Cond.methodLink "CageLift$Reader" 163 ⟨"CageLift$Reader", "readSum", "(I)Z"⟩ ∈ aj_TB := aj_memL (aj_t3 (List.mem_of_getElem? (i := 234) (by decide +kernel))) (by decide +kernel)
set_option maxRecDepth 20000 in
theorem wd846 : Cond.code ⟨"CageLift$Reader", "readSum", "(I)Z"⟩ prog_9_method_16_code 4 (Option.some FieldType.boolean) ∈ aj_TB := aj_memL (aj_t3 (List.mem_of_getElem? (i := 237) (by decide +kernel))) (by decide +kernel)
set_option maxRecDepth 20000 in
theorem wd845 : Cond.instanceMethod ⟨"CageLift$Reader", "readSum", "(I)Z"⟩ ∈ aj_TB := aj_memL (aj_t3 (List.mem_of_getElem? (i := 236) (by decide +kernel))) (by decide +kernel)
set_option maxRecDepth 20000 in
theorem wd18 : Cond.selects "CageLift$Reader" ⟨"CageLift$Reader", "readSum", "(I)Z"⟩ ⟨"CageLift$Reader", "readSum", "(I)Z"⟩ ∈ aj_TB := aj_memL (List.mem_append_left _ (List.mem_of_getElem? (i := 18) (by decide +kernel))) (by decide +kernel)
set_option maxRecDepth 20000 in
theorem wd847 : Cond.methodLink "CageLift$Reader" 184 ⟨"CageLift$Reader", "readTerm", "(I)Z"⟩ ∈ aj_TB := aj_memL (aj_t3 (List.mem_of_getElem? (i := 238) (by decide +kernel))) (by decide +kernel)
set_option maxRecDepth 20000 in
theorem wd850 : Cond.code ⟨"CageLift$Reader", "readTerm", "(I)Z"⟩ prog_9_method_17_code 3 (Option.some FieldType.boolean) ∈ aj_TB := aj_memL (aj_t4 (List.mem_of_getElem? (i := 1) (by decide +kernel))) (by decide +kernel)
set_option maxRecDepth 20000 in
theorem wd849 : Cond.instanceMethod ⟨"CageLift$Reader", "readTerm", "(I)Z"⟩ ∈ aj_TB := aj_memL (aj_t4 (List.mem_of_getElem? (i := 0) (by decide +kernel))) (by decide +kernel)
set_option maxRecDepth 20000 in
theorem wd19 : Cond.selects "CageLift$Reader" ⟨"CageLift$Reader", "readTerm", "(I)Z"⟩ ⟨"CageLift$Reader", "readTerm", "(I)Z"⟩ ∈ aj_TB := aj_memL (List.mem_append_left _ (List.mem_of_getElem? (i := 19) (by decide +kernel))) (by decide +kernel)
set_option maxRecDepth 20000 in
theorem wd851 : Cond.methodLink "CageLift$Reader" 187 ⟨"CageLift$Reader", "readAtom", "(I)Z"⟩ ∈ aj_TB := aj_memL (aj_t4 (List.mem_of_getElem? (i := 2) (by decide +kernel))) (by decide +kernel)
set_option maxRecDepth 20000 in
theorem wd854 : Cond.code ⟨"CageLift$Reader", "readAtom", "(I)Z"⟩ prog_9_method_18_code 2 (Option.some FieldType.boolean) ∈ aj_TB := aj_memL (aj_t4 (List.mem_of_getElem? (i := 5) (by decide +kernel))) (by decide +kernel)
set_option maxRecDepth 20000 in
theorem wd853 : Cond.instanceMethod ⟨"CageLift$Reader", "readAtom", "(I)Z"⟩ ∈ aj_TB := aj_memL (aj_t4 (List.mem_of_getElem? (i := 4) (by decide +kernel))) (by decide +kernel)
set_option maxRecDepth 20000 in
theorem wd20 : Cond.selects "CageLift$Reader" ⟨"CageLift$Reader", "readAtom", "(I)Z"⟩ ⟨"CageLift$Reader", "readAtom", "(I)Z"⟩ ∈ aj_TB := aj_memL (List.mem_append_left _ (List.mem_of_getElem? (i := 20) (by decide +kernel))) (by decide +kernel)
set_option maxRecDepth 20000 in
theorem wd855 : Cond.methodLink "CageLift$Reader" 190 ⟨"CageLift$Reader", "addAtom", "(II)Z"⟩ ∈ aj_TB := aj_memL (aj_t4 (List.mem_of_getElem? (i := 6) (by decide +kernel))) (by decide +kernel)
set_option maxRecDepth 20000 in
theorem wd858 : Cond.code ⟨"CageLift$Reader", "addAtom", "(II)Z"⟩ prog_9_method_19_code 3 (Option.some FieldType.boolean) ∈ aj_TB := aj_memL (aj_t4 (List.mem_of_getElem? (i := 9) (by decide +kernel))) (by decide +kernel)
set_option maxRecDepth 20000 in
theorem wd857 : Cond.instanceMethod ⟨"CageLift$Reader", "addAtom", "(II)Z"⟩ ∈ aj_TB := aj_memL (aj_t4 (List.mem_of_getElem? (i := 8) (by decide +kernel))) (by decide +kernel)
set_option maxRecDepth 20000 in
theorem wd21 : Cond.selects "CageLift$Reader" ⟨"CageLift$Reader", "addAtom", "(II)Z"⟩ ⟨"CageLift$Reader", "addAtom", "(II)Z"⟩ ∈ aj_TB := aj_memL (List.mem_append_left _ (List.mem_of_getElem? (i := 21) (by decide +kernel))) (by decide +kernel)
set_option maxRecDepth 20000 in
theorem wd859 : Cond.methodLink "CageLift$Reader" 175 ⟨"CageLift$Laws", "add", "(II)V"⟩ ∈ aj_TB := aj_memL (aj_t4 (List.mem_of_getElem? (i := 10) (by decide +kernel))) (by decide +kernel)
set_option maxRecDepth 20000 in
theorem wd862 : Cond.code ⟨"CageLift$Laws", "add", "(II)V"⟩ prog_6_method_4_code 3 (Option.none : Option FieldType) ∈ aj_TB := aj_memL (aj_t4 (List.mem_of_getElem? (i := 13) (by decide +kernel))) (by decide +kernel)
set_option maxRecDepth 20000 in
theorem wd860 : Cond.instanceMethod ⟨"CageLift$Laws", "add", "(II)V"⟩ ∈ aj_TB := aj_memL (aj_t4 (List.mem_of_getElem? (i := 11) (by decide +kernel))) (by decide +kernel)
set_option maxRecDepth 20000 in
theorem wd861 : Cond.selects "CageLift$Laws" ⟨"CageLift$Laws", "add", "(II)V"⟩ ⟨"CageLift$Laws", "add", "(II)V"⟩ ∈ aj_TB := aj_memL (aj_t4 (List.mem_of_getElem? (i := 12) (by decide +kernel))) (by decide +kernel)
set_option maxRecDepth 20000 in
theorem wd863 : Cond.methodLink "CageLift$Reader" 194 ⟨"CageLift$Reader", "readNested", "(I)Z"⟩ ∈ aj_TB := aj_memL (aj_t4 (List.mem_of_getElem? (i := 14) (by decide +kernel))) (by decide +kernel)
set_option maxRecDepth 20000 in
theorem wd866 : Cond.code ⟨"CageLift$Reader", "readNested", "(I)Z"⟩ prog_9_method_20_code 3 (Option.some FieldType.boolean) ∈ aj_TB := aj_memL (aj_t4 (List.mem_of_getElem? (i := 17) (by decide +kernel))) (by decide +kernel)
set_option maxRecDepth 20000 in
theorem wd865 : Cond.instanceMethod ⟨"CageLift$Reader", "readNested", "(I)Z"⟩ ∈ aj_TB := aj_memL (aj_t4 (List.mem_of_getElem? (i := 16) (by decide +kernel))) (by decide +kernel)
set_option maxRecDepth 20000 in
theorem wd22 : Cond.selects "CageLift$Reader" ⟨"CageLift$Reader", "readNested", "(I)Z"⟩ ⟨"CageLift$Reader", "readNested", "(I)Z"⟩ ∈ aj_TB := aj_memL (List.mem_append_left _ (List.mem_of_getElem? (i := 22) (by decide +kernel))) (by decide +kernel)
set_option maxRecDepth 20000 in
theorem wd867 : Cond.methodLink "CageLift$Reader" 118 ⟨"CageLift$Reader", "readWeighs", "()Z"⟩ ∈ aj_TB := aj_memL (aj_t4 (List.mem_of_getElem? (i := 18) (by decide +kernel))) (by decide +kernel)
set_option maxRecDepth 20000 in
theorem wd870 : Cond.code ⟨"CageLift$Reader", "readWeighs", "()Z"⟩ prog_9_method_11_code 2 (Option.some FieldType.boolean) ∈ aj_TB := aj_memL (aj_t4 (List.mem_of_getElem? (i := 21) (by decide +kernel))) (by decide +kernel)
set_option maxRecDepth 20000 in
theorem wd869 : Cond.instanceMethod ⟨"CageLift$Reader", "readWeighs", "()Z"⟩ ∈ aj_TB := aj_memL (aj_t4 (List.mem_of_getElem? (i := 20) (by decide +kernel))) (by decide +kernel)
set_option maxRecDepth 20000 in
theorem wd23 : Cond.selects "CageLift$Reader" ⟨"CageLift$Reader", "readWeighs", "()Z"⟩ ⟨"CageLift$Reader", "readWeighs", "()Z"⟩ ∈ aj_TB := aj_memL (List.mem_append_left _ (List.mem_of_getElem? (i := 23) (by decide +kernel))) (by decide +kernel)
set_option maxRecDepth 20000 in
theorem wd871 : Cond.methodLink "CageLift" 102 ⟨"CageLift$Plan", "copyFrom", "(LCageLift$Plan;)V"⟩ ∈ aj_TB := aj_memL (aj_t4 (List.mem_of_getElem? (i := 22) (by decide +kernel))) (by decide +kernel)
set_option maxRecDepth 20000 in
theorem wd874 : Cond.code ⟨"CageLift$Plan", "copyFrom", "(LCageLift$Plan;)V"⟩ prog_8_method_3_code 2 (Option.none : Option FieldType) ∈ aj_TB := aj_memL (aj_t4 (List.mem_of_getElem? (i := 25) (by decide +kernel))) (by decide +kernel)
set_option maxRecDepth 20000 in
theorem wd872 : Cond.instanceMethod ⟨"CageLift$Plan", "copyFrom", "(LCageLift$Plan;)V"⟩ ∈ aj_TB := aj_memL (aj_t4 (List.mem_of_getElem? (i := 23) (by decide +kernel))) (by decide +kernel)
set_option maxRecDepth 20000 in
theorem wd873 : Cond.selects "CageLift$Plan" ⟨"CageLift$Plan", "copyFrom", "(LCageLift$Plan;)V"⟩ ⟨"CageLift$Plan", "copyFrom", "(LCageLift$Plan;)V"⟩ ∈ aj_TB := aj_memL (aj_t4 (List.mem_of_getElem? (i := 24) (by decide +kernel))) (by decide +kernel)
set_option maxRecDepth 20000 in
theorem wd875 : Cond.methodLink "CageLift$Plan" 64 ⟨"CageLift$Group", "copyFrom", "(LCageLift$Group;)V"⟩ ∈ aj_TB := aj_memL (aj_t4 (List.mem_of_getElem? (i := 26) (by decide +kernel))) (by decide +kernel)
set_option maxRecDepth 20000 in
theorem wd878 : Cond.code ⟨"CageLift$Group", "copyFrom", "(LCageLift$Group;)V"⟩ prog_2_method_9_code 2 (Option.none : Option FieldType) ∈ aj_TB := aj_memL (aj_t4 (List.mem_of_getElem? (i := 29) (by decide +kernel))) (by decide +kernel)
set_option maxRecDepth 20000 in
theorem wd876 : Cond.instanceMethod ⟨"CageLift$Group", "copyFrom", "(LCageLift$Group;)V"⟩ ∈ aj_TB := aj_memL (aj_t4 (List.mem_of_getElem? (i := 27) (by decide +kernel))) (by decide +kernel)
set_option maxRecDepth 20000 in
theorem wd877 : Cond.selects "CageLift$Group" ⟨"CageLift$Group", "copyFrom", "(LCageLift$Group;)V"⟩ ⟨"CageLift$Group", "copyFrom", "(LCageLift$Group;)V"⟩ ∈ aj_TB := aj_memL (aj_t4 (List.mem_of_getElem? (i := 28) (by decide +kernel))) (by decide +kernel)
set_option maxRecDepth 20000 in
theorem wd879 : Cond.methodLink "CageLift$Group" 39 ⟨"java/lang/System", "arraycopy", "(Ljava/lang/Object;ILjava/lang/Object;II)V"⟩ ∈ aj_TB := aj_memL (aj_t4 (List.mem_of_getElem? (i := 30) (by decide +kernel))) (by decide +kernel)
set_option maxRecDepth 20000 in
theorem wd881 : Cond.native ⟨"java/lang/System", "arraycopy", "(Ljava/lang/Object;ILjava/lang/Object;II)V"⟩ ∈ aj_TB := aj_memL (aj_t4 (List.mem_of_getElem? (i := 32) (by decide +kernel))) (by decide +kernel)
set_option maxRecDepth 20000 in
theorem wd880 : Cond.static ⟨"java/lang/System", "arraycopy", "(Ljava/lang/Object;ILjava/lang/Object;II)V"⟩ ∈ aj_TB := aj_memL (aj_t4 (List.mem_of_getElem? (i := 31) (by decide +kernel))) (by decide +kernel)
set_option maxRecDepth 20000 in
theorem wd149 : Cond.initialized "java/lang/System" ∈ aj_TB := aj_memL (aj_t1 (List.mem_of_getElem? (i := 20) (by decide +kernel))) (by decide +kernel)
set_option maxRecDepth 20000 in
theorem wd882 : Cond.methodLink "CageLift$Plan" 68 ⟨"CageLift$Laws", "copyFrom", "(LCageLift$Laws;)V"⟩ ∈ aj_TB := aj_memL (aj_t4 (List.mem_of_getElem? (i := 33) (by decide +kernel))) (by decide +kernel)
set_option maxRecDepth 20000 in
theorem wd885 : Cond.code ⟨"CageLift$Laws", "copyFrom", "(LCageLift$Laws;)V"⟩ prog_6_method_3_code 2 (Option.none : Option FieldType) ∈ aj_TB := aj_memL (aj_t4 (List.mem_of_getElem? (i := 36) (by decide +kernel))) (by decide +kernel)
set_option maxRecDepth 20000 in
theorem wd883 : Cond.instanceMethod ⟨"CageLift$Laws", "copyFrom", "(LCageLift$Laws;)V"⟩ ∈ aj_TB := aj_memL (aj_t4 (List.mem_of_getElem? (i := 34) (by decide +kernel))) (by decide +kernel)
set_option maxRecDepth 20000 in
theorem wd884 : Cond.selects "CageLift$Laws" ⟨"CageLift$Laws", "copyFrom", "(LCageLift$Laws;)V"⟩ ⟨"CageLift$Laws", "copyFrom", "(LCageLift$Laws;)V"⟩ ∈ aj_TB := aj_memL (aj_t4 (List.mem_of_getElem? (i := 35) (by decide +kernel))) (by decide +kernel)
set_option maxRecDepth 20000 in
theorem wd886 : Cond.methodLink "CageLift$Laws" 34 ⟨"java/lang/System", "arraycopy", "(Ljava/lang/Object;ILjava/lang/Object;II)V"⟩ ∈ aj_TB := aj_memL (aj_t4 (List.mem_of_getElem? (i := 37) (by decide +kernel))) (by decide +kernel)
set_option maxRecDepth 20000 in
theorem wd887 : Cond.methodLink "CageLift$Plan" 71 ⟨"java/lang/System", "arraycopy", "(Ljava/lang/Object;ILjava/lang/Object;II)V"⟩ ∈ aj_TB := aj_memL (aj_t4 (List.mem_of_getElem? (i := 38) (by decide +kernel))) (by decide +kernel)
set_option maxRecDepth 20000 in
theorem wd888 : Cond.methodLink "CageLift" 106 ⟨"CageLift$Setting", "begin", "(LCageLift$Plan;)V"⟩ ∈ aj_TB := aj_memL (aj_t4 (List.mem_of_getElem? (i := 39) (by decide +kernel))) (by decide +kernel)
set_option maxRecDepth 20000 in
theorem wd135 : Cond.initialized "CageLift$Setting" ∈ aj_TB := aj_memL (aj_t1 (List.mem_of_getElem? (i := 6) (by decide +kernel))) (by decide +kernel)
set_option maxRecDepth 20000 in
theorem wd891 : Cond.code ⟨"CageLift$Setting", "begin", "(LCageLift$Plan;)V"⟩ prog_11_method_2_code 2 (Option.none : Option FieldType) ∈ aj_TB := aj_memL (aj_t4 (List.mem_of_getElem? (i := 42) (by decide +kernel))) (by decide +kernel)
set_option maxRecDepth 20000 in
theorem wd889 : Cond.instanceMethod ⟨"CageLift$Setting", "begin", "(LCageLift$Plan;)V"⟩ ∈ aj_TB := aj_memL (aj_t4 (List.mem_of_getElem? (i := 40) (by decide +kernel))) (by decide +kernel)
set_option maxRecDepth 20000 in
theorem wd890 : Cond.selects "CageLift$Setting" ⟨"CageLift$Setting", "begin", "(LCageLift$Plan;)V"⟩ ⟨"CageLift$Setting", "begin", "(LCageLift$Plan;)V"⟩ ∈ aj_TB := aj_memL (aj_t4 (List.mem_of_getElem? (i := 41) (by decide +kernel))) (by decide +kernel)
set_option maxRecDepth 20000 in
theorem wd892 : Cond.methodLink "CageLift$Setting" 25 ⟨"java/lang/System", "arraycopy", "(Ljava/lang/Object;ILjava/lang/Object;II)V"⟩ ∈ aj_TB := aj_memL (aj_t4 (List.mem_of_getElem? (i := 43) (by decide +kernel))) (by decide +kernel)
set_option maxRecDepth 20000 in
theorem wd893 : Cond.methodLink "CageLift" 109 ⟨"CageLift$History", "forget", "()V"⟩ ∈ aj_TB := aj_memL (aj_t4 (List.mem_of_getElem? (i := 44) (by decide +kernel))) (by decide +kernel)
set_option maxRecDepth 20000 in
theorem wd136 : Cond.initialized "CageLift$History" ∈ aj_TB := aj_memL (aj_t1 (List.mem_of_getElem? (i := 7) (by decide +kernel))) (by decide +kernel)
set_option maxRecDepth 20000 in
theorem wd896 : Cond.code ⟨"CageLift$History", "forget", "()V"⟩ prog_3_method_4_code 1 (Option.none : Option FieldType) ∈ aj_TB := aj_memL (aj_t4 (List.mem_of_getElem? (i := 47) (by decide +kernel))) (by decide +kernel)
set_option maxRecDepth 20000 in
theorem wd894 : Cond.instanceMethod ⟨"CageLift$History", "forget", "()V"⟩ ∈ aj_TB := aj_memL (aj_t4 (List.mem_of_getElem? (i := 45) (by decide +kernel))) (by decide +kernel)
set_option maxRecDepth 20000 in
theorem wd895 : Cond.selects "CageLift$History" ⟨"CageLift$History", "forget", "()V"⟩ ⟨"CageLift$History", "forget", "()V"⟩ ∈ aj_TB := aj_memL (aj_t4 (List.mem_of_getElem? (i := 46) (by decide +kernel))) (by decide +kernel)
set_option maxRecDepth 20000 in
theorem wd897 : Cond.methodLink "CageLiftLaw" 23 ⟨"CageLift", "fault", "(I)I"⟩ ∈ aj_TB := aj_memL (aj_t4 (List.mem_of_getElem? (i := 48) (by decide +kernel))) (by decide +kernel)
set_option maxRecDepth 20000 in
theorem wd900 : Cond.code ⟨"CageLift", "fault", "(I)I"⟩ prog_1_method_4_code 2 (Option.some FieldType.int) ∈ aj_TB := aj_memL (aj_t4 (List.mem_of_getElem? (i := 51) (by decide +kernel))) (by decide +kernel)
set_option maxRecDepth 20000 in
theorem wd898 : Cond.instanceMethod ⟨"CageLift", "fault", "(I)I"⟩ ∈ aj_TB := aj_memL (aj_t4 (List.mem_of_getElem? (i := 49) (by decide +kernel))) (by decide +kernel)
set_option maxRecDepth 20000 in
theorem wd899 : Cond.selects "CageLift" ⟨"CageLift", "fault", "(I)I"⟩ ⟨"CageLift", "fault", "(I)I"⟩ ∈ aj_TB := aj_memL (aj_t4 (List.mem_of_getElem? (i := 50) (by decide +kernel))) (by decide +kernel)
set_option maxRecDepth 20000 in
theorem wd901 : Cond.methodLink "CageLiftLaw" 27 ⟨"CageLift", "arc", "(II)I"⟩ ∈ aj_TB := aj_memL (aj_t4 (List.mem_of_getElem? (i := 52) (by decide +kernel))) (by decide +kernel)
set_option maxRecDepth 20000 in
theorem wd904 : Cond.code ⟨"CageLift", "arc", "(II)I"⟩ prog_1_method_5_code 3 (Option.some FieldType.int) ∈ aj_TB := aj_memL (aj_t4 (List.mem_of_getElem? (i := 55) (by decide +kernel))) (by decide +kernel)
set_option maxRecDepth 20000 in
theorem wd902 : Cond.instanceMethod ⟨"CageLift", "arc", "(II)I"⟩ ∈ aj_TB := aj_memL (aj_t4 (List.mem_of_getElem? (i := 53) (by decide +kernel))) (by decide +kernel)
set_option maxRecDepth 20000 in
theorem wd903 : Cond.selects "CageLift" ⟨"CageLift", "arc", "(II)I"⟩ ⟨"CageLift", "arc", "(II)I"⟩ ∈ aj_TB := aj_memL (aj_t4 (List.mem_of_getElem? (i := 54) (by decide +kernel))) (by decide +kernel)
set_option maxRecDepth 20000 in
theorem wd905 : Cond.methodLink "CageLift" 118 ⟨"CageLift$Plan", "hasArc", "(I)Z"⟩ ∈ aj_TB := aj_memL (aj_t4 (List.mem_of_getElem? (i := 56) (by decide +kernel))) (by decide +kernel)
set_option maxRecDepth 20000 in
theorem wd908 : Cond.code ⟨"CageLift$Plan", "hasArc", "(I)Z"⟩ prog_8_method_5_code 2 (Option.some FieldType.boolean) ∈ aj_TB := aj_memL (aj_t4 (List.mem_of_getElem? (i := 59) (by decide +kernel))) (by decide +kernel)
set_option maxRecDepth 20000 in
theorem wd906 : Cond.instanceMethod ⟨"CageLift$Plan", "hasArc", "(I)Z"⟩ ∈ aj_TB := aj_memL (aj_t4 (List.mem_of_getElem? (i := 57) (by decide +kernel))) (by decide +kernel)
set_option maxRecDepth 20000 in
theorem wd907 : Cond.selects "CageLift$Plan" ⟨"CageLift$Plan", "hasArc", "(I)Z"⟩ ⟨"CageLift$Plan", "hasArc", "(I)Z"⟩ ∈ aj_TB := aj_memL (aj_t4 (List.mem_of_getElem? (i := 58) (by decide +kernel))) (by decide +kernel)
set_option maxRecDepth 20000 in
theorem wd909 : Cond.methodLink "CageLift" 130 ⟨"CageLift$Plan", "isHalf", "(I)Z"⟩ ∈ aj_TB := aj_memL (aj_t4 (List.mem_of_getElem? (i := 60) (by decide +kernel))) (by decide +kernel)
set_option maxRecDepth 20000 in
theorem wd912 : Cond.code ⟨"CageLift$Plan", "isHalf", "(I)Z"⟩ prog_8_method_6_code 2 (Option.some FieldType.boolean) ∈ aj_TB := aj_memL (aj_t4 (List.mem_of_getElem? (i := 63) (by decide +kernel))) (by decide +kernel)
set_option maxRecDepth 20000 in
theorem wd910 : Cond.instanceMethod ⟨"CageLift$Plan", "isHalf", "(I)Z"⟩ ∈ aj_TB := aj_memL (aj_t4 (List.mem_of_getElem? (i := 61) (by decide +kernel))) (by decide +kernel)
set_option maxRecDepth 20000 in
theorem wd911 : Cond.selects "CageLift$Plan" ⟨"CageLift$Plan", "isHalf", "(I)Z"⟩ ⟨"CageLift$Plan", "isHalf", "(I)Z"⟩ ∈ aj_TB := aj_memL (aj_t4 (List.mem_of_getElem? (i := 62) (by decide +kernel))) (by decide +kernel)
set_option maxRecDepth 20000 in
theorem wd913 : Cond.methodLink "CageLift$Plan" 77 ⟨"CageLift$Plan", "hasArc", "(I)Z"⟩ ∈ aj_TB := aj_memL (aj_t4 (List.mem_of_getElem? (i := 64) (by decide +kernel))) (by decide +kernel)
set_option maxRecDepth 20000 in
theorem wd914 : Cond.methodLink "CageLift" 133 ⟨"CageLift$Setting", "isOut", "(I)Z"⟩ ∈ aj_TB := aj_memL (aj_t4 (List.mem_of_getElem? (i := 65) (by decide +kernel))) (by decide +kernel)
set_option maxRecDepth 20000 in
theorem wd917 : Cond.code ⟨"CageLift$Setting", "isOut", "(I)Z"⟩ prog_11_method_4_code 2 (Option.some FieldType.boolean) ∈ aj_TB := aj_memL (aj_t4 (List.mem_of_getElem? (i := 68) (by decide +kernel))) (by decide +kernel)
set_option maxRecDepth 20000 in
theorem wd915 : Cond.instanceMethod ⟨"CageLift$Setting", "isOut", "(I)Z"⟩ ∈ aj_TB := aj_memL (aj_t4 (List.mem_of_getElem? (i := 66) (by decide +kernel))) (by decide +kernel)
set_option maxRecDepth 20000 in
theorem wd916 : Cond.selects "CageLift$Setting" ⟨"CageLift$Setting", "isOut", "(I)Z"⟩ ⟨"CageLift$Setting", "isOut", "(I)Z"⟩ ∈ aj_TB := aj_memL (aj_t4 (List.mem_of_getElem? (i := 67) (by decide +kernel))) (by decide +kernel)
set_option maxRecDepth 20000 in
theorem wd918 : Cond.methodLink "CageLiftLaw" 32 ⟨"CageLift", "product", "(II)I"⟩ ∈ aj_TB := aj_memL (aj_t4 (List.mem_of_getElem? (i := 69) (by decide +kernel))) (by decide +kernel)
set_option maxRecDepth 20000 in
theorem wd921 : Cond.code ⟨"CageLift", "product", "(II)I"⟩ prog_1_method_6_code 3 (Option.some FieldType.int) ∈ aj_TB := aj_memL (aj_t4 (List.mem_of_getElem? (i := 72) (by decide +kernel))) (by decide +kernel)
set_option maxRecDepth 20000 in
theorem wd919 : Cond.instanceMethod ⟨"CageLift", "product", "(II)I"⟩ ∈ aj_TB := aj_memL (aj_t4 (List.mem_of_getElem? (i := 70) (by decide +kernel))) (by decide +kernel)
set_option maxRecDepth 20000 in
theorem wd920 : Cond.selects "CageLift" ⟨"CageLift", "product", "(II)I"⟩ ⟨"CageLift", "product", "(II)I"⟩ ∈ aj_TB := aj_memL (aj_t4 (List.mem_of_getElem? (i := 71) (by decide +kernel))) (by decide +kernel)
set_option maxRecDepth 20000 in
theorem wd922 : Cond.methodLink "CageLift" 140 ⟨"CageLift$Group", "has", "(I)Z"⟩ ∈ aj_TB := aj_memL (aj_t4 (List.mem_of_getElem? (i := 73) (by decide +kernel))) (by decide +kernel)
set_option maxRecDepth 20000 in
theorem wd923 : Cond.methodLink "CageLift" 145 ⟨"CageLift$Group", "times", "(II)I"⟩ ∈ aj_TB := aj_memL (aj_t4 (List.mem_of_getElem? (i := 74) (by decide +kernel))) (by decide +kernel)
set_option maxRecDepth 20000 in
theorem wd924 : Cond.methodLink "CageLiftLaw" 36 ⟨"CageLift", "inverse", "(I)I"⟩ ∈ aj_TB := aj_memL (aj_t4 (List.mem_of_getElem? (i := 75) (by decide +kernel))) (by decide +kernel)
set_option maxRecDepth 20000 in
theorem wd927 : Cond.code ⟨"CageLift", "inverse", "(I)I"⟩ prog_1_method_7_code 2 (Option.some FieldType.int) ∈ aj_TB := aj_memL (aj_t4 (List.mem_of_getElem? (i := 78) (by decide +kernel))) (by decide +kernel)
set_option maxRecDepth 20000 in
theorem wd925 : Cond.instanceMethod ⟨"CageLift", "inverse", "(I)I"⟩ ∈ aj_TB := aj_memL (aj_t4 (List.mem_of_getElem? (i := 76) (by decide +kernel))) (by decide +kernel)
set_option maxRecDepth 20000 in
theorem wd926 : Cond.selects "CageLift" ⟨"CageLift", "inverse", "(I)I"⟩ ⟨"CageLift", "inverse", "(I)I"⟩ ∈ aj_TB := aj_memL (aj_t4 (List.mem_of_getElem? (i := 77) (by decide +kernel))) (by decide +kernel)
set_option maxRecDepth 20000 in
theorem wd928 : Cond.methodLink "CageLiftLaw" 40 ⟨"CageLift", "orderOf", "(I)I"⟩ ∈ aj_TB := aj_memL (aj_t4 (List.mem_of_getElem? (i := 79) (by decide +kernel))) (by decide +kernel)
set_option maxRecDepth 20000 in
theorem wd931 : Cond.code ⟨"CageLift", "orderOf", "(I)I"⟩ prog_1_method_8_code 2 (Option.some FieldType.int) ∈ aj_TB := aj_memL (aj_t4 (List.mem_of_getElem? (i := 82) (by decide +kernel))) (by decide +kernel)
set_option maxRecDepth 20000 in
theorem wd929 : Cond.instanceMethod ⟨"CageLift", "orderOf", "(I)I"⟩ ∈ aj_TB := aj_memL (aj_t4 (List.mem_of_getElem? (i := 80) (by decide +kernel))) (by decide +kernel)
set_option maxRecDepth 20000 in
theorem wd930 : Cond.selects "CageLift" ⟨"CageLift", "orderOf", "(I)I"⟩ ⟨"CageLift", "orderOf", "(I)I"⟩ ∈ aj_TB := aj_memL (aj_t4 (List.mem_of_getElem? (i := 81) (by decide +kernel))) (by decide +kernel)
set_option maxRecDepth 20000 in
theorem wd932 : Cond.methodLink "CageLiftLaw" 44 ⟨"CageLift", "centre", "()I"⟩ ∈ aj_TB := aj_memL (aj_t4 (List.mem_of_getElem? (i := 83) (by decide +kernel))) (by decide +kernel)
set_option maxRecDepth 20000 in
theorem wd935 : Cond.code ⟨"CageLift", "centre", "()I"⟩ prog_1_method_9_code 1 (Option.some FieldType.int) ∈ aj_TB := aj_memL (aj_t4 (List.mem_of_getElem? (i := 86) (by decide +kernel))) (by decide +kernel)
set_option maxRecDepth 20000 in
theorem wd933 : Cond.instanceMethod ⟨"CageLift", "centre", "()I"⟩ ∈ aj_TB := aj_memL (aj_t4 (List.mem_of_getElem? (i := 84) (by decide +kernel))) (by decide +kernel)
set_option maxRecDepth 20000 in
theorem wd934 : Cond.selects "CageLift" ⟨"CageLift", "centre", "()I"⟩ ⟨"CageLift", "centre", "()I"⟩ ∈ aj_TB := aj_memL (aj_t4 (List.mem_of_getElem? (i := 85) (by decide +kernel))) (by decide +kernel)
set_option maxRecDepth 20000 in
theorem wd936 : Cond.methodLink "CageLift" 155 ⟨"CageLift$Group", "centrals", "()I"⟩ ∈ aj_TB := aj_memL (aj_t4 (List.mem_of_getElem? (i := 87) (by decide +kernel))) (by decide +kernel)
set_option maxRecDepth 20000 in
theorem wd939 : Cond.code ⟨"CageLift$Group", "centrals", "()I"⟩ prog_2_method_8_code 5 (Option.some FieldType.int) ∈ aj_TB := aj_memL (aj_t4 (List.mem_of_getElem? (i := 90) (by decide +kernel))) (by decide +kernel)
set_option maxRecDepth 20000 in
theorem wd937 : Cond.instanceMethod ⟨"CageLift$Group", "centrals", "()I"⟩ ∈ aj_TB := aj_memL (aj_t4 (List.mem_of_getElem? (i := 88) (by decide +kernel))) (by decide +kernel)
set_option maxRecDepth 20000 in
theorem wd938 : Cond.selects "CageLift$Group" ⟨"CageLift$Group", "centrals", "()I"⟩ ⟨"CageLift$Group", "centrals", "()I"⟩ ∈ aj_TB := aj_memL (aj_t4 (List.mem_of_getElem? (i := 89) (by decide +kernel))) (by decide +kernel)
set_option maxRecDepth 20000 in
theorem wd940 : Cond.methodLink "CageLiftLaw" 49 ⟨"CageLift", "turn", "(II)I"⟩ ∈ aj_TB := aj_memL (aj_t4 (List.mem_of_getElem? (i := 91) (by decide +kernel))) (by decide +kernel)
set_option maxRecDepth 20000 in
theorem wd943 : Cond.code ⟨"CageLift", "turn", "(II)I"⟩ prog_1_method_10_code 4 (Option.some FieldType.int) ∈ aj_TB := aj_memL (aj_t4 (List.mem_of_getElem? (i := 94) (by decide +kernel))) (by decide +kernel)
set_option maxRecDepth 20000 in
theorem wd941 : Cond.instanceMethod ⟨"CageLift", "turn", "(II)I"⟩ ∈ aj_TB := aj_memL (aj_t4 (List.mem_of_getElem? (i := 92) (by decide +kernel))) (by decide +kernel)
set_option maxRecDepth 20000 in
theorem wd942 : Cond.selects "CageLift" ⟨"CageLift", "turn", "(II)I"⟩ ⟨"CageLift", "turn", "(II)I"⟩ ∈ aj_TB := aj_memL (aj_t4 (List.mem_of_getElem? (i := 93) (by decide +kernel))) (by decide +kernel)
set_option maxRecDepth 20000 in
theorem wd944 : Cond.methodLink "CageLift" 159 ⟨"CageLift$Setting", "copyFrom", "(LCageLift$Setting;)V"⟩ ∈ aj_TB := aj_memL (aj_t4 (List.mem_of_getElem? (i := 95) (by decide +kernel))) (by decide +kernel)
set_option maxRecDepth 20000 in
theorem wd947 : Cond.code ⟨"CageLift$Setting", "copyFrom", "(LCageLift$Setting;)V"⟩ prog_11_method_3_code 2 (Option.none : Option FieldType) ∈ aj_TB := aj_memL (aj_t4 (List.mem_of_getElem? (i := 98) (by decide +kernel))) (by decide +kernel)
set_option maxRecDepth 20000 in
theorem wd945 : Cond.instanceMethod ⟨"CageLift$Setting", "copyFrom", "(LCageLift$Setting;)V"⟩ ∈ aj_TB := aj_memL (aj_t4 (List.mem_of_getElem? (i := 96) (by decide +kernel))) (by decide +kernel)
set_option maxRecDepth 20000 in
theorem wd946 : Cond.selects "CageLift$Setting" ⟨"CageLift$Setting", "copyFrom", "(LCageLift$Setting;)V"⟩ ⟨"CageLift$Setting", "copyFrom", "(LCageLift$Setting;)V"⟩ ∈ aj_TB := aj_memL (aj_t4 (List.mem_of_getElem? (i := 97) (by decide +kernel))) (by decide +kernel)
set_option maxRecDepth 20000 in
theorem wd948 : Cond.methodLink "CageLift" 162 ⟨"CageLift$Setting", "turnTo", "(LCageLift$Plan;II)I"⟩ ∈ aj_TB := aj_memL (aj_t4 (List.mem_of_getElem? (i := 99) (by decide +kernel))) (by decide +kernel)
set_option maxRecDepth 20000 in
theorem wd951 : Cond.code ⟨"CageLift$Setting", "turnTo", "(LCageLift$Plan;II)I"⟩ prog_11_method_5_code 5 (Option.some FieldType.int) ∈ aj_TB := aj_memL (aj_t4 (List.mem_of_getElem? (i := 102) (by decide +kernel))) (by decide +kernel)
set_option maxRecDepth 20000 in
theorem wd949 : Cond.instanceMethod ⟨"CageLift$Setting", "turnTo", "(LCageLift$Plan;II)I"⟩ ∈ aj_TB := aj_memL (aj_t4 (List.mem_of_getElem? (i := 100) (by decide +kernel))) (by decide +kernel)
set_option maxRecDepth 20000 in
theorem wd950 : Cond.selects "CageLift$Setting" ⟨"CageLift$Setting", "turnTo", "(LCageLift$Plan;II)I"⟩ ⟨"CageLift$Setting", "turnTo", "(LCageLift$Plan;II)I"⟩ ∈ aj_TB := aj_memL (aj_t4 (List.mem_of_getElem? (i := 101) (by decide +kernel))) (by decide +kernel)
set_option maxRecDepth 20000 in
theorem wd952 : Cond.methodLink "CageLift$Setting" 32 ⟨"CageLift$Plan", "whyNotBy", "(II)I"⟩ ∈ aj_TB := aj_memL (aj_t4 (List.mem_of_getElem? (i := 103) (by decide +kernel))) (by decide +kernel)
set_option maxRecDepth 20000 in
theorem wd955 : Cond.code ⟨"CageLift$Plan", "whyNotBy", "(II)I"⟩ prog_8_method_7_code 3 (Option.some FieldType.int) ∈ aj_TB := aj_memL (aj_t4 (List.mem_of_getElem? (i := 106) (by decide +kernel))) (by decide +kernel)
set_option maxRecDepth 20000 in
theorem wd953 : Cond.instanceMethod ⟨"CageLift$Plan", "whyNotBy", "(II)I"⟩ ∈ aj_TB := aj_memL (aj_t4 (List.mem_of_getElem? (i := 104) (by decide +kernel))) (by decide +kernel)
set_option maxRecDepth 20000 in
theorem wd954 : Cond.selects "CageLift$Plan" ⟨"CageLift$Plan", "whyNotBy", "(II)I"⟩ ⟨"CageLift$Plan", "whyNotBy", "(II)I"⟩ ∈ aj_TB := aj_memL (aj_t4 (List.mem_of_getElem? (i := 105) (by decide +kernel))) (by decide +kernel)
set_option maxRecDepth 20000 in
theorem wd956 : Cond.methodLink "CageLift$Plan" 81 ⟨"CageLift$Group", "has", "(I)Z"⟩ ∈ aj_TB := aj_memL (aj_t4 (List.mem_of_getElem? (i := 107) (by decide +kernel))) (by decide +kernel)
set_option maxRecDepth 20000 in
theorem wd957 : Cond.methodLink "CageLift$Plan" 84 ⟨"CageLift$Plan", "isHalf", "(I)Z"⟩ ∈ aj_TB := aj_memL (aj_t4 (List.mem_of_getElem? (i := 108) (by decide +kernel))) (by decide +kernel)
set_option maxRecDepth 20000 in
theorem wd958 : Cond.methodLink "CageLift" 166 ⟨"CageLift", "wasDone", "()V"⟩ ∈ aj_TB := aj_memL (aj_t4 (List.mem_of_getElem? (i := 109) (by decide +kernel))) (by decide +kernel)
set_option maxRecDepth 20000 in
theorem wd961 : Cond.code ⟨"CageLift", "wasDone", "()V"⟩ prog_1_method_50_code 1 (Option.none : Option FieldType) ∈ aj_TB := aj_memL (aj_t4 (List.mem_of_getElem? (i := 112) (by decide +kernel))) (by decide +kernel)
set_option maxRecDepth 20000 in
theorem wd960 : Cond.instanceMethod ⟨"CageLift", "wasDone", "()V"⟩ ∈ aj_TB := aj_memL (aj_t4 (List.mem_of_getElem? (i := 111) (by decide +kernel))) (by decide +kernel)
set_option maxRecDepth 20000 in
theorem wd24 : Cond.selects "CageLift" ⟨"CageLift", "wasDone", "()V"⟩ ⟨"CageLift", "wasDone", "()V"⟩ ∈ aj_TB := aj_memL (List.mem_append_left _ (List.mem_of_getElem? (i := 24) (by decide +kernel))) (by decide +kernel)
set_option maxRecDepth 20000 in
theorem wd962 : Cond.methodLink "CageLift" 411 ⟨"CageLift$History", "keep", "(LCageLift$Setting;)V"⟩ ∈ aj_TB := aj_memL (aj_t4 (List.mem_of_getElem? (i := 113) (by decide +kernel))) (by decide +kernel)
set_option maxRecDepth 20000 in
theorem wd965 : Cond.code ⟨"CageLift$History", "keep", "(LCageLift$Setting;)V"⟩ prog_3_method_2_code 2 (Option.none : Option FieldType) ∈ aj_TB := aj_memL (aj_t4 (List.mem_of_getElem? (i := 116) (by decide +kernel))) (by decide +kernel)
set_option maxRecDepth 20000 in
theorem wd963 : Cond.instanceMethod ⟨"CageLift$History", "keep", "(LCageLift$Setting;)V"⟩ ∈ aj_TB := aj_memL (aj_t4 (List.mem_of_getElem? (i := 114) (by decide +kernel))) (by decide +kernel)
set_option maxRecDepth 20000 in
theorem wd964 : Cond.selects "CageLift$History" ⟨"CageLift$History", "keep", "(LCageLift$Setting;)V"⟩ ⟨"CageLift$History", "keep", "(LCageLift$Setting;)V"⟩ ∈ aj_TB := aj_memL (aj_t4 (List.mem_of_getElem? (i := 115) (by decide +kernel))) (by decide +kernel)
set_option maxRecDepth 20000 in
theorem wd966 : Cond.methodLink "CageLift$History" 25 ⟨"CageLift$Setting", "copyFrom", "(LCageLift$Setting;)V"⟩ ∈ aj_TB := aj_memL (aj_t4 (List.mem_of_getElem? (i := 117) (by decide +kernel))) (by decide +kernel)
set_option maxRecDepth 20000 in
theorem wd967 : Cond.methodLink "CageLift$History" 29 ⟨"java/lang/Math", "min", "(II)I"⟩ ∈ aj_TB := aj_memL (aj_t4 (List.mem_of_getElem? (i := 118) (by decide +kernel))) (by decide +kernel)
set_option maxRecDepth 20000 in
theorem wd968 : Cond.methodLink "CageLiftLaw" 53 ⟨"CageLift", "cut", "(I)I"⟩ ∈ aj_TB := aj_memL (aj_t4 (List.mem_of_getElem? (i := 119) (by decide +kernel))) (by decide +kernel)
set_option maxRecDepth 20000 in
theorem wd971 : Cond.code ⟨"CageLift", "cut", "(I)I"⟩ prog_1_method_11_code 3 (Option.some FieldType.int) ∈ aj_TB := aj_memL (aj_t4 (List.mem_of_getElem? (i := 122) (by decide +kernel))) (by decide +kernel)
set_option maxRecDepth 20000 in
theorem wd969 : Cond.instanceMethod ⟨"CageLift", "cut", "(I)I"⟩ ∈ aj_TB := aj_memL (aj_t4 (List.mem_of_getElem? (i := 120) (by decide +kernel))) (by decide +kernel)
set_option maxRecDepth 20000 in
theorem wd970 : Cond.selects "CageLift" ⟨"CageLift", "cut", "(I)I"⟩ ⟨"CageLift", "cut", "(I)I"⟩ ∈ aj_TB := aj_memL (aj_t4 (List.mem_of_getElem? (i := 121) (by decide +kernel))) (by decide +kernel)
set_option maxRecDepth 20000 in
theorem wd972 : Cond.methodLink "CageLift" 169 ⟨"CageLift$Setting", "cutOrJoin", "(LCageLift$Plan;I)I"⟩ ∈ aj_TB := aj_memL (aj_t4 (List.mem_of_getElem? (i := 123) (by decide +kernel))) (by decide +kernel)
set_option maxRecDepth 20000 in
theorem wd975 : Cond.code ⟨"CageLift$Setting", "cutOrJoin", "(LCageLift$Plan;I)I"⟩ prog_11_method_6_code 3 (Option.some FieldType.int) ∈ aj_TB := aj_memL (aj_t4 (List.mem_of_getElem? (i := 126) (by decide +kernel))) (by decide +kernel)
set_option maxRecDepth 20000 in
theorem wd973 : Cond.instanceMethod ⟨"CageLift$Setting", "cutOrJoin", "(LCageLift$Plan;I)I"⟩ ∈ aj_TB := aj_memL (aj_t4 (List.mem_of_getElem? (i := 124) (by decide +kernel))) (by decide +kernel)
set_option maxRecDepth 20000 in
theorem wd974 : Cond.selects "CageLift$Setting" ⟨"CageLift$Setting", "cutOrJoin", "(LCageLift$Plan;I)I"⟩ ⟨"CageLift$Setting", "cutOrJoin", "(LCageLift$Plan;I)I"⟩ ∈ aj_TB := aj_memL (aj_t4 (List.mem_of_getElem? (i := 125) (by decide +kernel))) (by decide +kernel)
set_option maxRecDepth 20000 in
theorem wd976 : Cond.methodLink "CageLift$Setting" 36 ⟨"CageLift$Plan", "hasArc", "(I)Z"⟩ ∈ aj_TB := aj_memL (aj_t4 (List.mem_of_getElem? (i := 127) (by decide +kernel))) (by decide +kernel)
set_option maxRecDepth 20000 in
theorem wd977 : Cond.methodLink "CageLiftLaw" 57 ⟨"CageLift", "twist", "(I)I"⟩ ∈ aj_TB := aj_memL (aj_t4 (List.mem_of_getElem? (i := 128) (by decide +kernel))) (by decide +kernel)
set_option maxRecDepth 20000 in
theorem wd980 : Cond.code ⟨"CageLift", "twist", "(I)I"⟩ prog_1_method_12_code 3 (Option.some FieldType.int) ∈ aj_TB := aj_memL (aj_t4 (List.mem_of_getElem? (i := 131) (by decide +kernel))) (by decide +kernel)
set_option maxRecDepth 20000 in
theorem wd978 : Cond.instanceMethod ⟨"CageLift", "twist", "(I)I"⟩ ∈ aj_TB := aj_memL (aj_t4 (List.mem_of_getElem? (i := 129) (by decide +kernel))) (by decide +kernel)
set_option maxRecDepth 20000 in
theorem wd979 : Cond.selects "CageLift" ⟨"CageLift", "twist", "(I)I"⟩ ⟨"CageLift", "twist", "(I)I"⟩ ∈ aj_TB := aj_memL (aj_t4 (List.mem_of_getElem? (i := 130) (by decide +kernel))) (by decide +kernel)
set_option maxRecDepth 20000 in
theorem wd981 : Cond.methodLink "CageLift" 173 ⟨"CageLift$Setting", "twistTo", "(I)I"⟩ ∈ aj_TB := aj_memL (aj_t4 (List.mem_of_getElem? (i := 132) (by decide +kernel))) (by decide +kernel)
set_option maxRecDepth 20000 in
theorem wd984 : Cond.code ⟨"CageLift$Setting", "twistTo", "(I)I"⟩ prog_11_method_7_code 2 (Option.some FieldType.int) ∈ aj_TB := aj_memL (aj_t4 (List.mem_of_getElem? (i := 135) (by decide +kernel))) (by decide +kernel)
set_option maxRecDepth 20000 in
theorem wd982 : Cond.instanceMethod ⟨"CageLift$Setting", "twistTo", "(I)I"⟩ ∈ aj_TB := aj_memL (aj_t4 (List.mem_of_getElem? (i := 133) (by decide +kernel))) (by decide +kernel)
set_option maxRecDepth 20000 in
theorem wd983 : Cond.selects "CageLift$Setting" ⟨"CageLift$Setting", "twistTo", "(I)I"⟩ ⟨"CageLift$Setting", "twistTo", "(I)I"⟩ ∈ aj_TB := aj_memL (aj_t4 (List.mem_of_getElem? (i := 134) (by decide +kernel))) (by decide +kernel)
set_option maxRecDepth 20000 in
theorem wd985 : Cond.methodLink "CageLiftLaw" 61 ⟨"CageLift", "undo", "(I)I"⟩ ∈ aj_TB := aj_memL (aj_t4 (List.mem_of_getElem? (i := 136) (by decide +kernel))) (by decide +kernel)
set_option maxRecDepth 20000 in
theorem wd988 : Cond.code ⟨"CageLift", "undo", "(I)I"⟩ prog_1_method_13_code 2 (Option.some FieldType.int) ∈ aj_TB := aj_memL (aj_t4 (List.mem_of_getElem? (i := 139) (by decide +kernel))) (by decide +kernel)
set_option maxRecDepth 20000 in
theorem wd986 : Cond.instanceMethod ⟨"CageLift", "undo", "(I)I"⟩ ∈ aj_TB := aj_memL (aj_t4 (List.mem_of_getElem? (i := 137) (by decide +kernel))) (by decide +kernel)
set_option maxRecDepth 20000 in
theorem wd987 : Cond.selects "CageLift" ⟨"CageLift", "undo", "(I)I"⟩ ⟨"CageLift", "undo", "(I)I"⟩ ∈ aj_TB := aj_memL (aj_t4 (List.mem_of_getElem? (i := 138) (by decide +kernel))) (by decide +kernel)
set_option maxRecDepth 20000 in
theorem wd989 : Cond.methodLink "CageLift" 183 ⟨"CageLift$History", "takeBack", "(ILCageLift$Setting;)V"⟩ ∈ aj_TB := aj_memL (aj_t4 (List.mem_of_getElem? (i := 140) (by decide +kernel))) (by decide +kernel)
set_option maxRecDepth 20000 in
theorem wd992 : Cond.code ⟨"CageLift$History", "takeBack", "(ILCageLift$Setting;)V"⟩ prog_3_method_3_code 3 (Option.none : Option FieldType) ∈ aj_TB := aj_memL (aj_t4 (List.mem_of_getElem? (i := 143) (by decide +kernel))) (by decide +kernel)
set_option maxRecDepth 20000 in
theorem wd990 : Cond.instanceMethod ⟨"CageLift$History", "takeBack", "(ILCageLift$Setting;)V"⟩ ∈ aj_TB := aj_memL (aj_t4 (List.mem_of_getElem? (i := 141) (by decide +kernel))) (by decide +kernel)
set_option maxRecDepth 20000 in
theorem wd991 : Cond.selects "CageLift$History" ⟨"CageLift$History", "takeBack", "(ILCageLift$Setting;)V"⟩ ⟨"CageLift$History", "takeBack", "(ILCageLift$Setting;)V"⟩ ∈ aj_TB := aj_memL (aj_t4 (List.mem_of_getElem? (i := 142) (by decide +kernel))) (by decide +kernel)
set_option maxRecDepth 20000 in
theorem wd993 : Cond.methodLink "CageLiftLaw" 65 ⟨"CageLift", "judge", "(II)I"⟩ ∈ aj_TB := aj_memL (aj_t4 (List.mem_of_getElem? (i := 144) (by decide +kernel))) (by decide +kernel)
set_option maxRecDepth 20000 in
theorem wd996 : Cond.code ⟨"CageLift", "judge", "(II)I"⟩ prog_1_method_14_code 6 (Option.some FieldType.int) ∈ aj_TB := aj_memL (aj_t4 (List.mem_of_getElem? (i := 147) (by decide +kernel))) (by decide +kernel)
set_option maxRecDepth 20000 in
theorem wd994 : Cond.instanceMethod ⟨"CageLift", "judge", "(II)I"⟩ ∈ aj_TB := aj_memL (aj_t4 (List.mem_of_getElem? (i := 145) (by decide +kernel))) (by decide +kernel)
set_option maxRecDepth 20000 in
theorem wd995 : Cond.selects "CageLift" ⟨"CageLift", "judge", "(II)I"⟩ ⟨"CageLift", "judge", "(II)I"⟩ ∈ aj_TB := aj_memL (aj_t4 (List.mem_of_getElem? (i := 146) (by decide +kernel))) (by decide +kernel)
set_option maxRecDepth 20000 in
theorem wd997 : Cond.methodLink "CageLift" 187 ⟨"CageLift", "isTray", "(I)Z"⟩ ∈ aj_TB := aj_memL (aj_t4 (List.mem_of_getElem? (i := 148) (by decide +kernel))) (by decide +kernel)
set_option maxRecDepth 20000 in
theorem wd999 : Cond.code ⟨"CageLift", "isTray", "(I)Z"⟩ prog_1_method_51_code 1 (Option.some FieldType.boolean) ∈ aj_TB := aj_memL (aj_t4 (List.mem_of_getElem? (i := 150) (by decide +kernel))) (by decide +kernel)
set_option maxRecDepth 20000 in
theorem wd998 : Cond.static ⟨"CageLift", "isTray", "(I)Z"⟩ ∈ aj_TB := aj_memL (aj_t4 (List.mem_of_getElem? (i := 149) (by decide +kernel))) (by decide +kernel)
set_option maxRecDepth 20000 in
theorem wd1000 : Cond.methodLink "CageLift" 190 ⟨"CageLift$Tray", "isMissing", "()Z"⟩ ∈ aj_TB := aj_memL (aj_t4 (List.mem_of_getElem? (i := 151) (by decide +kernel))) (by decide +kernel)
set_option maxRecDepth 20000 in
theorem wd141 : Cond.initialized "CageLift$Tray" ∈ aj_TB := aj_memL (aj_t1 (List.mem_of_getElem? (i := 12) (by decide +kernel))) (by decide +kernel)
set_option maxRecDepth 20000 in
theorem wd1003 : Cond.code ⟨"CageLift$Tray", "isMissing", "()Z"⟩ prog_12_method_2_code 1 (Option.some FieldType.boolean) ∈ aj_TB := aj_memL (aj_t4 (List.mem_of_getElem? (i := 154) (by decide +kernel))) (by decide +kernel)
set_option maxRecDepth 20000 in
theorem wd1001 : Cond.instanceMethod ⟨"CageLift$Tray", "isMissing", "()Z"⟩ ∈ aj_TB := aj_memL (aj_t4 (List.mem_of_getElem? (i := 152) (by decide +kernel))) (by decide +kernel)
set_option maxRecDepth 20000 in
theorem wd1002 : Cond.selects "CageLift$Tray" ⟨"CageLift$Tray", "isMissing", "()Z"⟩ ⟨"CageLift$Tray", "isMissing", "()Z"⟩ ∈ aj_TB := aj_memL (aj_t4 (List.mem_of_getElem? (i := 153) (by decide +kernel))) (by decide +kernel)
set_option maxRecDepth 20000 in
theorem wd1004 : Cond.methodLink "CageLift" 194 ⟨"CageLift", "doAll", "(LCageLift$Tray;LCageLift$Setting;)I"⟩ ∈ aj_TB := aj_memL (aj_t4 (List.mem_of_getElem? (i := 155) (by decide +kernel))) (by decide +kernel)
set_option maxRecDepth 20000 in
theorem wd1007 : Cond.code ⟨"CageLift", "doAll", "(LCageLift$Tray;LCageLift$Setting;)I"⟩ prog_1_method_56_code 4 (Option.some FieldType.int) ∈ aj_TB := aj_memL (aj_t4 (List.mem_of_getElem? (i := 158) (by decide +kernel))) (by decide +kernel)
set_option maxRecDepth 20000 in
theorem wd1006 : Cond.instanceMethod ⟨"CageLift", "doAll", "(LCageLift$Tray;LCageLift$Setting;)I"⟩ ∈ aj_TB := aj_memL (aj_t4 (List.mem_of_getElem? (i := 157) (by decide +kernel))) (by decide +kernel)
set_option maxRecDepth 20000 in
theorem wd25 : Cond.selects "CageLift" ⟨"CageLift", "doAll", "(LCageLift$Tray;LCageLift$Setting;)I"⟩ ⟨"CageLift", "doAll", "(LCageLift$Tray;LCageLift$Setting;)I"⟩ ∈ aj_TB := aj_memL (List.mem_append_left _ (List.mem_of_getElem? (i := 25) (by decide +kernel))) (by decide +kernel)
set_option maxRecDepth 20000 in
theorem wd1008 : Cond.methodLink "CageLift" 205 ⟨"CageLift$Setting", "tryDeed", "(LCageLift$Plan;J)I"⟩ ∈ aj_TB := aj_memL (aj_t4 (List.mem_of_getElem? (i := 159) (by decide +kernel))) (by decide +kernel)
set_option maxRecDepth 20000 in
theorem wd1011 : Cond.code ⟨"CageLift$Setting", "tryDeed", "(LCageLift$Plan;J)I"⟩ prog_11_method_8_code 4 (Option.some FieldType.int) ∈ aj_TB := aj_memL (aj_t4 (List.mem_of_getElem? (i := 162) (by decide +kernel))) (by decide +kernel)
set_option maxRecDepth 20000 in
theorem wd1009 : Cond.instanceMethod ⟨"CageLift$Setting", "tryDeed", "(LCageLift$Plan;J)I"⟩ ∈ aj_TB := aj_memL (aj_t4 (List.mem_of_getElem? (i := 160) (by decide +kernel))) (by decide +kernel)
set_option maxRecDepth 20000 in
theorem wd1010 : Cond.selects "CageLift$Setting" ⟨"CageLift$Setting", "tryDeed", "(LCageLift$Plan;J)I"⟩ ⟨"CageLift$Setting", "tryDeed", "(LCageLift$Plan;J)I"⟩ ∈ aj_TB := aj_memL (aj_t4 (List.mem_of_getElem? (i := 161) (by decide +kernel))) (by decide +kernel)
set_option maxRecDepth 20000 in
theorem wd1014 : Cond.methodLink "CageLift$Setting" 44 ⟨"CageLift$Setting", "twistTo", "(I)I"⟩ ∈ aj_TB := aj_memL (aj_t4 (List.mem_of_getElem? (i := 165) (by decide +kernel))) (by decide +kernel)
set_option maxRecDepth 20000 in
theorem wd1017 : Cond.methodLink "CageLift$Setting" 52 ⟨"CageLift$Setting", "cutOrJoin", "(LCageLift$Plan;I)I"⟩ ∈ aj_TB := aj_memL (aj_t4 (List.mem_of_getElem? (i := 168) (by decide +kernel))) (by decide +kernel)
set_option maxRecDepth 20000 in
theorem wd1020 : Cond.methodLink "CageLift$Setting" 60 ⟨"CageLift$Setting", "turnTo", "(LCageLift$Plan;II)I"⟩ ∈ aj_TB := aj_memL (aj_t4 (List.mem_of_getElem? (i := 171) (by decide +kernel))) (by decide +kernel)
set_option maxRecDepth 20000 in
theorem wd1021 : Cond.methodLink "CageLift" 209 ⟨"CageLift$Network", "build", "(LCageLift$Plan;LCageLift$Setting;)V"⟩ ∈ aj_TB := aj_memL (aj_t4 (List.mem_of_getElem? (i := 172) (by decide +kernel))) (by decide +kernel)
set_option maxRecDepth 20000 in
theorem wd138 : Cond.initialized "CageLift$Network" ∈ aj_TB := aj_memL (aj_t1 (List.mem_of_getElem? (i := 9) (by decide +kernel))) (by decide +kernel)
set_option maxRecDepth 20000 in
theorem wd1024 : Cond.code ⟨"CageLift$Network", "build", "(LCageLift$Plan;LCageLift$Setting;)V"⟩ prog_7_method_2_code 8 (Option.none : Option FieldType) ∈ aj_TB := aj_memL (aj_t4 (List.mem_of_getElem? (i := 175) (by decide +kernel))) (by decide +kernel)
set_option maxRecDepth 20000 in
theorem wd1022 : Cond.instanceMethod ⟨"CageLift$Network", "build", "(LCageLift$Plan;LCageLift$Setting;)V"⟩ ∈ aj_TB := aj_memL (aj_t4 (List.mem_of_getElem? (i := 173) (by decide +kernel))) (by decide +kernel)
set_option maxRecDepth 20000 in
theorem wd1023 : Cond.selects "CageLift$Network" ⟨"CageLift$Network", "build", "(LCageLift$Plan;LCageLift$Setting;)V"⟩ ⟨"CageLift$Network", "build", "(LCageLift$Plan;LCageLift$Setting;)V"⟩ ∈ aj_TB := aj_memL (aj_t4 (List.mem_of_getElem? (i := 174) (by decide +kernel))) (by decide +kernel)
set_option maxRecDepth 20000 in
theorem wd1025 : Cond.methodLink "CageLift$Network" 85 ⟨"CageLift$Plan", "knowKept", "(I)V"⟩ ∈ aj_TB := aj_memL (aj_t4 (List.mem_of_getElem? (i := 176) (by decide +kernel))) (by decide +kernel)
set_option maxRecDepth 20000 in
theorem wd1028 : Cond.code ⟨"CageLift$Plan", "knowKept", "(I)V"⟩ prog_8_method_8_code 6 (Option.none : Option FieldType) ∈ aj_TB := aj_memL (aj_t4 (List.mem_of_getElem? (i := 179) (by decide +kernel))) (by decide +kernel)
set_option maxRecDepth 20000 in
theorem wd1026 : Cond.instanceMethod ⟨"CageLift$Plan", "knowKept", "(I)V"⟩ ∈ aj_TB := aj_memL (aj_t4 (List.mem_of_getElem? (i := 177) (by decide +kernel))) (by decide +kernel)
set_option maxRecDepth 20000 in
theorem wd1027 : Cond.selects "CageLift$Plan" ⟨"CageLift$Plan", "knowKept", "(I)V"⟩ ⟨"CageLift$Plan", "knowKept", "(I)V"⟩ ∈ aj_TB := aj_memL (aj_t4 (List.mem_of_getElem? (i := 178) (by decide +kernel))) (by decide +kernel)
set_option maxRecDepth 20000 in
theorem wd1029 : Cond.methodLink "CageLift$Plan" 99 ⟨"CageLift$Laws", "value", "(IILCageLift$Plan;III)I"⟩ ∈ aj_TB := aj_memL (aj_t4 (List.mem_of_getElem? (i := 180) (by decide +kernel))) (by decide +kernel)
set_option maxRecDepth 20000 in
theorem wd1032 : Cond.code ⟨"CageLift$Laws", "value", "(IILCageLift$Plan;III)I"⟩ prog_6_method_5_code 12 (Option.some FieldType.int) ∈ aj_TB := aj_memL (aj_t4 (List.mem_of_getElem? (i := 183) (by decide +kernel))) (by decide +kernel)
set_option maxRecDepth 20000 in
theorem wd1030 : Cond.instanceMethod ⟨"CageLift$Laws", "value", "(IILCageLift$Plan;III)I"⟩ ∈ aj_TB := aj_memL (aj_t4 (List.mem_of_getElem? (i := 181) (by decide +kernel))) (by decide +kernel)
set_option maxRecDepth 20000 in
theorem wd1031 : Cond.selects "CageLift$Laws" ⟨"CageLift$Laws", "value", "(IILCageLift$Plan;III)I"⟩ ⟨"CageLift$Laws", "value", "(IILCageLift$Plan;III)I"⟩ ∈ aj_TB := aj_memL (aj_t4 (List.mem_of_getElem? (i := 182) (by decide +kernel))) (by decide +kernel)
set_option maxRecDepth 20000 in
theorem wd1033 : Cond.methodLink "CageLift$Laws" 40 ⟨"CageLift$Laws", "atom", "(IILCageLift$Plan;III)I"⟩ ∈ aj_TB := aj_memL (aj_t4 (List.mem_of_getElem? (i := 184) (by decide +kernel))) (by decide +kernel)
set_option maxRecDepth 20000 in
theorem wd1035 : Cond.code ⟨"CageLift$Laws", "atom", "(IILCageLift$Plan;III)I"⟩ prog_6_method_6_code 6 (Option.some FieldType.int) ∈ aj_TB := aj_memL (aj_t4 (List.mem_of_getElem? (i := 186) (by decide +kernel))) (by decide +kernel)
set_option maxRecDepth 20000 in
theorem wd1034 : Cond.static ⟨"CageLift$Laws", "atom", "(IILCageLift$Plan;III)I"⟩ ∈ aj_TB := aj_memL (aj_t4 (List.mem_of_getElem? (i := 185) (by decide +kernel))) (by decide +kernel)
set_option maxRecDepth 20000 in
theorem wd1036 : Cond.methodLink "CageLift$Laws" 44 ⟨"CageLift$Laws", "joined", "(III)J"⟩ ∈ aj_TB := aj_memL (aj_t4 (List.mem_of_getElem? (i := 187) (by decide +kernel))) (by decide +kernel)
set_option maxRecDepth 20000 in
theorem wd1038 : Cond.code ⟨"CageLift$Laws", "joined", "(III)J"⟩ prog_6_method_7_code 3 (Option.some FieldType.long) ∈ aj_TB := aj_memL (aj_t4 (List.mem_of_getElem? (i := 189) (by decide +kernel))) (by decide +kernel)
set_option maxRecDepth 20000 in
theorem wd1037 : Cond.static ⟨"CageLift$Laws", "joined", "(III)J"⟩ ∈ aj_TB := aj_memL (aj_t4 (List.mem_of_getElem? (i := 188) (by decide +kernel))) (by decide +kernel)
set_option maxRecDepth 20000 in
theorem wd1041 : Cond.methodLink "CageLift$Laws" 52 ⟨"java/lang/Math", "min", "(JJ)J"⟩ ∈ aj_TB := aj_memL (aj_t4 (List.mem_of_getElem? (i := 192) (by decide +kernel))) (by decide +kernel)
set_option maxRecDepth 20000 in
theorem wd1043 : Cond.code ⟨"java/lang/Math", "min", "(JJ)J"⟩ prog_17_method_70_code 4 (Option.some FieldType.long) ∈ aj_TB := aj_memL (aj_t4 (List.mem_of_getElem? (i := 194) (by decide +kernel))) (by decide +kernel)
set_option maxRecDepth 20000 in
theorem wd1042 : Cond.static ⟨"java/lang/Math", "min", "(JJ)J"⟩ ∈ aj_TB := aj_memL (aj_t4 (List.mem_of_getElem? (i := 193) (by decide +kernel))) (by decide +kernel)
set_option maxRecDepth 20000 in
theorem wd1044 : Cond.methodLink "CageLift$Laws" 58 ⟨"java/lang/Math", "max", "(JJ)J"⟩ ∈ aj_TB := aj_memL (aj_t4 (List.mem_of_getElem? (i := 195) (by decide +kernel))) (by decide +kernel)
set_option maxRecDepth 20000 in
theorem wd1046 : Cond.code ⟨"java/lang/Math", "max", "(JJ)J"⟩ prog_17_method_66_code 4 (Option.some FieldType.long) ∈ aj_TB := aj_memL (aj_t4 (List.mem_of_getElem? (i := 197) (by decide +kernel))) (by decide +kernel)
set_option maxRecDepth 20000 in
theorem wd1045 : Cond.static ⟨"java/lang/Math", "max", "(JJ)J"⟩ ∈ aj_TB := aj_memL (aj_t4 (List.mem_of_getElem? (i := 196) (by decide +kernel))) (by decide +kernel)
set_option maxRecDepth 20000 in
theorem wd1047 : Cond.methodLink "CageLift$Network" 92 ⟨"CageLift$Setting", "isOut", "(I)Z"⟩ ∈ aj_TB := aj_memL (aj_t4 (List.mem_of_getElem? (i := 198) (by decide +kernel))) (by decide +kernel)
set_option maxRecDepth 20000 in
theorem wd1048 : Cond.methodLink "CageLift$Network" 96 ⟨"CageLift$Plan", "isHalf", "(I)Z"⟩ ∈ aj_TB := aj_memL (aj_t4 (List.mem_of_getElem? (i := 199) (by decide +kernel))) (by decide +kernel)
set_option maxRecDepth 20000 in
theorem wd1049 : Cond.methodLink "CageLift$Network" 102 ⟨"CageLift$Group", "times", "(II)I"⟩ ∈ aj_TB := aj_memL (aj_t4 (List.mem_of_getElem? (i := 200) (by decide +kernel))) (by decide +kernel)
set_option maxRecDepth 20000 in
theorem wd1050 : Cond.methodLink "CageLift$Network" 115 ⟨"CageLift$Network", "addLink", "(IIII)V"⟩ ∈ aj_TB := aj_memL (aj_t4 (List.mem_of_getElem? (i := 201) (by decide +kernel))) (by decide +kernel)
set_option maxRecDepth 20000 in
theorem wd1053 : Cond.code ⟨"CageLift$Network", "addLink", "(IIII)V"⟩ prog_7_method_3_code 5 (Option.none : Option FieldType) ∈ aj_TB := aj_memL (aj_t4 (List.mem_of_getElem? (i := 204) (by decide +kernel))) (by decide +kernel)
set_option maxRecDepth 20000 in
theorem wd1052 : Cond.instanceMethod ⟨"CageLift$Network", "addLink", "(IIII)V"⟩ ∈ aj_TB := aj_memL (aj_t4 (List.mem_of_getElem? (i := 203) (by decide +kernel))) (by decide +kernel)
set_option maxRecDepth 20000 in
theorem wd26 : Cond.selects "CageLift$Network" ⟨"CageLift$Network", "addLink", "(IIII)V"⟩ ⟨"CageLift$Network", "addLink", "(IIII)V"⟩ ∈ aj_TB := aj_memL (List.mem_append_left _ (List.mem_of_getElem? (i := 26) (by decide +kernel))) (by decide +kernel)
set_option maxRecDepth 20000 in
theorem wd1054 : Cond.methodLink "CageLift$Network" 122 ⟨"CageLift$Network", "has", "(I)Z"⟩ ∈ aj_TB := aj_memL (aj_t4 (List.mem_of_getElem? (i := 205) (by decide +kernel))) (by decide +kernel)
set_option maxRecDepth 20000 in
theorem wd1057 : Cond.code ⟨"CageLift$Network", "has", "(I)Z"⟩ prog_7_method_5_code 2 (Option.some FieldType.boolean) ∈ aj_TB := aj_memL (aj_t4 (List.mem_of_getElem? (i := 208) (by decide +kernel))) (by decide +kernel)
set_option maxRecDepth 20000 in
theorem wd1055 : Cond.instanceMethod ⟨"CageLift$Network", "has", "(I)Z"⟩ ∈ aj_TB := aj_memL (aj_t4 (List.mem_of_getElem? (i := 206) (by decide +kernel))) (by decide +kernel)
set_option maxRecDepth 20000 in
theorem wd1056 : Cond.selects "CageLift$Network" ⟨"CageLift$Network", "has", "(I)Z"⟩ ⟨"CageLift$Network", "has", "(I)Z"⟩ ∈ aj_TB := aj_memL (aj_t4 (List.mem_of_getElem? (i := 207) (by decide +kernel))) (by decide +kernel)
set_option maxRecDepth 20000 in
theorem wd1058 : Cond.methodLink "CageLift$Network" 119 ⟨"CageLift$Network", "sortEnds", "()V"⟩ ∈ aj_TB := aj_memL (aj_t4 (List.mem_of_getElem? (i := 209) (by decide +kernel))) (by decide +kernel)
set_option maxRecDepth 20000 in
theorem wd1061 : Cond.code ⟨"CageLift$Network", "sortEnds", "()V"⟩ prog_7_method_4_code 2 (Option.none : Option FieldType) ∈ aj_TB := aj_memL (aj_t4 (List.mem_of_getElem? (i := 212) (by decide +kernel))) (by decide +kernel)
set_option maxRecDepth 20000 in
theorem wd1060 : Cond.instanceMethod ⟨"CageLift$Network", "sortEnds", "()V"⟩ ∈ aj_TB := aj_memL (aj_t4 (List.mem_of_getElem? (i := 211) (by decide +kernel))) (by decide +kernel)
set_option maxRecDepth 20000 in
theorem wd27 : Cond.selects "CageLift$Network" ⟨"CageLift$Network", "sortEnds", "()V"⟩ ⟨"CageLift$Network", "sortEnds", "()V"⟩ ∈ aj_TB := aj_memL (List.mem_append_left _ (List.mem_of_getElem? (i := 27) (by decide +kernel))) (by decide +kernel)
set_option maxRecDepth 20000 in
theorem wd1062 : Cond.methodLink "CageLift$Network" 125 ⟨"java/util/Arrays", "fill", "([II)V"⟩ ∈ aj_TB := aj_memL (aj_t4 (List.mem_of_getElem? (i := 213) (by decide +kernel))) (by decide +kernel)
set_option maxRecDepth 20000 in
theorem wd150 : Cond.initialized "java/util/Arrays" ∈ aj_TB := aj_memL (aj_t1 (List.mem_of_getElem? (i := 21) (by decide +kernel))) (by decide +kernel)
set_option maxRecDepth 20000 in
theorem wd1064 : Cond.code ⟨"java/util/Arrays", "fill", "([II)V"⟩ prog_22_method_103_code 4 (Option.none : Option FieldType) ∈ aj_TB := aj_memL (aj_t4 (List.mem_of_getElem? (i := 215) (by decide +kernel))) (by decide +kernel)
set_option maxRecDepth 20000 in
theorem wd1063 : Cond.static ⟨"java/util/Arrays", "fill", "([II)V"⟩ ∈ aj_TB := aj_memL (aj_t4 (List.mem_of_getElem? (i := 214) (by decide +kernel))) (by decide +kernel)
set_option maxRecDepth 20000 in
theorem wd1065 : Cond.methodLink "CageLift" 213 ⟨"CageLift$Network", "shortestRing", "()I"⟩ ∈ aj_TB := aj_memL (aj_t4 (List.mem_of_getElem? (i := 216) (by decide +kernel))) (by decide +kernel)
set_option maxRecDepth 20000 in
theorem wd1068 : Cond.code ⟨"CageLift$Network", "shortestRing", "()I"⟩ prog_7_method_17_code 3 (Option.some FieldType.int) ∈ aj_TB := aj_memL (aj_t4 (List.mem_of_getElem? (i := 219) (by decide +kernel))) (by decide +kernel)
set_option maxRecDepth 20000 in
theorem wd1066 : Cond.instanceMethod ⟨"CageLift$Network", "shortestRing", "()I"⟩ ∈ aj_TB := aj_memL (aj_t4 (List.mem_of_getElem? (i := 217) (by decide +kernel))) (by decide +kernel)
set_option maxRecDepth 20000 in
theorem wd1067 : Cond.selects "CageLift$Network" ⟨"CageLift$Network", "shortestRing", "()I"⟩ ⟨"CageLift$Network", "shortestRing", "()I"⟩ ∈ aj_TB := aj_memL (aj_t4 (List.mem_of_getElem? (i := 218) (by decide +kernel))) (by decide +kernel)
set_option maxRecDepth 20000 in
theorem wd1070 : Cond.methodLink "CageLift$Network" 152 ⟨"CageLift$Network", "shorterFrom", "(II)I"⟩ ∈ aj_TB := aj_memL (aj_t4 (List.mem_of_getElem? (i := 221) (by decide +kernel))) (by decide +kernel)
set_option maxRecDepth 20000 in
theorem wd1073 : Cond.code ⟨"CageLift$Network", "shorterFrom", "(II)I"⟩ prog_7_method_18_code 10 (Option.some FieldType.int) ∈ aj_TB := aj_memL (aj_t4 (List.mem_of_getElem? (i := 224) (by decide +kernel))) (by decide +kernel)
set_option maxRecDepth 20000 in
theorem wd1072 : Cond.instanceMethod ⟨"CageLift$Network", "shorterFrom", "(II)I"⟩ ∈ aj_TB := aj_memL (aj_t4 (List.mem_of_getElem? (i := 223) (by decide +kernel))) (by decide +kernel)
set_option maxRecDepth 20000 in
theorem wd28 : Cond.selects "CageLift$Network" ⟨"CageLift$Network", "shorterFrom", "(II)I"⟩ ⟨"CageLift$Network", "shorterFrom", "(II)I"⟩ ∈ aj_TB := aj_memL (List.mem_append_left _ (List.mem_of_getElem? (i := 28) (by decide +kernel))) (by decide +kernel)
set_option maxRecDepth 20000 in
theorem wd1074 : Cond.methodLink "CageLift$Network" 131 ⟨"CageLift$Network", "otherEnd", "(II)I"⟩ ∈ aj_TB := aj_memL (aj_t4 (List.mem_of_getElem? (i := 225) (by decide +kernel))) (by decide +kernel)
set_option maxRecDepth 20000 in
theorem wd1077 : Cond.code ⟨"CageLift$Network", "otherEnd", "(II)I"⟩ prog_7_method_6_code 3 (Option.some FieldType.int) ∈ aj_TB := aj_memL (aj_t4 (List.mem_of_getElem? (i := 228) (by decide +kernel))) (by decide +kernel)
set_option maxRecDepth 20000 in
theorem wd1075 : Cond.instanceMethod ⟨"CageLift$Network", "otherEnd", "(II)I"⟩ ∈ aj_TB := aj_memL (aj_t4 (List.mem_of_getElem? (i := 226) (by decide +kernel))) (by decide +kernel)
set_option maxRecDepth 20000 in
theorem wd1076 : Cond.selects "CageLift$Network" ⟨"CageLift$Network", "otherEnd", "(II)I"⟩ ⟨"CageLift$Network", "otherEnd", "(II)I"⟩ ∈ aj_TB := aj_memL (aj_t4 (List.mem_of_getElem? (i := 227) (by decide +kernel))) (by decide +kernel)
set_option maxRecDepth 20000 in
theorem wd1078 : Cond.methodLink "CageLift$Network" 155 ⟨"java/lang/Math", "min", "(II)I"⟩ ∈ aj_TB := aj_memL (aj_t4 (List.mem_of_getElem? (i := 229) (by decide +kernel))) (by decide +kernel)
set_option maxRecDepth 20000 in
theorem wd1079 : Cond.methodLink "CageLift" 216 ⟨"CageLift", "orNone", "(I)I"⟩ ∈ aj_TB := aj_memL (aj_t4 (List.mem_of_getElem? (i := 230) (by decide +kernel))) (by decide +kernel)
set_option maxRecDepth 20000 in
theorem wd1081 : Cond.code ⟨"CageLift", "orNone", "(I)I"⟩ prog_1_method_53_code 1 (Option.some FieldType.int) ∈ aj_TB := aj_memL (aj_t4 (List.mem_of_getElem? (i := 232) (by decide +kernel))) (by decide +kernel)
set_option maxRecDepth 20000 in
theorem wd1080 : Cond.static ⟨"CageLift", "orNone", "(I)I"⟩ ∈ aj_TB := aj_memL (aj_t4 (List.mem_of_getElem? (i := 231) (by decide +kernel))) (by decide +kernel)
set_option maxRecDepth 20000 in
theorem wd1083 : Cond.methodLink "CageLiftLaw" 69 ⟨"CageLift", "perform", "(I)I"⟩ ∈ aj_TB := aj_memL (aj_t4 (List.mem_of_getElem? (i := 234) (by decide +kernel))) (by decide +kernel)
set_option maxRecDepth 20000 in
theorem wd1086 : Cond.code ⟨"CageLift", "perform", "(I)I"⟩ prog_1_method_15_code 4 (Option.some FieldType.int) ∈ aj_TB := aj_memL (aj_t4 (List.mem_of_getElem? (i := 237) (by decide +kernel))) (by decide +kernel)
set_option maxRecDepth 20000 in
theorem wd1084 : Cond.instanceMethod ⟨"CageLift", "perform", "(I)I"⟩ ∈ aj_TB := aj_memL (aj_t4 (List.mem_of_getElem? (i := 235) (by decide +kernel))) (by decide +kernel)
set_option maxRecDepth 20000 in
theorem wd1085 : Cond.selects "CageLift" ⟨"CageLift", "perform", "(I)I"⟩ ⟨"CageLift", "perform", "(I)I"⟩ ∈ aj_TB := aj_memL (aj_t4 (List.mem_of_getElem? (i := 236) (by decide +kernel))) (by decide +kernel)
set_option maxRecDepth 20000 in
theorem wd1087 : Cond.methodLink "CageLift" 222 ⟨"CageLift", "trayCode", "(I)I"⟩ ∈ aj_TB := aj_memL (aj_t4 (List.mem_of_getElem? (i := 238) (by decide +kernel))) (by decide +kernel)
set_option maxRecDepth 20000 in
theorem wd1090 : Cond.code ⟨"CageLift", "trayCode", "(I)I"⟩ prog_1_method_52_code 2 (Option.some FieldType.int) ∈ aj_TB := aj_memL (aj_t5 (List.mem_of_getElem? (i := 1) (by decide +kernel))) (by decide +kernel)
set_option maxRecDepth 20000 in
theorem wd1089 : Cond.instanceMethod ⟨"CageLift", "trayCode", "(I)I"⟩ ∈ aj_TB := aj_memL (aj_t5 (List.mem_of_getElem? (i := 0) (by decide +kernel))) (by decide +kernel)
set_option maxRecDepth 20000 in
theorem wd29 : Cond.selects "CageLift" ⟨"CageLift", "trayCode", "(I)I"⟩ ⟨"CageLift", "trayCode", "(I)I"⟩ ∈ aj_TB := aj_memL (List.mem_append_left _ (List.mem_of_getElem? (i := 29) (by decide +kernel))) (by decide +kernel)
set_option maxRecDepth 20000 in
theorem wd1091 : Cond.methodLink "CageLiftLaw" 73 ⟨"CageLift", "day", "(II)I"⟩ ∈ aj_TB := aj_memL (aj_t5 (List.mem_of_getElem? (i := 2) (by decide +kernel))) (by decide +kernel)
set_option maxRecDepth 20000 in
theorem wd1094 : Cond.code ⟨"CageLift", "day", "(II)I"⟩ prog_1_method_16_code 8 (Option.some FieldType.int) ∈ aj_TB := aj_memL (aj_t5 (List.mem_of_getElem? (i := 5) (by decide +kernel))) (by decide +kernel)
set_option maxRecDepth 20000 in
theorem wd1092 : Cond.instanceMethod ⟨"CageLift", "day", "(II)I"⟩ ∈ aj_TB := aj_memL (aj_t5 (List.mem_of_getElem? (i := 3) (by decide +kernel))) (by decide +kernel)
set_option maxRecDepth 20000 in
theorem wd1093 : Cond.selects "CageLift" ⟨"CageLift", "day", "(II)I"⟩ ⟨"CageLift", "day", "(II)I"⟩ ∈ aj_TB := aj_memL (aj_t5 (List.mem_of_getElem? (i := 4) (by decide +kernel))) (by decide +kernel)
set_option maxRecDepth 20000 in
theorem wd1095 : Cond.methodLink "CageLift" 225 ⟨"CageLift", "nextDraw", "(I)I"⟩ ∈ aj_TB := aj_memL (aj_t5 (List.mem_of_getElem? (i := 6) (by decide +kernel))) (by decide +kernel)
set_option maxRecDepth 20000 in
theorem wd1097 : Cond.code ⟨"CageLift", "nextDraw", "(I)I"⟩ prog_1_method_57_code 1 (Option.some FieldType.int) ∈ aj_TB := aj_memL (aj_t5 (List.mem_of_getElem? (i := 8) (by decide +kernel))) (by decide +kernel)
set_option maxRecDepth 20000 in
theorem wd1096 : Cond.static ⟨"CageLift", "nextDraw", "(I)I"⟩ ∈ aj_TB := aj_memL (aj_t5 (List.mem_of_getElem? (i := 7) (by decide +kernel))) (by decide +kernel)
set_option maxRecDepth 20000 in
theorem wd1099 : Cond.methodLink "CageLift" 228 ⟨"CageLift", "drawnDeed", "(II)I"⟩ ∈ aj_TB := aj_memL (aj_t5 (List.mem_of_getElem? (i := 10) (by decide +kernel))) (by decide +kernel)
set_option maxRecDepth 20000 in
theorem wd1101 : Cond.code ⟨"CageLift", "drawnDeed", "(II)I"⟩ prog_1_method_58_code 2 (Option.some FieldType.int) ∈ aj_TB := aj_memL (aj_t5 (List.mem_of_getElem? (i := 12) (by decide +kernel))) (by decide +kernel)
set_option maxRecDepth 20000 in
theorem wd1100 : Cond.static ⟨"CageLift", "drawnDeed", "(II)I"⟩ ∈ aj_TB := aj_memL (aj_t5 (List.mem_of_getElem? (i := 11) (by decide +kernel))) (by decide +kernel)
set_option maxRecDepth 20000 in
theorem wd1102 : Cond.methodLink "CageLiftLaw" 77 ⟨"CageLift", "joins", "(II)I"⟩ ∈ aj_TB := aj_memL (aj_t5 (List.mem_of_getElem? (i := 13) (by decide +kernel))) (by decide +kernel)
set_option maxRecDepth 20000 in
theorem wd1105 : Cond.code ⟨"CageLift", "joins", "(II)I"⟩ prog_1_method_17_code 4 (Option.some FieldType.int) ∈ aj_TB := aj_memL (aj_t5 (List.mem_of_getElem? (i := 16) (by decide +kernel))) (by decide +kernel)
set_option maxRecDepth 20000 in
theorem wd1103 : Cond.instanceMethod ⟨"CageLift", "joins", "(II)I"⟩ ∈ aj_TB := aj_memL (aj_t5 (List.mem_of_getElem? (i := 14) (by decide +kernel))) (by decide +kernel)
set_option maxRecDepth 20000 in
theorem wd1104 : Cond.selects "CageLift" ⟨"CageLift", "joins", "(II)I"⟩ ⟨"CageLift", "joins", "(II)I"⟩ ∈ aj_TB := aj_memL (aj_t5 (List.mem_of_getElem? (i := 15) (by decide +kernel))) (by decide +kernel)
set_option maxRecDepth 20000 in
theorem wd1106 : Cond.methodLink "CageLift" 231 ⟨"CageLift", "current", "()LCageLift$Network;"⟩ ∈ aj_TB := aj_memL (aj_t5 (List.mem_of_getElem? (i := 17) (by decide +kernel))) (by decide +kernel)
set_option maxRecDepth 20000 in
theorem wd1109 : Cond.code ⟨"CageLift", "current", "()LCageLift$Network;"⟩ prog_1_method_54_code 1 (Option.some (FieldType.object "CageLift$Network")) ∈ aj_TB := aj_memL (aj_t5 (List.mem_of_getElem? (i := 20) (by decide +kernel))) (by decide +kernel)
set_option maxRecDepth 20000 in
theorem wd1108 : Cond.instanceMethod ⟨"CageLift", "current", "()LCageLift$Network;"⟩ ∈ aj_TB := aj_memL (aj_t5 (List.mem_of_getElem? (i := 19) (by decide +kernel))) (by decide +kernel)
set_option maxRecDepth 20000 in
theorem wd30 : Cond.selects "CageLift" ⟨"CageLift", "current", "()LCageLift$Network;"⟩ ⟨"CageLift", "current", "()LCageLift$Network;"⟩ ∈ aj_TB := aj_memL (List.mem_append_left _ (List.mem_of_getElem? (i := 30) (by decide +kernel))) (by decide +kernel)
set_option maxRecDepth 20000 in
theorem wd1110 : Cond.methodLink "CageLift" 235 ⟨"CageLift$Network", "has", "(I)Z"⟩ ∈ aj_TB := aj_memL (aj_t5 (List.mem_of_getElem? (i := 21) (by decide +kernel))) (by decide +kernel)
set_option maxRecDepth 20000 in
theorem wd1111 : Cond.methodLink "CageLift" 236 ⟨"CageLift$Network", "linksBetween", "(II)I"⟩ ∈ aj_TB := aj_memL (aj_t5 (List.mem_of_getElem? (i := 22) (by decide +kernel))) (by decide +kernel)
set_option maxRecDepth 20000 in
theorem wd1114 : Cond.code ⟨"CageLift$Network", "linksBetween", "(II)I"⟩ prog_7_method_8_code 5 (Option.some FieldType.int) ∈ aj_TB := aj_memL (aj_t5 (List.mem_of_getElem? (i := 25) (by decide +kernel))) (by decide +kernel)
set_option maxRecDepth 20000 in
theorem wd1112 : Cond.instanceMethod ⟨"CageLift$Network", "linksBetween", "(II)I"⟩ ∈ aj_TB := aj_memL (aj_t5 (List.mem_of_getElem? (i := 23) (by decide +kernel))) (by decide +kernel)
set_option maxRecDepth 20000 in
theorem wd1113 : Cond.selects "CageLift$Network" ⟨"CageLift$Network", "linksBetween", "(II)I"⟩ ⟨"CageLift$Network", "linksBetween", "(II)I"⟩ ∈ aj_TB := aj_memL (aj_t5 (List.mem_of_getElem? (i := 24) (by decide +kernel))) (by decide +kernel)
set_option maxRecDepth 20000 in
theorem wd1115 : Cond.methodLink "CageLiftLaw" 81 ⟨"CageLift", "degree", "(I)I"⟩ ∈ aj_TB := aj_memL (aj_t5 (List.mem_of_getElem? (i := 26) (by decide +kernel))) (by decide +kernel)
set_option maxRecDepth 20000 in
theorem wd1118 : Cond.code ⟨"CageLift", "degree", "(I)I"⟩ prog_1_method_18_code 3 (Option.some FieldType.int) ∈ aj_TB := aj_memL (aj_t5 (List.mem_of_getElem? (i := 29) (by decide +kernel))) (by decide +kernel)
set_option maxRecDepth 20000 in
theorem wd1116 : Cond.instanceMethod ⟨"CageLift", "degree", "(I)I"⟩ ∈ aj_TB := aj_memL (aj_t5 (List.mem_of_getElem? (i := 27) (by decide +kernel))) (by decide +kernel)
set_option maxRecDepth 20000 in
theorem wd1117 : Cond.selects "CageLift" ⟨"CageLift", "degree", "(I)I"⟩ ⟨"CageLift", "degree", "(I)I"⟩ ∈ aj_TB := aj_memL (aj_t5 (List.mem_of_getElem? (i := 28) (by decide +kernel))) (by decide +kernel)
set_option maxRecDepth 20000 in
theorem wd1119 : Cond.methodLink "CageLift" 239 ⟨"CageLift$Network", "endsAt", "(I)I"⟩ ∈ aj_TB := aj_memL (aj_t5 (List.mem_of_getElem? (i := 30) (by decide +kernel))) (by decide +kernel)
set_option maxRecDepth 20000 in
theorem wd1122 : Cond.code ⟨"CageLift$Network", "endsAt", "(I)I"⟩ prog_7_method_7_code 2 (Option.some FieldType.int) ∈ aj_TB := aj_memL (aj_t5 (List.mem_of_getElem? (i := 33) (by decide +kernel))) (by decide +kernel)
set_option maxRecDepth 20000 in
theorem wd1120 : Cond.instanceMethod ⟨"CageLift$Network", "endsAt", "(I)I"⟩ ∈ aj_TB := aj_memL (aj_t5 (List.mem_of_getElem? (i := 31) (by decide +kernel))) (by decide +kernel)
set_option maxRecDepth 20000 in
theorem wd1121 : Cond.selects "CageLift$Network" ⟨"CageLift$Network", "endsAt", "(I)I"⟩ ⟨"CageLift$Network", "endsAt", "(I)I"⟩ ∈ aj_TB := aj_memL (aj_t5 (List.mem_of_getElem? (i := 32) (by decide +kernel))) (by decide +kernel)
set_option maxRecDepth 20000 in
theorem wd1123 : Cond.methodLink "CageLiftLaw" 85 ⟨"CageLift", "neighbour", "(II)I"⟩ ∈ aj_TB := aj_memL (aj_t5 (List.mem_of_getElem? (i := 34) (by decide +kernel))) (by decide +kernel)
set_option maxRecDepth 20000 in
theorem wd1126 : Cond.code ⟨"CageLift", "neighbour", "(II)I"⟩ prog_1_method_19_code 4 (Option.some FieldType.int) ∈ aj_TB := aj_memL (aj_t5 (List.mem_of_getElem? (i := 37) (by decide +kernel))) (by decide +kernel)
set_option maxRecDepth 20000 in
theorem wd1124 : Cond.instanceMethod ⟨"CageLift", "neighbour", "(II)I"⟩ ∈ aj_TB := aj_memL (aj_t5 (List.mem_of_getElem? (i := 35) (by decide +kernel))) (by decide +kernel)
set_option maxRecDepth 20000 in
theorem wd1125 : Cond.selects "CageLift" ⟨"CageLift", "neighbour", "(II)I"⟩ ⟨"CageLift", "neighbour", "(II)I"⟩ ∈ aj_TB := aj_memL (aj_t5 (List.mem_of_getElem? (i := 36) (by decide +kernel))) (by decide +kernel)
set_option maxRecDepth 20000 in
theorem wd1127 : Cond.methodLink "CageLift" 242 ⟨"CageLift$Network", "neighbourAt", "(II)I"⟩ ∈ aj_TB := aj_memL (aj_t5 (List.mem_of_getElem? (i := 38) (by decide +kernel))) (by decide +kernel)
set_option maxRecDepth 20000 in
theorem wd1130 : Cond.code ⟨"CageLift$Network", "neighbourAt", "(II)I"⟩ prog_7_method_9_code 5 (Option.some FieldType.int) ∈ aj_TB := aj_memL (aj_t5 (List.mem_of_getElem? (i := 41) (by decide +kernel))) (by decide +kernel)
set_option maxRecDepth 20000 in
theorem wd1128 : Cond.instanceMethod ⟨"CageLift$Network", "neighbourAt", "(II)I"⟩ ∈ aj_TB := aj_memL (aj_t5 (List.mem_of_getElem? (i := 39) (by decide +kernel))) (by decide +kernel)
set_option maxRecDepth 20000 in
theorem wd1129 : Cond.selects "CageLift$Network" ⟨"CageLift$Network", "neighbourAt", "(II)I"⟩ ⟨"CageLift$Network", "neighbourAt", "(II)I"⟩ ∈ aj_TB := aj_memL (aj_t5 (List.mem_of_getElem? (i := 40) (by decide +kernel))) (by decide +kernel)
set_option maxRecDepth 20000 in
theorem wd1132 : Cond.methodLink "CageLiftLaw" 89 ⟨"CageLift", "regular", "()I"⟩ ∈ aj_TB := aj_memL (aj_t5 (List.mem_of_getElem? (i := 43) (by decide +kernel))) (by decide +kernel)
set_option maxRecDepth 20000 in
theorem wd1135 : Cond.code ⟨"CageLift", "regular", "()I"⟩ prog_1_method_20_code 1 (Option.some FieldType.int) ∈ aj_TB := aj_memL (aj_t5 (List.mem_of_getElem? (i := 46) (by decide +kernel))) (by decide +kernel)
set_option maxRecDepth 20000 in
theorem wd1133 : Cond.instanceMethod ⟨"CageLift", "regular", "()I"⟩ ∈ aj_TB := aj_memL (aj_t5 (List.mem_of_getElem? (i := 44) (by decide +kernel))) (by decide +kernel)
set_option maxRecDepth 20000 in
theorem wd1134 : Cond.selects "CageLift" ⟨"CageLift", "regular", "()I"⟩ ⟨"CageLift", "regular", "()I"⟩ ∈ aj_TB := aj_memL (aj_t5 (List.mem_of_getElem? (i := 45) (by decide +kernel))) (by decide +kernel)
set_option maxRecDepth 20000 in
theorem wd1136 : Cond.methodLink "CageLift" 245 ⟨"CageLift$Network", "commonDegree", "()I"⟩ ∈ aj_TB := aj_memL (aj_t5 (List.mem_of_getElem? (i := 47) (by decide +kernel))) (by decide +kernel)
set_option maxRecDepth 20000 in
theorem wd1139 : Cond.code ⟨"CageLift$Network", "commonDegree", "()I"⟩ prog_7_method_10_code 2 (Option.some FieldType.int) ∈ aj_TB := aj_memL (aj_t5 (List.mem_of_getElem? (i := 50) (by decide +kernel))) (by decide +kernel)
set_option maxRecDepth 20000 in
theorem wd1137 : Cond.instanceMethod ⟨"CageLift$Network", "commonDegree", "()I"⟩ ∈ aj_TB := aj_memL (aj_t5 (List.mem_of_getElem? (i := 48) (by decide +kernel))) (by decide +kernel)
set_option maxRecDepth 20000 in
theorem wd1138 : Cond.selects "CageLift$Network" ⟨"CageLift$Network", "commonDegree", "()I"⟩ ⟨"CageLift$Network", "commonDegree", "()I"⟩ ∈ aj_TB := aj_memL (aj_t5 (List.mem_of_getElem? (i := 49) (by decide +kernel))) (by decide +kernel)
set_option maxRecDepth 20000 in
theorem wd1140 : Cond.methodLink "CageLift$Network" 136 ⟨"CageLift$Network", "endsAt", "(I)I"⟩ ∈ aj_TB := aj_memL (aj_t5 (List.mem_of_getElem? (i := 51) (by decide +kernel))) (by decide +kernel)
set_option maxRecDepth 20000 in
theorem wd1141 : Cond.methodLink "CageLiftLaw" 93 ⟨"CageLift", "parts", "()I"⟩ ∈ aj_TB := aj_memL (aj_t5 (List.mem_of_getElem? (i := 52) (by decide +kernel))) (by decide +kernel)
set_option maxRecDepth 20000 in
theorem wd1144 : Cond.code ⟨"CageLift", "parts", "()I"⟩ prog_1_method_21_code 1 (Option.some FieldType.int) ∈ aj_TB := aj_memL (aj_t5 (List.mem_of_getElem? (i := 55) (by decide +kernel))) (by decide +kernel)
set_option maxRecDepth 20000 in
theorem wd1142 : Cond.instanceMethod ⟨"CageLift", "parts", "()I"⟩ ∈ aj_TB := aj_memL (aj_t5 (List.mem_of_getElem? (i := 53) (by decide +kernel))) (by decide +kernel)
set_option maxRecDepth 20000 in
theorem wd1143 : Cond.selects "CageLift" ⟨"CageLift", "parts", "()I"⟩ ⟨"CageLift", "parts", "()I"⟩ ∈ aj_TB := aj_memL (aj_t5 (List.mem_of_getElem? (i := 54) (by decide +kernel))) (by decide +kernel)
set_option maxRecDepth 20000 in
theorem wd1145 : Cond.methodLink "CageLift" 248 ⟨"CageLift$Network", "countParts", "()I"⟩ ∈ aj_TB := aj_memL (aj_t5 (List.mem_of_getElem? (i := 56) (by decide +kernel))) (by decide +kernel)
set_option maxRecDepth 20000 in
theorem wd1148 : Cond.code ⟨"CageLift$Network", "countParts", "()I"⟩ prog_7_method_12_code 3 (Option.some FieldType.int) ∈ aj_TB := aj_memL (aj_t5 (List.mem_of_getElem? (i := 59) (by decide +kernel))) (by decide +kernel)
set_option maxRecDepth 20000 in
theorem wd1146 : Cond.instanceMethod ⟨"CageLift$Network", "countParts", "()I"⟩ ∈ aj_TB := aj_memL (aj_t5 (List.mem_of_getElem? (i := 57) (by decide +kernel))) (by decide +kernel)
set_option maxRecDepth 20000 in
theorem wd1147 : Cond.selects "CageLift$Network" ⟨"CageLift$Network", "countParts", "()I"⟩ ⟨"CageLift$Network", "countParts", "()I"⟩ ∈ aj_TB := aj_memL (aj_t5 (List.mem_of_getElem? (i := 58) (by decide +kernel))) (by decide +kernel)
set_option maxRecDepth 20000 in
theorem wd1149 : Cond.methodLink "CageLift$Network" 140 ⟨"CageLift$Network", "spread", "(I)I"⟩ ∈ aj_TB := aj_memL (aj_t5 (List.mem_of_getElem? (i := 60) (by decide +kernel))) (by decide +kernel)
set_option maxRecDepth 20000 in
theorem wd1152 : Cond.code ⟨"CageLift$Network", "spread", "(I)I"⟩ prog_7_method_11_code 7 (Option.some FieldType.int) ∈ aj_TB := aj_memL (aj_t5 (List.mem_of_getElem? (i := 63) (by decide +kernel))) (by decide +kernel)
set_option maxRecDepth 20000 in
theorem wd1150 : Cond.instanceMethod ⟨"CageLift$Network", "spread", "(I)I"⟩ ∈ aj_TB := aj_memL (aj_t5 (List.mem_of_getElem? (i := 61) (by decide +kernel))) (by decide +kernel)
set_option maxRecDepth 20000 in
theorem wd1151 : Cond.selects "CageLift$Network" ⟨"CageLift$Network", "spread", "(I)I"⟩ ⟨"CageLift$Network", "spread", "(I)I"⟩ ∈ aj_TB := aj_memL (aj_t5 (List.mem_of_getElem? (i := 62) (by decide +kernel))) (by decide +kernel)
set_option maxRecDepth 20000 in
theorem wd1153 : Cond.methodLink "CageLift$Network" 143 ⟨"CageLift$Network", "markReached", "(I)V"⟩ ∈ aj_TB := aj_memL (aj_t5 (List.mem_of_getElem? (i := 64) (by decide +kernel))) (by decide +kernel)
set_option maxRecDepth 20000 in
theorem wd1156 : Cond.code ⟨"CageLift$Network", "markReached", "(I)V"⟩ prog_7_method_13_code 3 (Option.none : Option FieldType) ∈ aj_TB := aj_memL (aj_t5 (List.mem_of_getElem? (i := 67) (by decide +kernel))) (by decide +kernel)
set_option maxRecDepth 20000 in
theorem wd1155 : Cond.instanceMethod ⟨"CageLift$Network", "markReached", "(I)V"⟩ ∈ aj_TB := aj_memL (aj_t5 (List.mem_of_getElem? (i := 66) (by decide +kernel))) (by decide +kernel)
set_option maxRecDepth 20000 in
theorem wd31 : Cond.selects "CageLift$Network" ⟨"CageLift$Network", "markReached", "(I)V"⟩ ⟨"CageLift$Network", "markReached", "(I)V"⟩ ∈ aj_TB := aj_memL (List.mem_append_left _ (List.mem_of_getElem? (i := 31) (by decide +kernel))) (by decide +kernel)
set_option maxRecDepth 20000 in
theorem wd1157 : Cond.methodLink "CageLiftLaw" 97 ⟨"CageLift", "twoColours", "()I"⟩ ∈ aj_TB := aj_memL (aj_t5 (List.mem_of_getElem? (i := 68) (by decide +kernel))) (by decide +kernel)
set_option maxRecDepth 20000 in
theorem wd1160 : Cond.code ⟨"CageLift", "twoColours", "()I"⟩ prog_1_method_22_code 1 (Option.some FieldType.int) ∈ aj_TB := aj_memL (aj_t5 (List.mem_of_getElem? (i := 71) (by decide +kernel))) (by decide +kernel)
set_option maxRecDepth 20000 in
theorem wd1158 : Cond.instanceMethod ⟨"CageLift", "twoColours", "()I"⟩ ∈ aj_TB := aj_memL (aj_t5 (List.mem_of_getElem? (i := 69) (by decide +kernel))) (by decide +kernel)
set_option maxRecDepth 20000 in
theorem wd1159 : Cond.selects "CageLift" ⟨"CageLift", "twoColours", "()I"⟩ ⟨"CageLift", "twoColours", "()I"⟩ ∈ aj_TB := aj_memL (aj_t5 (List.mem_of_getElem? (i := 70) (by decide +kernel))) (by decide +kernel)
set_option maxRecDepth 20000 in
theorem wd1161 : Cond.methodLink "CageLift" 251 ⟨"CageLift$Network", "isTwoColoured", "()Z"⟩ ∈ aj_TB := aj_memL (aj_t5 (List.mem_of_getElem? (i := 72) (by decide +kernel))) (by decide +kernel)
set_option maxRecDepth 20000 in
theorem wd1164 : Cond.code ⟨"CageLift$Network", "isTwoColoured", "()Z"⟩ prog_7_method_14_code 4 (Option.some FieldType.boolean) ∈ aj_TB := aj_memL (aj_t5 (List.mem_of_getElem? (i := 75) (by decide +kernel))) (by decide +kernel)
set_option maxRecDepth 20000 in
theorem wd1162 : Cond.instanceMethod ⟨"CageLift$Network", "isTwoColoured", "()Z"⟩ ∈ aj_TB := aj_memL (aj_t5 (List.mem_of_getElem? (i := 73) (by decide +kernel))) (by decide +kernel)
set_option maxRecDepth 20000 in
theorem wd1163 : Cond.selects "CageLift$Network" ⟨"CageLift$Network", "isTwoColoured", "()Z"⟩ ⟨"CageLift$Network", "isTwoColoured", "()Z"⟩ ∈ aj_TB := aj_memL (aj_t5 (List.mem_of_getElem? (i := 74) (by decide +kernel))) (by decide +kernel)
set_option maxRecDepth 20000 in
theorem wd1165 : Cond.methodLink "CageLiftLaw" 101 ⟨"CageLift", "far", "(II)I"⟩ ∈ aj_TB := aj_memL (aj_t5 (List.mem_of_getElem? (i := 76) (by decide +kernel))) (by decide +kernel)
set_option maxRecDepth 20000 in
theorem wd1168 : Cond.code ⟨"CageLift", "far", "(II)I"⟩ prog_1_method_23_code 4 (Option.some FieldType.int) ∈ aj_TB := aj_memL (aj_t5 (List.mem_of_getElem? (i := 79) (by decide +kernel))) (by decide +kernel)
set_option maxRecDepth 20000 in
theorem wd1166 : Cond.instanceMethod ⟨"CageLift", "far", "(II)I"⟩ ∈ aj_TB := aj_memL (aj_t5 (List.mem_of_getElem? (i := 77) (by decide +kernel))) (by decide +kernel)
set_option maxRecDepth 20000 in
theorem wd1167 : Cond.selects "CageLift" ⟨"CageLift", "far", "(II)I"⟩ ⟨"CageLift", "far", "(II)I"⟩ ∈ aj_TB := aj_memL (aj_t5 (List.mem_of_getElem? (i := 78) (by decide +kernel))) (by decide +kernel)
set_option maxRecDepth 20000 in
theorem wd1169 : Cond.methodLink "CageLift" 254 ⟨"CageLift$Network", "spread", "(I)I"⟩ ∈ aj_TB := aj_memL (aj_t5 (List.mem_of_getElem? (i := 80) (by decide +kernel))) (by decide +kernel)
set_option maxRecDepth 20000 in
theorem wd1170 : Cond.methodLink "CageLiftLaw" 105 ⟨"CageLift", "diameter", "()I"⟩ ∈ aj_TB := aj_memL (aj_t5 (List.mem_of_getElem? (i := 81) (by decide +kernel))) (by decide +kernel)
set_option maxRecDepth 20000 in
theorem wd1173 : Cond.code ⟨"CageLift", "diameter", "()I"⟩ prog_1_method_24_code 1 (Option.some FieldType.int) ∈ aj_TB := aj_memL (aj_t5 (List.mem_of_getElem? (i := 84) (by decide +kernel))) (by decide +kernel)
set_option maxRecDepth 20000 in
theorem wd1171 : Cond.instanceMethod ⟨"CageLift", "diameter", "()I"⟩ ∈ aj_TB := aj_memL (aj_t5 (List.mem_of_getElem? (i := 82) (by decide +kernel))) (by decide +kernel)
set_option maxRecDepth 20000 in
theorem wd1172 : Cond.selects "CageLift" ⟨"CageLift", "diameter", "()I"⟩ ⟨"CageLift", "diameter", "()I"⟩ ∈ aj_TB := aj_memL (aj_t5 (List.mem_of_getElem? (i := 83) (by decide +kernel))) (by decide +kernel)
set_option maxRecDepth 20000 in
theorem wd1174 : Cond.methodLink "CageLift" 260 ⟨"CageLift$Network", "widest", "()I"⟩ ∈ aj_TB := aj_memL (aj_t5 (List.mem_of_getElem? (i := 85) (by decide +kernel))) (by decide +kernel)
set_option maxRecDepth 20000 in
theorem wd1177 : Cond.code ⟨"CageLift$Network", "widest", "()I"⟩ prog_7_method_15_code 4 (Option.some FieldType.int) ∈ aj_TB := aj_memL (aj_t5 (List.mem_of_getElem? (i := 88) (by decide +kernel))) (by decide +kernel)
set_option maxRecDepth 20000 in
theorem wd1175 : Cond.instanceMethod ⟨"CageLift$Network", "widest", "()I"⟩ ∈ aj_TB := aj_memL (aj_t5 (List.mem_of_getElem? (i := 86) (by decide +kernel))) (by decide +kernel)
set_option maxRecDepth 20000 in
theorem wd1176 : Cond.selects "CageLift$Network" ⟨"CageLift$Network", "widest", "()I"⟩ ⟨"CageLift$Network", "widest", "()I"⟩ ∈ aj_TB := aj_memL (aj_t5 (List.mem_of_getElem? (i := 87) (by decide +kernel))) (by decide +kernel)
set_option maxRecDepth 20000 in
theorem wd1178 : Cond.methodLink "CageLift$Network" 146 ⟨"java/lang/Math", "max", "(II)I"⟩ ∈ aj_TB := aj_memL (aj_t5 (List.mem_of_getElem? (i := 89) (by decide +kernel))) (by decide +kernel)
set_option maxRecDepth 20000 in
theorem wd1179 : Cond.methodLink "CageLiftLaw" 109 ⟨"CageLift", "ball", "(II)I"⟩ ∈ aj_TB := aj_memL (aj_t5 (List.mem_of_getElem? (i := 90) (by decide +kernel))) (by decide +kernel)
set_option maxRecDepth 20000 in
theorem wd1182 : Cond.code ⟨"CageLift", "ball", "(II)I"⟩ prog_1_method_25_code 4 (Option.some FieldType.int) ∈ aj_TB := aj_memL (aj_t5 (List.mem_of_getElem? (i := 93) (by decide +kernel))) (by decide +kernel)
set_option maxRecDepth 20000 in
theorem wd1180 : Cond.instanceMethod ⟨"CageLift", "ball", "(II)I"⟩ ∈ aj_TB := aj_memL (aj_t5 (List.mem_of_getElem? (i := 91) (by decide +kernel))) (by decide +kernel)
set_option maxRecDepth 20000 in
theorem wd1181 : Cond.selects "CageLift" ⟨"CageLift", "ball", "(II)I"⟩ ⟨"CageLift", "ball", "(II)I"⟩ ∈ aj_TB := aj_memL (aj_t5 (List.mem_of_getElem? (i := 92) (by decide +kernel))) (by decide +kernel)
set_option maxRecDepth 20000 in
theorem wd1183 : Cond.methodLink "CageLift" 263 ⟨"CageLift$Network", "within", "(II)I"⟩ ∈ aj_TB := aj_memL (aj_t5 (List.mem_of_getElem? (i := 94) (by decide +kernel))) (by decide +kernel)
set_option maxRecDepth 20000 in
theorem wd1186 : Cond.code ⟨"CageLift$Network", "within", "(II)I"⟩ prog_7_method_16_code 6 (Option.some FieldType.int) ∈ aj_TB := aj_memL (aj_t5 (List.mem_of_getElem? (i := 97) (by decide +kernel))) (by decide +kernel)
set_option maxRecDepth 20000 in
theorem wd1184 : Cond.instanceMethod ⟨"CageLift$Network", "within", "(II)I"⟩ ∈ aj_TB := aj_memL (aj_t5 (List.mem_of_getElem? (i := 95) (by decide +kernel))) (by decide +kernel)
set_option maxRecDepth 20000 in
theorem wd1185 : Cond.selects "CageLift$Network" ⟨"CageLift$Network", "within", "(II)I"⟩ ⟨"CageLift$Network", "within", "(II)I"⟩ ∈ aj_TB := aj_memL (aj_t5 (List.mem_of_getElem? (i := 96) (by decide +kernel))) (by decide +kernel)
set_option maxRecDepth 20000 in
theorem wd1187 : Cond.methodLink "CageLiftLaw" 113 ⟨"CageLift", "girth", "()I"⟩ ∈ aj_TB := aj_memL (aj_t5 (List.mem_of_getElem? (i := 98) (by decide +kernel))) (by decide +kernel)
set_option maxRecDepth 20000 in
theorem wd1190 : Cond.code ⟨"CageLift", "girth", "()I"⟩ prog_1_method_26_code 1 (Option.some FieldType.int) ∈ aj_TB := aj_memL (aj_t5 (List.mem_of_getElem? (i := 101) (by decide +kernel))) (by decide +kernel)
set_option maxRecDepth 20000 in
theorem wd1188 : Cond.instanceMethod ⟨"CageLift", "girth", "()I"⟩ ∈ aj_TB := aj_memL (aj_t5 (List.mem_of_getElem? (i := 99) (by decide +kernel))) (by decide +kernel)
set_option maxRecDepth 20000 in
theorem wd1189 : Cond.selects "CageLift" ⟨"CageLift", "girth", "()I"⟩ ⟨"CageLift", "girth", "()I"⟩ ∈ aj_TB := aj_memL (aj_t5 (List.mem_of_getElem? (i := 100) (by decide +kernel))) (by decide +kernel)
set_option maxRecDepth 20000 in
theorem wd1191 : Cond.methodLink "CageLiftLaw" 117 ⟨"CageLift", "ring", "(I)I"⟩ ∈ aj_TB := aj_memL (aj_t5 (List.mem_of_getElem? (i := 102) (by decide +kernel))) (by decide +kernel)
set_option maxRecDepth 20000 in
theorem wd1194 : Cond.code ⟨"CageLift", "ring", "(I)I"⟩ prog_1_method_27_code 3 (Option.some FieldType.int) ∈ aj_TB := aj_memL (aj_t5 (List.mem_of_getElem? (i := 105) (by decide +kernel))) (by decide +kernel)
set_option maxRecDepth 20000 in
theorem wd1192 : Cond.instanceMethod ⟨"CageLift", "ring", "(I)I"⟩ ∈ aj_TB := aj_memL (aj_t5 (List.mem_of_getElem? (i := 103) (by decide +kernel))) (by decide +kernel)
set_option maxRecDepth 20000 in
theorem wd1193 : Cond.selects "CageLift" ⟨"CageLift", "ring", "(I)I"⟩ ⟨"CageLift", "ring", "(I)I"⟩ ∈ aj_TB := aj_memL (aj_t5 (List.mem_of_getElem? (i := 104) (by decide +kernel))) (by decide +kernel)
set_option maxRecDepth 20000 in
theorem wd1195 : Cond.methodLink "CageLift" 266 ⟨"CageLift", "currentRings", "()LCageLift$Rings;"⟩ ∈ aj_TB := aj_memL (aj_t5 (List.mem_of_getElem? (i := 106) (by decide +kernel))) (by decide +kernel)
set_option maxRecDepth 20000 in
theorem wd1198 : Cond.code ⟨"CageLift", "currentRings", "()LCageLift$Rings;"⟩ prog_1_method_55_code 1 (Option.some (FieldType.object "CageLift$Rings")) ∈ aj_TB := aj_memL (aj_t5 (List.mem_of_getElem? (i := 109) (by decide +kernel))) (by decide +kernel)
set_option maxRecDepth 20000 in
theorem wd1197 : Cond.instanceMethod ⟨"CageLift", "currentRings", "()LCageLift$Rings;"⟩ ∈ aj_TB := aj_memL (aj_t5 (List.mem_of_getElem? (i := 108) (by decide +kernel))) (by decide +kernel)
set_option maxRecDepth 20000 in
theorem wd32 : Cond.selects "CageLift" ⟨"CageLift", "currentRings", "()LCageLift$Rings;"⟩ ⟨"CageLift", "currentRings", "()LCageLift$Rings;"⟩ ∈ aj_TB := aj_memL (List.mem_append_left _ (List.mem_of_getElem? (i := 32) (by decide +kernel))) (by decide +kernel)
set_option maxRecDepth 20000 in
theorem wd1199 : Cond.methodLink "CageLift" 270 ⟨"CageLift$Rings", "findFirst", "()V"⟩ ∈ aj_TB := aj_memL (aj_t5 (List.mem_of_getElem? (i := 110) (by decide +kernel))) (by decide +kernel)
set_option maxRecDepth 20000 in
theorem wd137 : Cond.initialized "CageLift$Rings" ∈ aj_TB := aj_memL (aj_t1 (List.mem_of_getElem? (i := 8) (by decide +kernel))) (by decide +kernel)
set_option maxRecDepth 20000 in
theorem wd1202 : Cond.code ⟨"CageLift$Rings", "findFirst", "()V"⟩ prog_10_method_2_code 4 (Option.none : Option FieldType) ∈ aj_TB := aj_memL (aj_t5 (List.mem_of_getElem? (i := 113) (by decide +kernel))) (by decide +kernel)
set_option maxRecDepth 20000 in
theorem wd1200 : Cond.instanceMethod ⟨"CageLift$Rings", "findFirst", "()V"⟩ ∈ aj_TB := aj_memL (aj_t5 (List.mem_of_getElem? (i := 111) (by decide +kernel))) (by decide +kernel)
set_option maxRecDepth 20000 in
theorem wd1201 : Cond.selects "CageLift$Rings" ⟨"CageLift$Rings", "findFirst", "()V"⟩ ⟨"CageLift$Rings", "findFirst", "()V"⟩ ∈ aj_TB := aj_memL (aj_t5 (List.mem_of_getElem? (i := 112) (by decide +kernel))) (by decide +kernel)
set_option maxRecDepth 20000 in
theorem wd1203 : Cond.methodLink "CageLift$Rings" 49 ⟨"CageLift$Network", "shortestRing", "()I"⟩ ∈ aj_TB := aj_memL (aj_t5 (List.mem_of_getElem? (i := 114) (by decide +kernel))) (by decide +kernel)
set_option maxRecDepth 20000 in
theorem wd1204 : Cond.methodLink "CageLift$Rings" 56 ⟨"CageLift$Network", "linksBetween", "(II)I"⟩ ∈ aj_TB := aj_memL (aj_t5 (List.mem_of_getElem? (i := 115) (by decide +kernel))) (by decide +kernel)
set_option maxRecDepth 20000 in
theorem wd1205 : Cond.methodLink "CageLift$Rings" 60 ⟨"CageLift$Rings", "findFrom", "(I)Z"⟩ ∈ aj_TB := aj_memL (aj_t5 (List.mem_of_getElem? (i := 116) (by decide +kernel))) (by decide +kernel)
set_option maxRecDepth 20000 in
theorem wd1208 : Cond.code ⟨"CageLift$Rings", "findFrom", "(I)Z"⟩ prog_10_method_3_code 4 (Option.some FieldType.boolean) ∈ aj_TB := aj_memL (aj_t5 (List.mem_of_getElem? (i := 119) (by decide +kernel))) (by decide +kernel)
set_option maxRecDepth 20000 in
theorem wd1207 : Cond.instanceMethod ⟨"CageLift$Rings", "findFrom", "(I)Z"⟩ ∈ aj_TB := aj_memL (aj_t5 (List.mem_of_getElem? (i := 118) (by decide +kernel))) (by decide +kernel)
set_option maxRecDepth 20000 in
theorem wd33 : Cond.selects "CageLift$Rings" ⟨"CageLift$Rings", "findFrom", "(I)Z"⟩ ⟨"CageLift$Rings", "findFrom", "(I)Z"⟩ ∈ aj_TB := aj_memL (List.mem_append_left _ (List.mem_of_getElem? (i := 33) (by decide +kernel))) (by decide +kernel)
set_option maxRecDepth 20000 in
theorem wd1209 : Cond.methodLink "CageLift$Rings" 67 ⟨"CageLift$Rings", "findRest", "(I)Z"⟩ ∈ aj_TB := aj_memL (aj_t5 (List.mem_of_getElem? (i := 120) (by decide +kernel))) (by decide +kernel)
set_option maxRecDepth 20000 in
theorem wd1212 : Cond.code ⟨"CageLift$Rings", "findRest", "(I)Z"⟩ prog_10_method_4_code 4 (Option.some FieldType.boolean) ∈ aj_TB := aj_memL (aj_t5 (List.mem_of_getElem? (i := 123) (by decide +kernel))) (by decide +kernel)
set_option maxRecDepth 20000 in
theorem wd1211 : Cond.instanceMethod ⟨"CageLift$Rings", "findRest", "(I)Z"⟩ ∈ aj_TB := aj_memL (aj_t5 (List.mem_of_getElem? (i := 122) (by decide +kernel))) (by decide +kernel)
set_option maxRecDepth 20000 in
theorem wd34 : Cond.selects "CageLift$Rings" ⟨"CageLift$Rings", "findRest", "(I)Z"⟩ ⟨"CageLift$Rings", "findRest", "(I)Z"⟩ ∈ aj_TB := aj_memL (List.mem_append_left _ (List.mem_of_getElem? (i := 34) (by decide +kernel))) (by decide +kernel)
set_option maxRecDepth 20000 in
theorem wd1213 : Cond.methodLink "CageLift$Rings" 72 ⟨"CageLift$Network", "spread", "(I)I"⟩ ∈ aj_TB := aj_memL (aj_t5 (List.mem_of_getElem? (i := 124) (by decide +kernel))) (by decide +kernel)
set_option maxRecDepth 20000 in
theorem wd1214 : Cond.methodLink "CageLift$Rings" 76 ⟨"CageLift$Rings", "leastAt", "(II)I"⟩ ∈ aj_TB := aj_memL (aj_t5 (List.mem_of_getElem? (i := 125) (by decide +kernel))) (by decide +kernel)
set_option maxRecDepth 20000 in
theorem wd1217 : Cond.code ⟨"CageLift$Rings", "leastAt", "(II)I"⟩ prog_10_method_5_code 6 (Option.some FieldType.int) ∈ aj_TB := aj_memL (aj_t5 (List.mem_of_getElem? (i := 128) (by decide +kernel))) (by decide +kernel)
set_option maxRecDepth 20000 in
theorem wd1216 : Cond.instanceMethod ⟨"CageLift$Rings", "leastAt", "(II)I"⟩ ∈ aj_TB := aj_memL (aj_t5 (List.mem_of_getElem? (i := 127) (by decide +kernel))) (by decide +kernel)
set_option maxRecDepth 20000 in
theorem wd35 : Cond.selects "CageLift$Rings" ⟨"CageLift$Rings", "leastAt", "(II)I"⟩ ⟨"CageLift$Rings", "leastAt", "(II)I"⟩ ∈ aj_TB := aj_memL (List.mem_append_left _ (List.mem_of_getElem? (i := 35) (by decide +kernel))) (by decide +kernel)
set_option maxRecDepth 20000 in
theorem wd1218 : Cond.methodLink "CageLift$Rings" 85 ⟨"CageLift$Network", "otherEnd", "(II)I"⟩ ∈ aj_TB := aj_memL (aj_t5 (List.mem_of_getElem? (i := 129) (by decide +kernel))) (by decide +kernel)
set_option maxRecDepth 20000 in
theorem wd1220 : Cond.methodLink "CageLiftLaw" 121 ⟨"CageLift", "rings", "(I)I"⟩ ∈ aj_TB := aj_memL (aj_t5 (List.mem_of_getElem? (i := 131) (by decide +kernel))) (by decide +kernel)
set_option maxRecDepth 20000 in
theorem wd1223 : Cond.code ⟨"CageLift", "rings", "(I)I"⟩ prog_1_method_28_code 2 (Option.some FieldType.int) ∈ aj_TB := aj_memL (aj_t5 (List.mem_of_getElem? (i := 134) (by decide +kernel))) (by decide +kernel)
set_option maxRecDepth 20000 in
theorem wd1221 : Cond.instanceMethod ⟨"CageLift", "rings", "(I)I"⟩ ∈ aj_TB := aj_memL (aj_t5 (List.mem_of_getElem? (i := 132) (by decide +kernel))) (by decide +kernel)
set_option maxRecDepth 20000 in
theorem wd1222 : Cond.selects "CageLift" ⟨"CageLift", "rings", "(I)I"⟩ ⟨"CageLift", "rings", "(I)I"⟩ ∈ aj_TB := aj_memL (aj_t5 (List.mem_of_getElem? (i := 133) (by decide +kernel))) (by decide +kernel)
set_option maxRecDepth 20000 in
theorem wd1224 : Cond.methodLink "CageLift" 279 ⟨"CageLift$Rings", "countOf", "(I)I"⟩ ∈ aj_TB := aj_memL (aj_t5 (List.mem_of_getElem? (i := 135) (by decide +kernel))) (by decide +kernel)
set_option maxRecDepth 20000 in
theorem wd1227 : Cond.code ⟨"CageLift$Rings", "countOf", "(I)I"⟩ prog_10_method_6_code 5 (Option.some FieldType.int) ∈ aj_TB := aj_memL (aj_t5 (List.mem_of_getElem? (i := 138) (by decide +kernel))) (by decide +kernel)
set_option maxRecDepth 20000 in
theorem wd1225 : Cond.instanceMethod ⟨"CageLift$Rings", "countOf", "(I)I"⟩ ∈ aj_TB := aj_memL (aj_t5 (List.mem_of_getElem? (i := 136) (by decide +kernel))) (by decide +kernel)
set_option maxRecDepth 20000 in
theorem wd1226 : Cond.selects "CageLift$Rings" ⟨"CageLift$Rings", "countOf", "(I)I"⟩ ⟨"CageLift$Rings", "countOf", "(I)I"⟩ ∈ aj_TB := aj_memL (aj_t5 (List.mem_of_getElem? (i := 137) (by decide +kernel))) (by decide +kernel)
set_option maxRecDepth 20000 in
theorem wd1228 : Cond.methodLink "CageLift$Rings" 91 ⟨"CageLift$Rings", "countSelfLinks", "()I"⟩ ∈ aj_TB := aj_memL (aj_t5 (List.mem_of_getElem? (i := 139) (by decide +kernel))) (by decide +kernel)
set_option maxRecDepth 20000 in
theorem wd1231 : Cond.code ⟨"CageLift$Rings", "countSelfLinks", "()I"⟩ prog_10_method_7_code 3 (Option.some FieldType.int) ∈ aj_TB := aj_memL (aj_t5 (List.mem_of_getElem? (i := 142) (by decide +kernel))) (by decide +kernel)
set_option maxRecDepth 20000 in
theorem wd1230 : Cond.instanceMethod ⟨"CageLift$Rings", "countSelfLinks", "()I"⟩ ∈ aj_TB := aj_memL (aj_t5 (List.mem_of_getElem? (i := 141) (by decide +kernel))) (by decide +kernel)
set_option maxRecDepth 20000 in
theorem wd36 : Cond.selects "CageLift$Rings" ⟨"CageLift$Rings", "countSelfLinks", "()I"⟩ ⟨"CageLift$Rings", "countSelfLinks", "()I"⟩ ∈ aj_TB := aj_memL (List.mem_append_left _ (List.mem_of_getElem? (i := 36) (by decide +kernel))) (by decide +kernel)
set_option maxRecDepth 20000 in
theorem wd1232 : Cond.methodLink "CageLift$Rings" 94 ⟨"CageLift$Rings", "spreadOut", "()V"⟩ ∈ aj_TB := aj_memL (aj_t5 (List.mem_of_getElem? (i := 143) (by decide +kernel))) (by decide +kernel)
set_option maxRecDepth 20000 in
theorem wd1235 : Cond.code ⟨"CageLift$Rings", "spreadOut", "()V"⟩ prog_10_method_9_code 4 (Option.none : Option FieldType) ∈ aj_TB := aj_memL (aj_t5 (List.mem_of_getElem? (i := 146) (by decide +kernel))) (by decide +kernel)
set_option maxRecDepth 20000 in
theorem wd1234 : Cond.instanceMethod ⟨"CageLift$Rings", "spreadOut", "()V"⟩ ∈ aj_TB := aj_memL (aj_t5 (List.mem_of_getElem? (i := 145) (by decide +kernel))) (by decide +kernel)
set_option maxRecDepth 20000 in
theorem wd37 : Cond.selects "CageLift$Rings" ⟨"CageLift$Rings", "spreadOut", "()V"⟩ ⟨"CageLift$Rings", "spreadOut", "()V"⟩ ∈ aj_TB := aj_memL (List.mem_append_left _ (List.mem_of_getElem? (i := 37) (by decide +kernel))) (by decide +kernel)
set_option maxRecDepth 20000 in
theorem wd1236 : Cond.methodLink "CageLift$Rings" 119 ⟨"java/util/Arrays", "fill", "([II)V"⟩ ∈ aj_TB := aj_memL (aj_t5 (List.mem_of_getElem? (i := 147) (by decide +kernel))) (by decide +kernel)
set_option maxRecDepth 20000 in
theorem wd1237 : Cond.methodLink "CageLift$Rings" 125 ⟨"CageLift$Rings", "joinOnce", "(II)V"⟩ ∈ aj_TB := aj_memL (aj_t5 (List.mem_of_getElem? (i := 148) (by decide +kernel))) (by decide +kernel)
set_option maxRecDepth 20000 in
theorem wd1240 : Cond.code ⟨"CageLift$Rings", "joinOnce", "(II)V"⟩ prog_10_method_10_code 3 (Option.none : Option FieldType) ∈ aj_TB := aj_memL (aj_t5 (List.mem_of_getElem? (i := 151) (by decide +kernel))) (by decide +kernel)
set_option maxRecDepth 20000 in
theorem wd1239 : Cond.instanceMethod ⟨"CageLift$Rings", "joinOnce", "(II)V"⟩ ∈ aj_TB := aj_memL (aj_t5 (List.mem_of_getElem? (i := 150) (by decide +kernel))) (by decide +kernel)
set_option maxRecDepth 20000 in
theorem wd38 : Cond.selects "CageLift$Rings" ⟨"CageLift$Rings", "joinOnce", "(II)V"⟩ ⟨"CageLift$Rings", "joinOnce", "(II)V"⟩ ∈ aj_TB := aj_memL (List.mem_append_left _ (List.mem_of_getElem? (i := 38) (by decide +kernel))) (by decide +kernel)
set_option maxRecDepth 20000 in
theorem wd1241 : Cond.methodLink "CageLift$Rings" 97 ⟨"CageLift$Rings", "countPairs", "()I"⟩ ∈ aj_TB := aj_memL (aj_t5 (List.mem_of_getElem? (i := 152) (by decide +kernel))) (by decide +kernel)
set_option maxRecDepth 20000 in
theorem wd1244 : Cond.code ⟨"CageLift$Rings", "countPairs", "()I"⟩ prog_10_method_8_code 5 (Option.some FieldType.int) ∈ aj_TB := aj_memL (aj_t5 (List.mem_of_getElem? (i := 155) (by decide +kernel))) (by decide +kernel)
set_option maxRecDepth 20000 in
theorem wd1243 : Cond.instanceMethod ⟨"CageLift$Rings", "countPairs", "()I"⟩ ∈ aj_TB := aj_memL (aj_t5 (List.mem_of_getElem? (i := 154) (by decide +kernel))) (by decide +kernel)
set_option maxRecDepth 20000 in
theorem wd39 : Cond.selects "CageLift$Rings" ⟨"CageLift$Rings", "countPairs", "()I"⟩ ⟨"CageLift$Rings", "countPairs", "()I"⟩ ∈ aj_TB := aj_memL (List.mem_append_left _ (List.mem_of_getElem? (i := 39) (by decide +kernel))) (by decide +kernel)
