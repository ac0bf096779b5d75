set_option maxRecDepth 20000 in
theorem wd75 : Cond.selects "CageLiftModel" ⟨"CageLiftModel", "readSum", "(I)V"⟩ ⟨"CageLiftModel", "readSum", "(I)V"⟩ ∈ aj_TB := aj_memL (List.mem_append_left _ (List.mem_of_getElem? (i := 75) (by decide +kernel))) (by decide +kernel)
set_option maxRecDepth 20000 in
theorem wd1757 : Cond.methodLink "CageLiftModel" 182 ⟨"CageLiftModel", "readTerm", "(I)V"⟩ ∈ aj_TB := aj_memL (aj_t7 (List.mem_of_getElem? (i := 188) (by decide +kernel))) (by decide +kernel)
set_option maxRecDepth 20000 in
theorem wd1760 : Cond.code ⟨"CageLiftModel", "readTerm", "(I)V"⟩ prog_14_method_21_code 2 (Option.none : Option FieldType) ∈ aj_TB := aj_memL (aj_t7 (List.mem_of_getElem? (i := 191) (by decide +kernel))) (by decide +kernel)
set_option maxRecDepth 20000 in
theorem wd1759 : Cond.instanceMethod ⟨"CageLiftModel", "readTerm", "(I)V"⟩ ∈ aj_TB := aj_memL (aj_t7 (List.mem_of_getElem? (i := 190) (by decide +kernel))) (by decide +kernel)
set_option maxRecDepth 20000 in
theorem wd76 : Cond.selects "CageLiftModel" ⟨"CageLiftModel", "readTerm", "(I)V"⟩ ⟨"CageLiftModel", "readTerm", "(I)V"⟩ ∈ aj_TB := aj_memL (List.mem_append_left _ (List.mem_of_getElem? (i := 76) (by decide +kernel))) (by decide +kernel)
set_option maxRecDepth 20000 in
theorem wd1761 : Cond.methodLink "CageLiftModel" 179 ⟨"CageLiftModel", "readAtom", "(I)V"⟩ ∈ aj_TB := aj_memL (aj_t7 (List.mem_of_getElem? (i := 192) (by decide +kernel))) (by decide +kernel)
set_option maxRecDepth 20000 in
theorem wd1764 : Cond.code ⟨"CageLiftModel", "readAtom", "(I)V"⟩ prog_14_method_19_code 2 (Option.none : Option FieldType) ∈ aj_TB := aj_memL (aj_t7 (List.mem_of_getElem? (i := 195) (by decide +kernel))) (by decide +kernel)
set_option maxRecDepth 20000 in
theorem wd1763 : Cond.instanceMethod ⟨"CageLiftModel", "readAtom", "(I)V"⟩ ∈ aj_TB := aj_memL (aj_t7 (List.mem_of_getElem? (i := 194) (by decide +kernel))) (by decide +kernel)
set_option maxRecDepth 20000 in
theorem wd77 : Cond.selects "CageLiftModel" ⟨"CageLiftModel", "readAtom", "(I)V"⟩ ⟨"CageLiftModel", "readAtom", "(I)V"⟩ ∈ aj_TB := aj_memL (List.mem_append_left _ (List.mem_of_getElem? (i := 77) (by decide +kernel))) (by decide +kernel)
set_option maxRecDepth 20000 in
theorem wd1765 : Cond.methodLink "CageLiftModel" 158 ⟨"CageLiftModel", "codes", "(I)V"⟩ ∈ aj_TB := aj_memL (aj_t7 (List.mem_of_getElem? (i := 196) (by decide +kernel))) (by decide +kernel)
set_option maxRecDepth 20000 in
theorem wd1768 : Cond.code ⟨"CageLiftModel", "codes", "(I)V"⟩ prog_14_method_17_code 2 (Option.none : Option FieldType) ∈ aj_TB := aj_memL (aj_t7 (List.mem_of_getElem? (i := 199) (by decide +kernel))) (by decide +kernel)
set_option maxRecDepth 20000 in
theorem wd1767 : Cond.instanceMethod ⟨"CageLiftModel", "codes", "(I)V"⟩ ∈ aj_TB := aj_memL (aj_t7 (List.mem_of_getElem? (i := 198) (by decide +kernel))) (by decide +kernel)
set_option maxRecDepth 20000 in
theorem wd78 : Cond.selects "CageLiftModel" ⟨"CageLiftModel", "codes", "(I)V"⟩ ⟨"CageLiftModel", "codes", "(I)V"⟩ ∈ aj_TB := aj_memL (List.mem_append_left _ (List.mem_of_getElem? (i := 78) (by decide +kernel))) (by decide +kernel)
set_option maxRecDepth 20000 in
theorem wd1769 : Cond.methodLink "CageLiftModel" 161 ⟨"CageLiftModel", "wordOf", "(I)I"⟩ ∈ aj_TB := aj_memL (aj_t7 (List.mem_of_getElem? (i := 200) (by decide +kernel))) (by decide +kernel)
set_option maxRecDepth 20000 in
theorem wd1771 : Cond.code ⟨"CageLiftModel", "wordOf", "(I)I"⟩ prog_14_method_16_code 1 (Option.some FieldType.int) ∈ aj_TB := aj_memL (aj_t7 (List.mem_of_getElem? (i := 202) (by decide +kernel))) (by decide +kernel)
set_option maxRecDepth 20000 in
theorem wd1770 : Cond.static ⟨"CageLiftModel", "wordOf", "(I)I"⟩ ∈ aj_TB := aj_memL (aj_t7 (List.mem_of_getElem? (i := 201) (by decide +kernel))) (by decide +kernel)
set_option maxRecDepth 20000 in
theorem wd1772 : Cond.methodLink "CageLiftModel" 164 ⟨"CageLiftModel", "goesIn", "(I)Z"⟩ ∈ aj_TB := aj_memL (aj_t7 (List.mem_of_getElem? (i := 203) (by decide +kernel))) (by decide +kernel)
set_option maxRecDepth 20000 in
theorem wd1775 : Cond.code ⟨"CageLiftModel", "goesIn", "(I)Z"⟩ prog_14_method_18_code 2 (Option.some FieldType.boolean) ∈ aj_TB := aj_memL (aj_t7 (List.mem_of_getElem? (i := 206) (by decide +kernel))) (by decide +kernel)
set_option maxRecDepth 20000 in
theorem wd1774 : Cond.instanceMethod ⟨"CageLiftModel", "goesIn", "(I)Z"⟩ ∈ aj_TB := aj_memL (aj_t7 (List.mem_of_getElem? (i := 205) (by decide +kernel))) (by decide +kernel)
set_option maxRecDepth 20000 in
theorem wd79 : Cond.selects "CageLiftModel" ⟨"CageLiftModel", "goesIn", "(I)Z"⟩ ⟨"CageLiftModel", "goesIn", "(I)Z"⟩ ∈ aj_TB := aj_memL (List.mem_append_left _ (List.mem_of_getElem? (i := 79) (by decide +kernel))) (by decide +kernel)
set_option maxRecDepth 20000 in
theorem wd1776 : Cond.methodLink "CageLiftModel" 173 ⟨"CageLiftModel", "readIf", "(I)V"⟩ ∈ aj_TB := aj_memL (aj_t7 (List.mem_of_getElem? (i := 207) (by decide +kernel))) (by decide +kernel)
set_option maxRecDepth 20000 in
theorem wd1779 : Cond.code ⟨"CageLiftModel", "readIf", "(I)V"⟩ prog_14_method_20_code 2 (Option.none : Option FieldType) ∈ aj_TB := aj_memL (aj_t7 (List.mem_of_getElem? (i := 210) (by decide +kernel))) (by decide +kernel)
set_option maxRecDepth 20000 in
theorem wd1778 : Cond.instanceMethod ⟨"CageLiftModel", "readIf", "(I)V"⟩ ∈ aj_TB := aj_memL (aj_t7 (List.mem_of_getElem? (i := 209) (by decide +kernel))) (by decide +kernel)
set_option maxRecDepth 20000 in
theorem wd80 : Cond.selects "CageLiftModel" ⟨"CageLiftModel", "readIf", "(I)V"⟩ ⟨"CageLiftModel", "readIf", "(I)V"⟩ ∈ aj_TB := aj_memL (List.mem_append_left _ (List.mem_of_getElem? (i := 80) (by decide +kernel))) (by decide +kernel)
set_option maxRecDepth 20000 in
theorem wd1780 : Cond.methodLink "CageLiftModel" 176 ⟨"CageLiftModel", "readTruth", "(I)V"⟩ ∈ aj_TB := aj_memL (aj_t7 (List.mem_of_getElem? (i := 211) (by decide +kernel))) (by decide +kernel)
set_option maxRecDepth 20000 in
theorem wd1783 : Cond.code ⟨"CageLiftModel", "readTruth", "(I)V"⟩ prog_14_method_25_code 2 (Option.none : Option FieldType) ∈ aj_TB := aj_memL (aj_t7 (List.mem_of_getElem? (i := 214) (by decide +kernel))) (by decide +kernel)
set_option maxRecDepth 20000 in
theorem wd1782 : Cond.instanceMethod ⟨"CageLiftModel", "readTruth", "(I)V"⟩ ∈ aj_TB := aj_memL (aj_t7 (List.mem_of_getElem? (i := 213) (by decide +kernel))) (by decide +kernel)
set_option maxRecDepth 20000 in
theorem wd81 : Cond.selects "CageLiftModel" ⟨"CageLiftModel", "readTruth", "(I)V"⟩ ⟨"CageLiftModel", "readTruth", "(I)V"⟩ ∈ aj_TB := aj_memL (List.mem_append_left _ (List.mem_of_getElem? (i := 81) (by decide +kernel))) (by decide +kernel)
set_option maxRecDepth 20000 in
theorem wd1784 : Cond.methodLink "CageLiftModel" 188 ⟨"CageLiftModel", "readBoth", "(I)V"⟩ ∈ aj_TB := aj_memL (aj_t7 (List.mem_of_getElem? (i := 215) (by decide +kernel))) (by decide +kernel)
set_option maxRecDepth 20000 in
theorem wd1787 : Cond.code ⟨"CageLiftModel", "readBoth", "(I)V"⟩ prog_14_method_24_code 2 (Option.none : Option FieldType) ∈ aj_TB := aj_memL (aj_t7 (List.mem_of_getElem? (i := 218) (by decide +kernel))) (by decide +kernel)
set_option maxRecDepth 20000 in
theorem wd1786 : Cond.instanceMethod ⟨"CageLiftModel", "readBoth", "(I)V"⟩ ∈ aj_TB := aj_memL (aj_t7 (List.mem_of_getElem? (i := 217) (by decide +kernel))) (by decide +kernel)
set_option maxRecDepth 20000 in
theorem wd82 : Cond.selects "CageLiftModel" ⟨"CageLiftModel", "readBoth", "(I)V"⟩ ⟨"CageLiftModel", "readBoth", "(I)V"⟩ ∈ aj_TB := aj_memL (List.mem_append_left _ (List.mem_of_getElem? (i := 82) (by decide +kernel))) (by decide +kernel)
set_option maxRecDepth 20000 in
theorem wd1788 : Cond.methodLink "CageLiftModel" 185 ⟨"CageLiftModel", "readUnit", "(I)V"⟩ ∈ aj_TB := aj_memL (aj_t7 (List.mem_of_getElem? (i := 219) (by decide +kernel))) (by decide +kernel)
set_option maxRecDepth 20000 in
theorem wd1791 : Cond.code ⟨"CageLiftModel", "readUnit", "(I)V"⟩ prog_14_method_23_code 3 (Option.none : Option FieldType) ∈ aj_TB := aj_memL (aj_t7 (List.mem_of_getElem? (i := 222) (by decide +kernel))) (by decide +kernel)
set_option maxRecDepth 20000 in
theorem wd1790 : Cond.instanceMethod ⟨"CageLiftModel", "readUnit", "(I)V"⟩ ∈ aj_TB := aj_memL (aj_t7 (List.mem_of_getElem? (i := 221) (by decide +kernel))) (by decide +kernel)
set_option maxRecDepth 20000 in
theorem wd83 : Cond.selects "CageLiftModel" ⟨"CageLiftModel", "readUnit", "(I)V"⟩ ⟨"CageLiftModel", "readUnit", "(I)V"⟩ ∈ aj_TB := aj_memL (List.mem_append_left _ (List.mem_of_getElem? (i := 83) (by decide +kernel))) (by decide +kernel)
set_option maxRecDepth 20000 in
theorem wd1792 : Cond.methodLink "CageLiftLaw" 26 ⟨"CageLiftModel", "fault", "(I)I"⟩ ∈ aj_TB := aj_memL (aj_t7 (List.mem_of_getElem? (i := 223) (by decide +kernel))) (by decide +kernel)
set_option maxRecDepth 20000 in
theorem wd1795 : Cond.code ⟨"CageLiftModel", "fault", "(I)I"⟩ prog_14_method_44_code 2 (Option.some FieldType.int) ∈ aj_TB := aj_memL (aj_t7 (List.mem_of_getElem? (i := 226) (by decide +kernel))) (by decide +kernel)
set_option maxRecDepth 20000 in
theorem wd1793 : Cond.instanceMethod ⟨"CageLiftModel", "fault", "(I)I"⟩ ∈ aj_TB := aj_memL (aj_t7 (List.mem_of_getElem? (i := 224) (by decide +kernel))) (by decide +kernel)
set_option maxRecDepth 20000 in
theorem wd1794 : Cond.selects "CageLiftModel" ⟨"CageLiftModel", "fault", "(I)I"⟩ ⟨"CageLiftModel", "fault", "(I)I"⟩ ∈ aj_TB := aj_memL (aj_t7 (List.mem_of_getElem? (i := 225) (by decide +kernel))) (by decide +kernel)
set_option maxRecDepth 20000 in
theorem wd1796 : Cond.methodLink "CageLiftLaw" 31 ⟨"CageLiftModel", "arc", "(II)I"⟩ ∈ aj_TB := aj_memL (aj_t7 (List.mem_of_getElem? (i := 227) (by decide +kernel))) (by decide +kernel)
set_option maxRecDepth 20000 in
theorem wd1799 : Cond.code ⟨"CageLiftModel", "arc", "(II)I"⟩ prog_14_method_60_code 3 (Option.some FieldType.int) ∈ aj_TB := aj_memL (aj_t7 (List.mem_of_getElem? (i := 230) (by decide +kernel))) (by decide +kernel)
set_option maxRecDepth 20000 in
theorem wd1797 : Cond.instanceMethod ⟨"CageLiftModel", "arc", "(II)I"⟩ ∈ aj_TB := aj_memL (aj_t7 (List.mem_of_getElem? (i := 228) (by decide +kernel))) (by decide +kernel)
set_option maxRecDepth 20000 in
theorem wd1798 : Cond.selects "CageLiftModel" ⟨"CageLiftModel", "arc", "(II)I"⟩ ⟨"CageLiftModel", "arc", "(II)I"⟩ ∈ aj_TB := aj_memL (aj_t7 (List.mem_of_getElem? (i := 229) (by decide +kernel))) (by decide +kernel)
set_option maxRecDepth 20000 in
theorem wd1800 : Cond.methodLink "CageLiftModel" 291 ⟨"CageLiftModel", "isArc", "(J)Z"⟩ ∈ aj_TB := aj_memL (aj_t7 (List.mem_of_getElem? (i := 231) (by decide +kernel))) (by decide +kernel)
set_option maxRecDepth 20000 in
theorem wd1803 : Cond.code ⟨"CageLiftModel", "isArc", "(J)Z"⟩ prog_14_method_45_code 3 (Option.some FieldType.boolean) ∈ aj_TB := aj_memL (aj_t7 (List.mem_of_getElem? (i := 234) (by decide +kernel))) (by decide +kernel)
set_option maxRecDepth 20000 in
theorem wd1802 : Cond.instanceMethod ⟨"CageLiftModel", "isArc", "(J)Z"⟩ ∈ aj_TB := aj_memL (aj_t7 (List.mem_of_getElem? (i := 233) (by decide +kernel))) (by decide +kernel)
set_option maxRecDepth 20000 in
theorem wd84 : Cond.selects "CageLiftModel" ⟨"CageLiftModel", "isArc", "(J)Z"⟩ ⟨"CageLiftModel", "isArc", "(J)Z"⟩ ∈ aj_TB := aj_memL (List.mem_append_left _ (List.mem_of_getElem? (i := 84) (by decide +kernel))) (by decide +kernel)
set_option maxRecDepth 20000 in
theorem wd1804 : Cond.methodLink "CageLiftModel" 274 ⟨"CageLiftModel", "isIn", "(JI)Z"⟩ ∈ aj_TB := aj_memL (aj_t7 (List.mem_of_getElem? (i := 235) (by decide +kernel))) (by decide +kernel)
set_option maxRecDepth 20000 in
theorem wd1806 : Cond.code ⟨"CageLiftModel", "isIn", "(JI)Z"⟩ prog_14_method_15_code 3 (Option.some FieldType.boolean) ∈ aj_TB := aj_memL (aj_t7 (List.mem_of_getElem? (i := 237) (by decide +kernel))) (by decide +kernel)
set_option maxRecDepth 20000 in
theorem wd1805 : Cond.static ⟨"CageLiftModel", "isIn", "(JI)Z"⟩ ∈ aj_TB := aj_memL (aj_t7 (List.mem_of_getElem? (i := 236) (by decide +kernel))) (by decide +kernel)
set_option maxRecDepth 20000 in
theorem wd1807 : Cond.methodLink "CageLiftLaw" 52 ⟨"CageLiftModel", "turn", "(II)I"⟩ ∈ aj_TB := aj_memL (aj_t7 (List.mem_of_getElem? (i := 238) (by decide +kernel))) (by decide +kernel)
set_option maxRecDepth 20000 in
theorem wd1810 : Cond.code ⟨"CageLiftModel", "turn", "(II)I"⟩ prog_14_method_65_code 4 (Option.some FieldType.int) ∈ aj_TB := aj_memL (aj_t8 (List.mem_of_getElem? (i := 1) (by decide +kernel))) (by decide +kernel)
set_option maxRecDepth 20000 in
theorem wd1808 : Cond.instanceMethod ⟨"CageLiftModel", "turn", "(II)I"⟩ ∈ aj_TB := aj_memL (aj_t7 (List.mem_of_getElem? (i := 239) (by decide +kernel))) (by decide +kernel)
set_option maxRecDepth 20000 in
theorem wd1809 : Cond.selects "CageLiftModel" ⟨"CageLiftModel", "turn", "(II)I"⟩ ⟨"CageLiftModel", "turn", "(II)I"⟩ ∈ aj_TB := aj_memL (aj_t8 (List.mem_of_getElem? (i := 0) (by decide +kernel))) (by decide +kernel)
set_option maxRecDepth 20000 in
theorem wd1811 : Cond.methodLink "CageLiftModel" 294 ⟨"CageLiftModel", "whyTurn", "(JJ)I"⟩ ∈ aj_TB := aj_memL (aj_t8 (List.mem_of_getElem? (i := 2) (by decide +kernel))) (by decide +kernel)
set_option maxRecDepth 20000 in
theorem wd1814 : Cond.code ⟨"CageLiftModel", "whyTurn", "(JJ)I"⟩ prog_14_method_64_code 5 (Option.some FieldType.int) ∈ aj_TB := aj_memL (aj_t8 (List.mem_of_getElem? (i := 5) (by decide +kernel))) (by decide +kernel)
set_option maxRecDepth 20000 in
theorem wd1813 : Cond.instanceMethod ⟨"CageLiftModel", "whyTurn", "(JJ)I"⟩ ∈ aj_TB := aj_memL (aj_t8 (List.mem_of_getElem? (i := 4) (by decide +kernel))) (by decide +kernel)
set_option maxRecDepth 20000 in
theorem wd85 : Cond.selects "CageLiftModel" ⟨"CageLiftModel", "whyTurn", "(JJ)I"⟩ ⟨"CageLiftModel", "whyTurn", "(JJ)I"⟩ ∈ aj_TB := aj_memL (List.mem_append_left _ (List.mem_of_getElem? (i := 85) (by decide +kernel))) (by decide +kernel)
set_option maxRecDepth 20000 in
theorem wd1815 : Cond.methodLink "CageLiftModel" 298 ⟨"CageLiftModel", "stores", "()V"⟩ ∈ aj_TB := aj_memL (aj_t8 (List.mem_of_getElem? (i := 6) (by decide +kernel))) (by decide +kernel)
set_option maxRecDepth 20000 in
theorem wd1818 : Cond.code ⟨"CageLiftModel", "stores", "()V"⟩ prog_14_method_61_code 2 (Option.none : Option FieldType) ∈ aj_TB := aj_memL (aj_t8 (List.mem_of_getElem? (i := 9) (by decide +kernel))) (by decide +kernel)
set_option maxRecDepth 20000 in
theorem wd1817 : Cond.instanceMethod ⟨"CageLiftModel", "stores", "()V"⟩ ∈ aj_TB := aj_memL (aj_t8 (List.mem_of_getElem? (i := 8) (by decide +kernel))) (by decide +kernel)
set_option maxRecDepth 20000 in
theorem wd86 : Cond.selects "CageLiftModel" ⟨"CageLiftModel", "stores", "()V"⟩ ⟨"CageLiftModel", "stores", "()V"⟩ ∈ aj_TB := aj_memL (List.mem_append_left _ (List.mem_of_getElem? (i := 86) (by decide +kernel))) (by decide +kernel)
set_option maxRecDepth 20000 in
theorem wd1819 : Cond.methodLink "CageLiftModel" 301 ⟨"CageLiftModel", "notes", "()V"⟩ ∈ aj_TB := aj_memL (aj_t8 (List.mem_of_getElem? (i := 10) (by decide +kernel))) (by decide +kernel)
set_option maxRecDepth 20000 in
theorem wd1822 : Cond.code ⟨"CageLiftModel", "notes", "()V"⟩ prog_14_method_63_code 2 (Option.none : Option FieldType) ∈ aj_TB := aj_memL (aj_t8 (List.mem_of_getElem? (i := 13) (by decide +kernel))) (by decide +kernel)
set_option maxRecDepth 20000 in
theorem wd1821 : Cond.instanceMethod ⟨"CageLiftModel", "notes", "()V"⟩ ∈ aj_TB := aj_memL (aj_t8 (List.mem_of_getElem? (i := 12) (by decide +kernel))) (by decide +kernel)
set_option maxRecDepth 20000 in
theorem wd87 : Cond.selects "CageLiftModel" ⟨"CageLiftModel", "notes", "()V"⟩ ⟨"CageLiftModel", "notes", "()V"⟩ ∈ aj_TB := aj_memL (List.mem_append_left _ (List.mem_of_getElem? (i := 87) (by decide +kernel))) (by decide +kernel)
set_option maxRecDepth 20000 in
theorem wd1823 : Cond.methodLink "CageLiftLaw" 56 ⟨"CageLiftModel", "cut", "(I)I"⟩ ∈ aj_TB := aj_memL (aj_t8 (List.mem_of_getElem? (i := 14) (by decide +kernel))) (by decide +kernel)
set_option maxRecDepth 20000 in
theorem wd1826 : Cond.code ⟨"CageLiftModel", "cut", "(I)I"⟩ prog_14_method_66_code 2 (Option.some FieldType.int) ∈ aj_TB := aj_memL (aj_t8 (List.mem_of_getElem? (i := 17) (by decide +kernel))) (by decide +kernel)
set_option maxRecDepth 20000 in
theorem wd1824 : Cond.instanceMethod ⟨"CageLiftModel", "cut", "(I)I"⟩ ∈ aj_TB := aj_memL (aj_t8 (List.mem_of_getElem? (i := 15) (by decide +kernel))) (by decide +kernel)
set_option maxRecDepth 20000 in
theorem wd1825 : Cond.selects "CageLiftModel" ⟨"CageLiftModel", "cut", "(I)I"⟩ ⟨"CageLiftModel", "cut", "(I)I"⟩ ∈ aj_TB := aj_memL (aj_t8 (List.mem_of_getElem? (i := 16) (by decide +kernel))) (by decide +kernel)
set_option maxRecDepth 20000 in
theorem wd1827 : Cond.methodLink "CageLiftLaw" 60 ⟨"CageLiftModel", "twist", "(I)I"⟩ ∈ aj_TB := aj_memL (aj_t8 (List.mem_of_getElem? (i := 18) (by decide +kernel))) (by decide +kernel)
set_option maxRecDepth 20000 in
theorem wd1830 : Cond.code ⟨"CageLiftModel", "twist", "(I)I"⟩ prog_14_method_67_code 2 (Option.some FieldType.int) ∈ aj_TB := aj_memL (aj_t8 (List.mem_of_getElem? (i := 21) (by decide +kernel))) (by decide +kernel)
set_option maxRecDepth 20000 in
theorem wd1828 : Cond.instanceMethod ⟨"CageLiftModel", "twist", "(I)I"⟩ ∈ aj_TB := aj_memL (aj_t8 (List.mem_of_getElem? (i := 19) (by decide +kernel))) (by decide +kernel)
set_option maxRecDepth 20000 in
theorem wd1829 : Cond.selects "CageLiftModel" ⟨"CageLiftModel", "twist", "(I)I"⟩ ⟨"CageLiftModel", "twist", "(I)I"⟩ ∈ aj_TB := aj_memL (aj_t8 (List.mem_of_getElem? (i := 20) (by decide +kernel))) (by decide +kernel)
set_option maxRecDepth 20000 in
theorem wd1832 : Cond.methodLink "CageLiftLaw" 64 ⟨"CageLiftModel", "undo", "(I)I"⟩ ∈ aj_TB := aj_memL (aj_t8 (List.mem_of_getElem? (i := 23) (by decide +kernel))) (by decide +kernel)
set_option maxRecDepth 20000 in
theorem wd1835 : Cond.code ⟨"CageLiftModel", "undo", "(I)I"⟩ prog_14_method_68_code 3 (Option.some FieldType.int) ∈ aj_TB := aj_memL (aj_t8 (List.mem_of_getElem? (i := 26) (by decide +kernel))) (by decide +kernel)
set_option maxRecDepth 20000 in
theorem wd1833 : Cond.instanceMethod ⟨"CageLiftModel", "undo", "(I)I"⟩ ∈ aj_TB := aj_memL (aj_t8 (List.mem_of_getElem? (i := 24) (by decide +kernel))) (by decide +kernel)
set_option maxRecDepth 20000 in
theorem wd1834 : Cond.selects "CageLiftModel" ⟨"CageLiftModel", "undo", "(I)I"⟩ ⟨"CageLiftModel", "undo", "(I)I"⟩ ∈ aj_TB := aj_memL (aj_t8 (List.mem_of_getElem? (i := 25) (by decide +kernel))) (by decide +kernel)
set_option maxRecDepth 20000 in
theorem wd1837 : Cond.methodLink "CageLiftLaw" 68 ⟨"CageLiftModel", "judge", "(II)I"⟩ ∈ aj_TB := aj_memL (aj_t8 (List.mem_of_getElem? (i := 28) (by decide +kernel))) (by decide +kernel)
set_option maxRecDepth 20000 in
theorem wd1840 : Cond.code ⟨"CageLiftModel", "judge", "(II)I"⟩ prog_14_method_73_code 5 (Option.some FieldType.int) ∈ aj_TB := aj_memL (aj_t8 (List.mem_of_getElem? (i := 31) (by decide +kernel))) (by decide +kernel)
set_option maxRecDepth 20000 in
theorem wd1838 : Cond.instanceMethod ⟨"CageLiftModel", "judge", "(II)I"⟩ ∈ aj_TB := aj_memL (aj_t8 (List.mem_of_getElem? (i := 29) (by decide +kernel))) (by decide +kernel)
set_option maxRecDepth 20000 in
theorem wd1839 : Cond.selects "CageLiftModel" ⟨"CageLiftModel", "judge", "(II)I"⟩ ⟨"CageLiftModel", "judge", "(II)I"⟩ ∈ aj_TB := aj_memL (aj_t8 (List.mem_of_getElem? (i := 30) (by decide +kernel))) (by decide +kernel)
set_option maxRecDepth 20000 in
theorem wd1842 : Cond.methodLink "CageLiftModel" 330 ⟨"CageLiftModel", "noTray", "(I)I"⟩ ∈ aj_TB := aj_memL (aj_t8 (List.mem_of_getElem? (i := 33) (by decide +kernel))) (by decide +kernel)
set_option maxRecDepth 20000 in
theorem wd1845 : Cond.code ⟨"CageLiftModel", "noTray", "(I)I"⟩ prog_14_method_72_code 2 (Option.some FieldType.int) ∈ aj_TB := aj_memL (aj_t8 (List.mem_of_getElem? (i := 36) (by decide +kernel))) (by decide +kernel)
set_option maxRecDepth 20000 in
theorem wd1844 : Cond.instanceMethod ⟨"CageLiftModel", "noTray", "(I)I"⟩ ∈ aj_TB := aj_memL (aj_t8 (List.mem_of_getElem? (i := 35) (by decide +kernel))) (by decide +kernel)
set_option maxRecDepth 20000 in
theorem wd88 : Cond.selects "CageLiftModel" ⟨"CageLiftModel", "noTray", "(I)I"⟩ ⟨"CageLiftModel", "noTray", "(I)I"⟩ ∈ aj_TB := aj_memL (List.mem_append_left _ (List.mem_of_getElem? (i := 88) (by decide +kernel))) (by decide +kernel)
set_option maxRecDepth 20000 in
theorem wd1846 : Cond.methodLink "CageLiftModel" 333 ⟨"CageLiftModel", "tells", "(I)I"⟩ ∈ aj_TB := aj_memL (aj_t8 (List.mem_of_getElem? (i := 37) (by decide +kernel))) (by decide +kernel)
set_option maxRecDepth 20000 in
theorem wd1849 : Cond.code ⟨"CageLiftModel", "tells", "(I)I"⟩ prog_14_method_71_code 3 (Option.some FieldType.int) ∈ aj_TB := aj_memL (aj_t8 (List.mem_of_getElem? (i := 40) (by decide +kernel))) (by decide +kernel)
set_option maxRecDepth 20000 in
theorem wd1848 : Cond.instanceMethod ⟨"CageLiftModel", "tells", "(I)I"⟩ ∈ aj_TB := aj_memL (aj_t8 (List.mem_of_getElem? (i := 39) (by decide +kernel))) (by decide +kernel)
set_option maxRecDepth 20000 in
theorem wd89 : Cond.selects "CageLiftModel" ⟨"CageLiftModel", "tells", "(I)I"⟩ ⟨"CageLiftModel", "tells", "(I)I"⟩ ∈ aj_TB := aj_memL (List.mem_append_left _ (List.mem_of_getElem? (i := 89) (by decide +kernel))) (by decide +kernel)
set_option maxRecDepth 20000 in
theorem wd1850 : Cond.methodLink "CageLiftModel" 321 ⟨"CageLiftModel", "whyNot", "(J)I"⟩ ∈ aj_TB := aj_memL (aj_t8 (List.mem_of_getElem? (i := 41) (by decide +kernel))) (by decide +kernel)
set_option maxRecDepth 20000 in
theorem wd1853 : Cond.code ⟨"CageLiftModel", "whyNot", "(J)I"⟩ prog_14_method_69_code 3 (Option.some FieldType.int) ∈ aj_TB := aj_memL (aj_t8 (List.mem_of_getElem? (i := 44) (by decide +kernel))) (by decide +kernel)
set_option maxRecDepth 20000 in
theorem wd1852 : Cond.instanceMethod ⟨"CageLiftModel", "whyNot", "(J)I"⟩ ∈ aj_TB := aj_memL (aj_t8 (List.mem_of_getElem? (i := 43) (by decide +kernel))) (by decide +kernel)
set_option maxRecDepth 20000 in
theorem wd90 : Cond.selects "CageLiftModel" ⟨"CageLiftModel", "whyNot", "(J)I"⟩ ⟨"CageLiftModel", "whyNot", "(J)I"⟩ ∈ aj_TB := aj_memL (List.mem_append_left _ (List.mem_of_getElem? (i := 90) (by decide +kernel))) (by decide +kernel)
set_option maxRecDepth 20000 in
theorem wd1859 : Cond.methodLink "CageLiftModel" 325 ⟨"CageLiftModel", "does", "(I)V"⟩ ∈ aj_TB := aj_memL (aj_t8 (List.mem_of_getElem? (i := 50) (by decide +kernel))) (by decide +kernel)
set_option maxRecDepth 20000 in
theorem wd1862 : Cond.code ⟨"CageLiftModel", "does", "(I)V"⟩ prog_14_method_70_code 2 (Option.none : Option FieldType) ∈ aj_TB := aj_memL (aj_t8 (List.mem_of_getElem? (i := 53) (by decide +kernel))) (by decide +kernel)
set_option maxRecDepth 20000 in
theorem wd1861 : Cond.instanceMethod ⟨"CageLiftModel", "does", "(I)V"⟩ ∈ aj_TB := aj_memL (aj_t8 (List.mem_of_getElem? (i := 52) (by decide +kernel))) (by decide +kernel)
set_option maxRecDepth 20000 in
theorem wd91 : Cond.selects "CageLiftModel" ⟨"CageLiftModel", "does", "(I)V"⟩ ⟨"CageLiftModel", "does", "(I)V"⟩ ∈ aj_TB := aj_memL (List.mem_append_left _ (List.mem_of_getElem? (i := 91) (by decide +kernel))) (by decide +kernel)
set_option maxRecDepth 20000 in
theorem wd1863 : Cond.methodLink "CageLiftModel" 336 ⟨"CageLiftModel", "laysNet", "()V"⟩ ∈ aj_TB := aj_memL (aj_t8 (List.mem_of_getElem? (i := 54) (by decide +kernel))) (by decide +kernel)
set_option maxRecDepth 20000 in
theorem wd1866 : Cond.code ⟨"CageLiftModel", "laysNet", "()V"⟩ prog_14_method_52_code 2 (Option.none : Option FieldType) ∈ aj_TB := aj_memL (aj_t8 (List.mem_of_getElem? (i := 57) (by decide +kernel))) (by decide +kernel)
set_option maxRecDepth 20000 in
theorem wd1865 : Cond.instanceMethod ⟨"CageLiftModel", "laysNet", "()V"⟩ ∈ aj_TB := aj_memL (aj_t8 (List.mem_of_getElem? (i := 56) (by decide +kernel))) (by decide +kernel)
set_option maxRecDepth 20000 in
theorem wd92 : Cond.selects "CageLiftModel" ⟨"CageLiftModel", "laysNet", "()V"⟩ ⟨"CageLiftModel", "laysNet", "()V"⟩ ∈ aj_TB := aj_memL (List.mem_append_left _ (List.mem_of_getElem? (i := 92) (by decide +kernel))) (by decide +kernel)
set_option maxRecDepth 20000 in
theorem wd1867 : Cond.methodLink "CageLiftModel" 278 ⟨"CageLiftModel", "laysArc", "(I)V"⟩ ∈ aj_TB := aj_memL (aj_t8 (List.mem_of_getElem? (i := 58) (by decide +kernel))) (by decide +kernel)
set_option maxRecDepth 20000 in
theorem wd1870 : Cond.code ⟨"CageLiftModel", "laysArc", "(I)V"⟩ prog_14_method_51_code 4 (Option.none : Option FieldType) ∈ aj_TB := aj_memL (aj_t8 (List.mem_of_getElem? (i := 61) (by decide +kernel))) (by decide +kernel)
set_option maxRecDepth 20000 in
theorem wd1869 : Cond.instanceMethod ⟨"CageLiftModel", "laysArc", "(I)V"⟩ ∈ aj_TB := aj_memL (aj_t8 (List.mem_of_getElem? (i := 60) (by decide +kernel))) (by decide +kernel)
set_option maxRecDepth 20000 in
theorem wd93 : Cond.selects "CageLiftModel" ⟨"CageLiftModel", "laysArc", "(I)V"⟩ ⟨"CageLiftModel", "laysArc", "(I)V"⟩ ∈ aj_TB := aj_memL (List.mem_append_left _ (List.mem_of_getElem? (i := 93) (by decide +kernel))) (by decide +kernel)
set_option maxRecDepth 20000 in
theorem wd1871 : Cond.methodLink "CageLiftModel" 261 ⟨"CageLiftModel", "isKept", "(II)Z"⟩ ∈ aj_TB := aj_memL (aj_t8 (List.mem_of_getElem? (i := 62) (by decide +kernel))) (by decide +kernel)
set_option maxRecDepth 20000 in
theorem wd1874 : Cond.code ⟨"CageLiftModel", "isKept", "(II)Z"⟩ prog_14_method_50_code 3 (Option.some FieldType.boolean) ∈ aj_TB := aj_memL (aj_t8 (List.mem_of_getElem? (i := 65) (by decide +kernel))) (by decide +kernel)
set_option maxRecDepth 20000 in
theorem wd1873 : Cond.instanceMethod ⟨"CageLiftModel", "isKept", "(II)Z"⟩ ∈ aj_TB := aj_memL (aj_t8 (List.mem_of_getElem? (i := 64) (by decide +kernel))) (by decide +kernel)
set_option maxRecDepth 20000 in
theorem wd94 : Cond.selects "CageLiftModel" ⟨"CageLiftModel", "isKept", "(II)Z"⟩ ⟨"CageLiftModel", "isKept", "(II)Z"⟩ ∈ aj_TB := aj_memL (List.mem_append_left _ (List.mem_of_getElem? (i := 94) (by decide +kernel))) (by decide +kernel)
set_option maxRecDepth 20000 in
theorem wd1875 : Cond.methodLink "CageLiftModel" 254 ⟨"CageLiftModel", "laysWords", "(III)V"⟩ ∈ aj_TB := aj_memL (aj_t8 (List.mem_of_getElem? (i := 66) (by decide +kernel))) (by decide +kernel)
set_option maxRecDepth 20000 in
theorem wd1878 : Cond.code ⟨"CageLiftModel", "laysWords", "(III)V"⟩ prog_14_method_48_code 4 (Option.none : Option FieldType) ∈ aj_TB := aj_memL (aj_t8 (List.mem_of_getElem? (i := 69) (by decide +kernel))) (by decide +kernel)
set_option maxRecDepth 20000 in
theorem wd1877 : Cond.instanceMethod ⟨"CageLiftModel", "laysWords", "(III)V"⟩ ∈ aj_TB := aj_memL (aj_t8 (List.mem_of_getElem? (i := 68) (by decide +kernel))) (by decide +kernel)
set_option maxRecDepth 20000 in
theorem wd95 : Cond.selects "CageLiftModel" ⟨"CageLiftModel", "laysWords", "(III)V"⟩ ⟨"CageLiftModel", "laysWords", "(III)V"⟩ ∈ aj_TB := aj_memL (List.mem_append_left _ (List.mem_of_getElem? (i := 95) (by decide +kernel))) (by decide +kernel)
set_option maxRecDepth 20000 in
theorem wd1879 : Cond.methodLink "CageLiftModel" 258 ⟨"CageLiftModel", "reckons", "(I)I"⟩ ∈ aj_TB := aj_memL (aj_t8 (List.mem_of_getElem? (i := 70) (by decide +kernel))) (by decide +kernel)
set_option maxRecDepth 20000 in
theorem wd1882 : Cond.code ⟨"CageLiftModel", "reckons", "(I)I"⟩ prog_14_method_47_code 5 (Option.some FieldType.int) ∈ aj_TB := aj_memL (aj_t8 (List.mem_of_getElem? (i := 73) (by decide +kernel))) (by decide +kernel)
set_option maxRecDepth 20000 in
theorem wd1881 : Cond.instanceMethod ⟨"CageLiftModel", "reckons", "(I)I"⟩ ∈ aj_TB := aj_memL (aj_t8 (List.mem_of_getElem? (i := 72) (by decide +kernel))) (by decide +kernel)
set_option maxRecDepth 20000 in
theorem wd96 : Cond.selects "CageLiftModel" ⟨"CageLiftModel", "reckons", "(I)I"⟩ ⟨"CageLiftModel", "reckons", "(I)I"⟩ ∈ aj_TB := aj_memL (List.mem_append_left _ (List.mem_of_getElem? (i := 96) (by decide +kernel))) (by decide +kernel)
set_option maxRecDepth 20000 in
theorem wd1883 : Cond.methodLink "CageLiftModel" 250 ⟨"CageLiftModel", "between", "(III)I"⟩ ∈ aj_TB := aj_memL (aj_t8 (List.mem_of_getElem? (i := 74) (by decide +kernel))) (by decide +kernel)
set_option maxRecDepth 20000 in
theorem wd1885 : Cond.code ⟨"CageLiftModel", "between", "(III)I"⟩ prog_14_method_46_code 5 (Option.some FieldType.int) ∈ aj_TB := aj_memL (aj_t8 (List.mem_of_getElem? (i := 76) (by decide +kernel))) (by decide +kernel)
set_option maxRecDepth 20000 in
theorem wd1884 : Cond.static ⟨"CageLiftModel", "between", "(III)I"⟩ ∈ aj_TB := aj_memL (aj_t8 (List.mem_of_getElem? (i := 75) (by decide +kernel))) (by decide +kernel)
set_option maxRecDepth 20000 in
theorem wd1888 : Cond.methodLink "CageLiftModel" 268 ⟨"CageLiftModel", "weightOf", "(III)I"⟩ ∈ aj_TB := aj_memL (aj_t8 (List.mem_of_getElem? (i := 79) (by decide +kernel))) (by decide +kernel)
set_option maxRecDepth 20000 in
theorem wd1891 : Cond.code ⟨"CageLiftModel", "weightOf", "(III)I"⟩ prog_14_method_49_code 5 (Option.some FieldType.int) ∈ aj_TB := aj_memL (aj_t8 (List.mem_of_getElem? (i := 82) (by decide +kernel))) (by decide +kernel)
set_option maxRecDepth 20000 in
theorem wd1890 : Cond.instanceMethod ⟨"CageLiftModel", "weightOf", "(III)I"⟩ ∈ aj_TB := aj_memL (aj_t8 (List.mem_of_getElem? (i := 81) (by decide +kernel))) (by decide +kernel)
set_option maxRecDepth 20000 in
theorem wd97 : Cond.selects "CageLiftModel" ⟨"CageLiftModel", "weightOf", "(III)I"⟩ ⟨"CageLiftModel", "weightOf", "(III)I"⟩ ∈ aj_TB := aj_memL (List.mem_append_left _ (List.mem_of_getElem? (i := 97) (by decide +kernel))) (by decide +kernel)
set_option maxRecDepth 20000 in
theorem wd1892 : Cond.methodLink "CageLiftModel" 339 ⟨"CageLiftModel", "isAgain", "()V"⟩ ∈ aj_TB := aj_memL (aj_t8 (List.mem_of_getElem? (i := 83) (by decide +kernel))) (by decide +kernel)
set_option maxRecDepth 20000 in
theorem wd1895 : Cond.code ⟨"CageLiftModel", "isAgain", "()V"⟩ prog_14_method_62_code 2 (Option.none : Option FieldType) ∈ aj_TB := aj_memL (aj_t8 (List.mem_of_getElem? (i := 86) (by decide +kernel))) (by decide +kernel)
set_option maxRecDepth 20000 in
theorem wd1894 : Cond.instanceMethod ⟨"CageLiftModel", "isAgain", "()V"⟩ ∈ aj_TB := aj_memL (aj_t8 (List.mem_of_getElem? (i := 85) (by decide +kernel))) (by decide +kernel)
set_option maxRecDepth 20000 in
theorem wd98 : Cond.selects "CageLiftModel" ⟨"CageLiftModel", "isAgain", "()V"⟩ ⟨"CageLiftModel", "isAgain", "()V"⟩ ∈ aj_TB := aj_memL (List.mem_append_left _ (List.mem_of_getElem? (i := 98) (by decide +kernel))) (by decide +kernel)
set_option maxRecDepth 20000 in
theorem wd1896 : Cond.methodLink "CageLiftModel" 342 ⟨"CageLiftModel", "girthNow", "()I"⟩ ∈ aj_TB := aj_memL (aj_t8 (List.mem_of_getElem? (i := 87) (by decide +kernel))) (by decide +kernel)
set_option maxRecDepth 20000 in
theorem wd1899 : Cond.code ⟨"CageLiftModel", "girthNow", "()I"⟩ prog_14_method_58_code 4 (Option.some FieldType.int) ∈ aj_TB := aj_memL (aj_t8 (List.mem_of_getElem? (i := 90) (by decide +kernel))) (by decide +kernel)
set_option maxRecDepth 20000 in
theorem wd1898 : Cond.instanceMethod ⟨"CageLiftModel", "girthNow", "()I"⟩ ∈ aj_TB := aj_memL (aj_t8 (List.mem_of_getElem? (i := 89) (by decide +kernel))) (by decide +kernel)
set_option maxRecDepth 20000 in
theorem wd99 : Cond.selects "CageLiftModel" ⟨"CageLiftModel", "girthNow", "()I"⟩ ⟨"CageLiftModel", "girthNow", "()I"⟩ ∈ aj_TB := aj_memL (List.mem_append_left _ (List.mem_of_getElem? (i := 99) (by decide +kernel))) (by decide +kernel)
set_option maxRecDepth 20000 in
theorem wd1901 : Cond.methodLink "CageLiftModel" 288 ⟨"CageLiftModel", "throughOf", "(I)I"⟩ ∈ aj_TB := aj_memL (aj_t8 (List.mem_of_getElem? (i := 92) (by decide +kernel))) (by decide +kernel)
set_option maxRecDepth 20000 in
theorem wd1904 : Cond.code ⟨"CageLiftModel", "throughOf", "(I)I"⟩ prog_14_method_57_code 7 (Option.some FieldType.int) ∈ aj_TB := aj_memL (aj_t8 (List.mem_of_getElem? (i := 95) (by decide +kernel))) (by decide +kernel)
set_option maxRecDepth 20000 in
theorem wd1903 : Cond.instanceMethod ⟨"CageLiftModel", "throughOf", "(I)I"⟩ ∈ aj_TB := aj_memL (aj_t8 (List.mem_of_getElem? (i := 94) (by decide +kernel))) (by decide +kernel)
set_option maxRecDepth 20000 in
theorem wd100 : Cond.selects "CageLiftModel" ⟨"CageLiftModel", "throughOf", "(I)I"⟩ ⟨"CageLiftModel", "throughOf", "(I)I"⟩ ∈ aj_TB := aj_memL (List.mem_append_left _ (List.mem_of_getElem? (i := 100) (by decide +kernel))) (by decide +kernel)
set_option maxRecDepth 20000 in
theorem wd1905 : Cond.methodLink "CageLiftModel" 285 ⟨"CageLiftModel", "laysFar", "(I)I"⟩ ∈ aj_TB := aj_memL (aj_t8 (List.mem_of_getElem? (i := 96) (by decide +kernel))) (by decide +kernel)
set_option maxRecDepth 20000 in
theorem wd1908 : Cond.code ⟨"CageLiftModel", "laysFar", "(I)I"⟩ prog_14_method_56_code 6 (Option.some FieldType.int) ∈ aj_TB := aj_memL (aj_t8 (List.mem_of_getElem? (i := 99) (by decide +kernel))) (by decide +kernel)
set_option maxRecDepth 20000 in
theorem wd1907 : Cond.instanceMethod ⟨"CageLiftModel", "laysFar", "(I)I"⟩ ∈ aj_TB := aj_memL (aj_t8 (List.mem_of_getElem? (i := 98) (by decide +kernel))) (by decide +kernel)
set_option maxRecDepth 20000 in
theorem wd101 : Cond.selects "CageLiftModel" ⟨"CageLiftModel", "laysFar", "(I)I"⟩ ⟨"CageLiftModel", "laysFar", "(I)I"⟩ ∈ aj_TB := aj_memL (List.mem_append_left _ (List.mem_of_getElem? (i := 101) (by decide +kernel))) (by decide +kernel)
set_option maxRecDepth 20000 in
theorem wd1909 : Cond.methodLink "CageLiftModel" 282 ⟨"CageLiftModel", "overFrom", "(II)I"⟩ ∈ aj_TB := aj_memL (aj_t8 (List.mem_of_getElem? (i := 100) (by decide +kernel))) (by decide +kernel)
set_option maxRecDepth 20000 in
theorem wd1912 : Cond.code ⟨"CageLiftModel", "overFrom", "(II)I"⟩ prog_14_method_54_code 3 (Option.some FieldType.int) ∈ aj_TB := aj_memL (aj_t8 (List.mem_of_getElem? (i := 103) (by decide +kernel))) (by decide +kernel)
set_option maxRecDepth 20000 in
theorem wd1911 : Cond.instanceMethod ⟨"CageLiftModel", "overFrom", "(II)I"⟩ ∈ aj_TB := aj_memL (aj_t8 (List.mem_of_getElem? (i := 102) (by decide +kernel))) (by decide +kernel)
set_option maxRecDepth 20000 in
theorem wd102 : Cond.selects "CageLiftModel" ⟨"CageLiftModel", "overFrom", "(II)I"⟩ ⟨"CageLiftModel", "overFrom", "(II)I"⟩ ∈ aj_TB := aj_memL (List.mem_append_left _ (List.mem_of_getElem? (i := 102) (by decide +kernel))) (by decide +kernel)
set_option maxRecDepth 20000 in
theorem wd1913 : Cond.methodLink "CageLiftModel" 345 ⟨"CageLiftModel", "toldFar", "(I)I"⟩ ∈ aj_TB := aj_memL (aj_t8 (List.mem_of_getElem? (i := 104) (by decide +kernel))) (by decide +kernel)
set_option maxRecDepth 20000 in
theorem wd1915 : Cond.code ⟨"CageLiftModel", "toldFar", "(I)I"⟩ prog_14_method_59_code 1 (Option.some FieldType.int) ∈ aj_TB := aj_memL (aj_t8 (List.mem_of_getElem? (i := 106) (by decide +kernel))) (by decide +kernel)
set_option maxRecDepth 20000 in
theorem wd1914 : Cond.static ⟨"CageLiftModel", "toldFar", "(I)I"⟩ ∈ aj_TB := aj_memL (aj_t8 (List.mem_of_getElem? (i := 105) (by decide +kernel))) (by decide +kernel)
set_option maxRecDepth 20000 in
theorem wd1916 : Cond.methodLink "CageLiftLaw" 72 ⟨"CageLiftModel", "perform", "(I)I"⟩ ∈ aj_TB := aj_memL (aj_t8 (List.mem_of_getElem? (i := 107) (by decide +kernel))) (by decide +kernel)
set_option maxRecDepth 20000 in
theorem wd1919 : Cond.code ⟨"CageLiftModel", "perform", "(I)I"⟩ prog_14_method_74_code 4 (Option.some FieldType.int) ∈ aj_TB := aj_memL (aj_t8 (List.mem_of_getElem? (i := 110) (by decide +kernel))) (by decide +kernel)
set_option maxRecDepth 20000 in
theorem wd1917 : Cond.instanceMethod ⟨"CageLiftModel", "perform", "(I)I"⟩ ∈ aj_TB := aj_memL (aj_t8 (List.mem_of_getElem? (i := 108) (by decide +kernel))) (by decide +kernel)
set_option maxRecDepth 20000 in
theorem wd1918 : Cond.selects "CageLiftModel" ⟨"CageLiftModel", "perform", "(I)I"⟩ ⟨"CageLiftModel", "perform", "(I)I"⟩ ∈ aj_TB := aj_memL (aj_t8 (List.mem_of_getElem? (i := 109) (by decide +kernel))) (by decide +kernel)
set_option maxRecDepth 20000 in
theorem wd1920 : Cond.methodLink "CageLiftLaw" 76 ⟨"CageLiftModel", "day", "(II)I"⟩ ∈ aj_TB := aj_memL (aj_t8 (List.mem_of_getElem? (i := 111) (by decide +kernel))) (by decide +kernel)
set_option maxRecDepth 20000 in
theorem wd1923 : Cond.code ⟨"CageLiftModel", "day", "(II)I"⟩ prog_14_method_77_code 6 (Option.some FieldType.int) ∈ aj_TB := aj_memL (aj_t8 (List.mem_of_getElem? (i := 114) (by decide +kernel))) (by decide +kernel)
set_option maxRecDepth 20000 in
theorem wd1921 : Cond.instanceMethod ⟨"CageLiftModel", "day", "(II)I"⟩ ∈ aj_TB := aj_memL (aj_t8 (List.mem_of_getElem? (i := 112) (by decide +kernel))) (by decide +kernel)
set_option maxRecDepth 20000 in
theorem wd1922 : Cond.selects "CageLiftModel" ⟨"CageLiftModel", "day", "(II)I"⟩ ⟨"CageLiftModel", "day", "(II)I"⟩ ∈ aj_TB := aj_memL (aj_t8 (List.mem_of_getElem? (i := 113) (by decide +kernel))) (by decide +kernel)
set_option maxRecDepth 20000 in
theorem wd1925 : Cond.methodLink "CageLiftModel" 357 ⟨"CageLiftModel", "drawn", "()I"⟩ ∈ aj_TB := aj_memL (aj_t8 (List.mem_of_getElem? (i := 116) (by decide +kernel))) (by decide +kernel)
set_option maxRecDepth 20000 in
theorem wd1928 : Cond.code ⟨"CageLiftModel", "drawn", "()I"⟩ prog_14_method_76_code 3 (Option.some FieldType.int) ∈ aj_TB := aj_memL (aj_t8 (List.mem_of_getElem? (i := 119) (by decide +kernel))) (by decide +kernel)
set_option maxRecDepth 20000 in
theorem wd1927 : Cond.instanceMethod ⟨"CageLiftModel", "drawn", "()I"⟩ ∈ aj_TB := aj_memL (aj_t8 (List.mem_of_getElem? (i := 118) (by decide +kernel))) (by decide +kernel)
set_option maxRecDepth 20000 in
theorem wd103 : Cond.selects "CageLiftModel" ⟨"CageLiftModel", "drawn", "()I"⟩ ⟨"CageLiftModel", "drawn", "()I"⟩ ∈ aj_TB := aj_memL (List.mem_append_left _ (List.mem_of_getElem? (i := 103) (by decide +kernel))) (by decide +kernel)
set_option maxRecDepth 20000 in
theorem wd1929 : Cond.methodLink "CageLiftModel" 352 ⟨"CageLiftModel", "draw", "(I)I"⟩ ∈ aj_TB := aj_memL (aj_t8 (List.mem_of_getElem? (i := 120) (by decide +kernel))) (by decide +kernel)
set_option maxRecDepth 20000 in
theorem wd1932 : Cond.code ⟨"CageLiftModel", "draw", "(I)I"⟩ prog_14_method_75_code 2 (Option.some FieldType.int) ∈ aj_TB := aj_memL (aj_t8 (List.mem_of_getElem? (i := 123) (by decide +kernel))) (by decide +kernel)
set_option maxRecDepth 20000 in
theorem wd1931 : Cond.instanceMethod ⟨"CageLiftModel", "draw", "(I)I"⟩ ∈ aj_TB := aj_memL (aj_t8 (List.mem_of_getElem? (i := 122) (by decide +kernel))) (by decide +kernel)
set_option maxRecDepth 20000 in
theorem wd104 : Cond.selects "CageLiftModel" ⟨"CageLiftModel", "draw", "(I)I"⟩ ⟨"CageLiftModel", "draw", "(I)I"⟩ ∈ aj_TB := aj_memL (List.mem_append_left _ (List.mem_of_getElem? (i := 104) (by decide +kernel))) (by decide +kernel)
set_option maxRecDepth 20000 in
theorem wd1934 : Cond.methodLink "CageLiftLaw" 80 ⟨"CageLiftModel", "joins", "(II)I"⟩ ∈ aj_TB := aj_memL (aj_t8 (List.mem_of_getElem? (i := 125) (by decide +kernel))) (by decide +kernel)
set_option maxRecDepth 20000 in
theorem wd1937 : Cond.code ⟨"CageLiftModel", "joins", "(II)I"⟩ prog_14_method_78_code 3 (Option.some FieldType.int) ∈ aj_TB := aj_memL (aj_t8 (List.mem_of_getElem? (i := 128) (by decide +kernel))) (by decide +kernel)
set_option maxRecDepth 20000 in
theorem wd1935 : Cond.instanceMethod ⟨"CageLiftModel", "joins", "(II)I"⟩ ∈ aj_TB := aj_memL (aj_t8 (List.mem_of_getElem? (i := 126) (by decide +kernel))) (by decide +kernel)
set_option maxRecDepth 20000 in
theorem wd1936 : Cond.selects "CageLiftModel" ⟨"CageLiftModel", "joins", "(II)I"⟩ ⟨"CageLiftModel", "joins", "(II)I"⟩ ∈ aj_TB := aj_memL (aj_t8 (List.mem_of_getElem? (i := 127) (by decide +kernel))) (by decide +kernel)
set_option maxRecDepth 20000 in
theorem wd1938 : Cond.methodLink "CageLiftModel" 360 ⟨"CageLiftModel", "isNode", "(J)Z"⟩ ∈ aj_TB := aj_memL (aj_t8 (List.mem_of_getElem? (i := 129) (by decide +kernel))) (by decide +kernel)
set_option maxRecDepth 20000 in
theorem wd1941 : Cond.code ⟨"CageLiftModel", "isNode", "(J)Z"⟩ prog_14_method_53_code 3 (Option.some FieldType.boolean) ∈ aj_TB := aj_memL (aj_t8 (List.mem_of_getElem? (i := 132) (by decide +kernel))) (by decide +kernel)
set_option maxRecDepth 20000 in
theorem wd1940 : Cond.instanceMethod ⟨"CageLiftModel", "isNode", "(J)Z"⟩ ∈ aj_TB := aj_memL (aj_t8 (List.mem_of_getElem? (i := 131) (by decide +kernel))) (by decide +kernel)
set_option maxRecDepth 20000 in
theorem wd105 : Cond.selects "CageLiftModel" ⟨"CageLiftModel", "isNode", "(J)Z"⟩ ⟨"CageLiftModel", "isNode", "(J)Z"⟩ ∈ aj_TB := aj_memL (List.mem_append_left _ (List.mem_of_getElem? (i := 105) (by decide +kernel))) (by decide +kernel)
set_option maxRecDepth 20000 in
theorem wd1942 : Cond.methodLink "CageLiftLaw" 84 ⟨"CageLiftModel", "degree", "(I)I"⟩ ∈ aj_TB := aj_memL (aj_t8 (List.mem_of_getElem? (i := 133) (by decide +kernel))) (by decide +kernel)
set_option maxRecDepth 20000 in
theorem wd1945 : Cond.code ⟨"CageLiftModel", "degree", "(I)I"⟩ prog_14_method_79_code 2 (Option.some FieldType.int) ∈ aj_TB := aj_memL (aj_t8 (List.mem_of_getElem? (i := 136) (by decide +kernel))) (by decide +kernel)
set_option maxRecDepth 20000 in
theorem wd1943 : Cond.instanceMethod ⟨"CageLiftModel", "degree", "(I)I"⟩ ∈ aj_TB := aj_memL (aj_t8 (List.mem_of_getElem? (i := 134) (by decide +kernel))) (by decide +kernel)
set_option maxRecDepth 20000 in
theorem wd1944 : Cond.selects "CageLiftModel" ⟨"CageLiftModel", "degree", "(I)I"⟩ ⟨"CageLiftModel", "degree", "(I)I"⟩ ∈ aj_TB := aj_memL (aj_t8 (List.mem_of_getElem? (i := 135) (by decide +kernel))) (by decide +kernel)
set_option maxRecDepth 20000 in
theorem wd1946 : Cond.methodLink "CageLiftModel" 363 ⟨"CageLiftModel", "degreeOf", "(I)I"⟩ ∈ aj_TB := aj_memL (aj_t8 (List.mem_of_getElem? (i := 137) (by decide +kernel))) (by decide +kernel)
set_option maxRecDepth 20000 in
theorem wd1949 : Cond.code ⟨"CageLiftModel", "degreeOf", "(I)I"⟩ prog_14_method_55_code 4 (Option.some FieldType.int) ∈ aj_TB := aj_memL (aj_t8 (List.mem_of_getElem? (i := 140) (by decide +kernel))) (by decide +kernel)
set_option maxRecDepth 20000 in
theorem wd1948 : Cond.instanceMethod ⟨"CageLiftModel", "degreeOf", "(I)I"⟩ ∈ aj_TB := aj_memL (aj_t8 (List.mem_of_getElem? (i := 139) (by decide +kernel))) (by decide +kernel)
set_option maxRecDepth 20000 in
theorem wd106 : Cond.selects "CageLiftModel" ⟨"CageLiftModel", "degreeOf", "(I)I"⟩ ⟨"CageLiftModel", "degreeOf", "(I)I"⟩ ∈ aj_TB := aj_memL (List.mem_append_left _ (List.mem_of_getElem? (i := 106) (by decide +kernel))) (by decide +kernel)
set_option maxRecDepth 20000 in
theorem wd1950 : Cond.methodLink "CageLiftLaw" 88 ⟨"CageLiftModel", "neighbour", "(II)I"⟩ ∈ aj_TB := aj_memL (aj_t8 (List.mem_of_getElem? (i := 141) (by decide +kernel))) (by decide +kernel)
set_option maxRecDepth 20000 in
theorem wd1953 : Cond.code ⟨"CageLiftModel", "neighbour", "(II)I"⟩ prog_14_method_80_code 5 (Option.some FieldType.int) ∈ aj_TB := aj_memL (aj_t8 (List.mem_of_getElem? (i := 144) (by decide +kernel))) (by decide +kernel)
set_option maxRecDepth 20000 in
theorem wd1951 : Cond.instanceMethod ⟨"CageLiftModel", "neighbour", "(II)I"⟩ ∈ aj_TB := aj_memL (aj_t8 (List.mem_of_getElem? (i := 142) (by decide +kernel))) (by decide +kernel)
set_option maxRecDepth 20000 in
theorem wd1952 : Cond.selects "CageLiftModel" ⟨"CageLiftModel", "neighbour", "(II)I"⟩ ⟨"CageLiftModel", "neighbour", "(II)I"⟩ ∈ aj_TB := aj_memL (aj_t8 (List.mem_of_getElem? (i := 143) (by decide +kernel))) (by decide +kernel)
set_option maxRecDepth 20000 in
theorem wd1954 : Cond.methodLink "CageLiftLaw" 92 ⟨"CageLiftModel", "regular", "()I"⟩ ∈ aj_TB := aj_memL (aj_t8 (List.mem_of_getElem? (i := 145) (by decide +kernel))) (by decide +kernel)
set_option maxRecDepth 20000 in
theorem wd1957 : Cond.code ⟨"CageLiftModel", "regular", "()I"⟩ prog_14_method_82_code 1 (Option.some FieldType.int) ∈ aj_TB := aj_memL (aj_t8 (List.mem_of_getElem? (i := 148) (by decide +kernel))) (by decide +kernel)
set_option maxRecDepth 20000 in
theorem wd1955 : Cond.instanceMethod ⟨"CageLiftModel", "regular", "()I"⟩ ∈ aj_TB := aj_memL (aj_t8 (List.mem_of_getElem? (i := 146) (by decide +kernel))) (by decide +kernel)
set_option maxRecDepth 20000 in
theorem wd1956 : Cond.selects "CageLiftModel" ⟨"CageLiftModel", "regular", "()I"⟩ ⟨"CageLiftModel", "regular", "()I"⟩ ∈ aj_TB := aj_memL (aj_t8 (List.mem_of_getElem? (i := 147) (by decide +kernel))) (by decide +kernel)
set_option maxRecDepth 20000 in
theorem wd1958 : Cond.methodLink "CageLiftModel" 366 ⟨"CageLiftModel", "regularNow", "()I"⟩ ∈ aj_TB := aj_memL (aj_t8 (List.mem_of_getElem? (i := 149) (by decide +kernel))) (by decide +kernel)
set_option maxRecDepth 20000 in
theorem wd1961 : Cond.code ⟨"CageLiftModel", "regularNow", "()I"⟩ prog_14_method_81_code 3 (Option.some FieldType.int) ∈ aj_TB := aj_memL (aj_t8 (List.mem_of_getElem? (i := 152) (by decide +kernel))) (by decide +kernel)
set_option maxRecDepth 20000 in
theorem wd1960 : Cond.instanceMethod ⟨"CageLiftModel", "regularNow", "()I"⟩ ∈ aj_TB := aj_memL (aj_t8 (List.mem_of_getElem? (i := 151) (by decide +kernel))) (by decide +kernel)
set_option maxRecDepth 20000 in
theorem wd107 : Cond.selects "CageLiftModel" ⟨"CageLiftModel", "regularNow", "()I"⟩ ⟨"CageLiftModel", "regularNow", "()I"⟩ ∈ aj_TB := aj_memL (List.mem_append_left _ (List.mem_of_getElem? (i := 107) (by decide +kernel))) (by decide +kernel)
set_option maxRecDepth 20000 in
theorem wd1962 : Cond.methodLink "CageLiftLaw" 96 ⟨"CageLiftModel", "parts", "()I"⟩ ∈ aj_TB := aj_memL (aj_t8 (List.mem_of_getElem? (i := 153) (by decide +kernel))) (by decide +kernel)
set_option maxRecDepth 20000 in
theorem wd1965 : Cond.code ⟨"CageLiftModel", "parts", "()I"⟩ prog_14_method_83_code 6 (Option.some FieldType.int) ∈ aj_TB := aj_memL (aj_t8 (List.mem_of_getElem? (i := 156) (by decide +kernel))) (by decide +kernel)
set_option maxRecDepth 20000 in
theorem wd1963 : Cond.instanceMethod ⟨"CageLiftModel", "parts", "()I"⟩ ∈ aj_TB := aj_memL (aj_t8 (List.mem_of_getElem? (i := 154) (by decide +kernel))) (by decide +kernel)
set_option maxRecDepth 20000 in
theorem wd1964 : Cond.selects "CageLiftModel" ⟨"CageLiftModel", "parts", "()I"⟩ ⟨"CageLiftModel", "parts", "()I"⟩ ∈ aj_TB := aj_memL (aj_t8 (List.mem_of_getElem? (i := 155) (by decide +kernel))) (by decide +kernel)
set_option maxRecDepth 20000 in
theorem wd1966 : Cond.methodLink "CageLiftLaw" 100 ⟨"CageLiftModel", "twoColours", "()I"⟩ ∈ aj_TB := aj_memL (aj_t8 (List.mem_of_getElem? (i := 157) (by decide +kernel))) (by decide +kernel)
set_option maxRecDepth 20000 in
theorem wd1969 : Cond.code ⟨"CageLiftModel", "twoColours", "()I"⟩ prog_14_method_84_code 3 (Option.some FieldType.int) ∈ aj_TB := aj_memL (aj_t8 (List.mem_of_getElem? (i := 160) (by decide +kernel))) (by decide +kernel)
set_option maxRecDepth 20000 in
theorem wd1967 : Cond.instanceMethod ⟨"CageLiftModel", "twoColours", "()I"⟩ ∈ aj_TB := aj_memL (aj_t8 (List.mem_of_getElem? (i := 158) (by decide +kernel))) (by decide +kernel)
set_option maxRecDepth 20000 in
theorem wd1968 : Cond.selects "CageLiftModel" ⟨"CageLiftModel", "twoColours", "()I"⟩ ⟨"CageLiftModel", "twoColours", "()I"⟩ ∈ aj_TB := aj_memL (aj_t8 (List.mem_of_getElem? (i := 159) (by decide +kernel))) (by decide +kernel)
set_option maxRecDepth 20000 in
theorem wd1970 : Cond.methodLink "CageLiftLaw" 104 ⟨"CageLiftModel", "far", "(II)I"⟩ ∈ aj_TB := aj_memL (aj_t8 (List.mem_of_getElem? (i := 161) (by decide +kernel))) (by decide +kernel)
set_option maxRecDepth 20000 in
theorem wd1973 : Cond.code ⟨"CageLiftModel", "far", "(II)I"⟩ prog_14_method_85_code 3 (Option.some FieldType.int) ∈ aj_TB := aj_memL (aj_t8 (List.mem_of_getElem? (i := 164) (by decide +kernel))) (by decide +kernel)
set_option maxRecDepth 20000 in
theorem wd1971 : Cond.instanceMethod ⟨"CageLiftModel", "far", "(II)I"⟩ ∈ aj_TB := aj_memL (aj_t8 (List.mem_of_getElem? (i := 162) (by decide +kernel))) (by decide +kernel)
set_option maxRecDepth 20000 in
theorem wd1972 : Cond.selects "CageLiftModel" ⟨"CageLiftModel", "far", "(II)I"⟩ ⟨"CageLiftModel", "far", "(II)I"⟩ ∈ aj_TB := aj_memL (aj_t8 (List.mem_of_getElem? (i := 163) (by decide +kernel))) (by decide +kernel)
set_option maxRecDepth 20000 in
theorem wd1974 : Cond.methodLink "CageLiftLaw" 108 ⟨"CageLiftModel", "diameter", "()I"⟩ ∈ aj_TB := aj_memL (aj_t8 (List.mem_of_getElem? (i := 165) (by decide +kernel))) (by decide +kernel)
set_option maxRecDepth 20000 in
theorem wd1977 : Cond.code ⟨"CageLiftModel", "diameter", "()I"⟩ prog_14_method_86_code 4 (Option.some FieldType.int) ∈ aj_TB := aj_memL (aj_t8 (List.mem_of_getElem? (i := 168) (by decide +kernel))) (by decide +kernel)
set_option maxRecDepth 20000 in
theorem wd1975 : Cond.instanceMethod ⟨"CageLiftModel", "diameter", "()I"⟩ ∈ aj_TB := aj_memL (aj_t8 (List.mem_of_getElem? (i := 166) (by decide +kernel))) (by decide +kernel)
set_option maxRecDepth 20000 in
theorem wd1976 : Cond.selects "CageLiftModel" ⟨"CageLiftModel", "diameter", "()I"⟩ ⟨"CageLiftModel", "diameter", "()I"⟩ ∈ aj_TB := aj_memL (aj_t8 (List.mem_of_getElem? (i := 167) (by decide +kernel))) (by decide +kernel)
set_option maxRecDepth 20000 in
theorem wd1978 : Cond.methodLink "CageLiftLaw" 112 ⟨"CageLiftModel", "ball", "(II)I"⟩ ∈ aj_TB := aj_memL (aj_t8 (List.mem_of_getElem? (i := 169) (by decide +kernel))) (by decide +kernel)
set_option maxRecDepth 20000 in
theorem wd1981 : Cond.code ⟨"CageLiftModel", "ball", "(II)I"⟩ prog_14_method_87_code 5 (Option.some FieldType.int) ∈ aj_TB := aj_memL (aj_t8 (List.mem_of_getElem? (i := 172) (by decide +kernel))) (by decide +kernel)
set_option maxRecDepth 20000 in
theorem wd1979 : Cond.instanceMethod ⟨"CageLiftModel", "ball", "(II)I"⟩ ∈ aj_TB := aj_memL (aj_t8 (List.mem_of_getElem? (i := 170) (by decide +kernel))) (by decide +kernel)
set_option maxRecDepth 20000 in
theorem wd1980 : Cond.selects "CageLiftModel" ⟨"CageLiftModel", "ball", "(II)I"⟩ ⟨"CageLiftModel", "ball", "(II)I"⟩ ∈ aj_TB := aj_memL (aj_t8 (List.mem_of_getElem? (i := 171) (by decide +kernel))) (by decide +kernel)
set_option maxRecDepth 20000 in
theorem wd1983 : Cond.methodLink "CageLiftLaw" 116 ⟨"CageLiftModel", "girth", "()I"⟩ ∈ aj_TB := aj_memL (aj_t8 (List.mem_of_getElem? (i := 174) (by decide +kernel))) (by decide +kernel)
set_option maxRecDepth 20000 in
theorem wd1986 : Cond.code ⟨"CageLiftModel", "girth", "()I"⟩ prog_14_method_88_code 1 (Option.some FieldType.int) ∈ aj_TB := aj_memL (aj_t8 (List.mem_of_getElem? (i := 177) (by decide +kernel))) (by decide +kernel)
set_option maxRecDepth 20000 in
theorem wd1984 : Cond.instanceMethod ⟨"CageLiftModel", "girth", "()I"⟩ ∈ aj_TB := aj_memL (aj_t8 (List.mem_of_getElem? (i := 175) (by decide +kernel))) (by decide +kernel)
set_option maxRecDepth 20000 in
theorem wd1985 : Cond.selects "CageLiftModel" ⟨"CageLiftModel", "girth", "()I"⟩ ⟨"CageLiftModel", "girth", "()I"⟩ ∈ aj_TB := aj_memL (aj_t8 (List.mem_of_getElem? (i := 176) (by decide +kernel))) (by decide +kernel)
set_option maxRecDepth 20000 in
theorem wd1987 : Cond.methodLink "CageLiftLaw" 120 ⟨"CageLiftModel", "ring", "(I)I"⟩ ∈ aj_TB := aj_memL (aj_t8 (List.mem_of_getElem? (i := 178) (by decide +kernel))) (by decide +kernel)
set_option maxRecDepth 20000 in
theorem wd1990 : Cond.code ⟨"CageLiftModel", "ring", "(I)I"⟩ prog_14_method_92_code 2 (Option.some FieldType.int) ∈ aj_TB := aj_memL (aj_t8 (List.mem_of_getElem? (i := 181) (by decide +kernel))) (by decide +kernel)
set_option maxRecDepth 20000 in
theorem wd1988 : Cond.instanceMethod ⟨"CageLiftModel", "ring", "(I)I"⟩ ∈ aj_TB := aj_memL (aj_t8 (List.mem_of_getElem? (i := 179) (by decide +kernel))) (by decide +kernel)
set_option maxRecDepth 20000 in
theorem wd1989 : Cond.selects "CageLiftModel" ⟨"CageLiftModel", "ring", "(I)I"⟩ ⟨"CageLiftModel", "ring", "(I)I"⟩ ∈ aj_TB := aj_memL (aj_t8 (List.mem_of_getElem? (i := 180) (by decide +kernel))) (by decide +kernel)
set_option maxRecDepth 20000 in
theorem wd1991 : Cond.methodLink "CageLiftModel" 377 ⟨"CageLiftModel", "laysRing", "()I"⟩ ∈ aj_TB := aj_memL (aj_t8 (List.mem_of_getElem? (i := 182) (by decide +kernel))) (by decide +kernel)
set_option maxRecDepth 20000 in
theorem wd1994 : Cond.code ⟨"CageLiftModel", "laysRing", "()I"⟩ prog_14_method_91_code 3 (Option.some FieldType.int) ∈ aj_TB := aj_memL (aj_t8 (List.mem_of_getElem? (i := 185) (by decide +kernel))) (by decide +kernel)
set_option maxRecDepth 20000 in
theorem wd1993 : Cond.instanceMethod ⟨"CageLiftModel", "laysRing", "()I"⟩ ∈ aj_TB := aj_memL (aj_t8 (List.mem_of_getElem? (i := 184) (by decide +kernel))) (by decide +kernel)
set_option maxRecDepth 20000 in
theorem wd108 : Cond.selects "CageLiftModel" ⟨"CageLiftModel", "laysRing", "()I"⟩ ⟨"CageLiftModel", "laysRing", "()I"⟩ ∈ aj_TB := aj_memL (List.mem_append_left _ (List.mem_of_getElem? (i := 108) (by decide +kernel))) (by decide +kernel)
set_option maxRecDepth 20000 in
theorem wd1995 : Cond.methodLink "CageLiftModel" 374 ⟨"CageLiftModel", "isRing", "(II)Z"⟩ ∈ aj_TB := aj_memL (aj_t8 (List.mem_of_getElem? (i := 186) (by decide +kernel))) (by decide +kernel)
set_option maxRecDepth 20000 in
theorem wd1998 : Cond.code ⟨"CageLiftModel", "isRing", "(II)Z"⟩ prog_14_method_90_code 5 (Option.some FieldType.boolean) ∈ aj_TB := aj_memL (aj_t8 (List.mem_of_getElem? (i := 189) (by decide +kernel))) (by decide +kernel)
set_option maxRecDepth 20000 in
theorem wd1997 : Cond.instanceMethod ⟨"CageLiftModel", "isRing", "(II)Z"⟩ ∈ aj_TB := aj_memL (aj_t8 (List.mem_of_getElem? (i := 188) (by decide +kernel))) (by decide +kernel)
set_option maxRecDepth 20000 in
theorem wd109 : Cond.selects "CageLiftModel" ⟨"CageLiftModel", "isRing", "(II)Z"⟩ ⟨"CageLiftModel", "isRing", "(II)Z"⟩ ∈ aj_TB := aj_memL (List.mem_append_left _ (List.mem_of_getElem? (i := 109) (by decide +kernel))) (by decide +kernel)
set_option maxRecDepth 20000 in
theorem wd1999 : Cond.methodLink "CageLiftModel" 371 ⟨"CageLiftModel", "isGone", "(II)Z"⟩ ∈ aj_TB := aj_memL (aj_t8 (List.mem_of_getElem? (i := 190) (by decide +kernel))) (by decide +kernel)
set_option maxRecDepth 20000 in
theorem wd2002 : Cond.code ⟨"CageLiftModel", "isGone", "(II)Z"⟩ prog_14_method_89_code 4 (Option.some FieldType.boolean) ∈ aj_TB := aj_memL (aj_t8 (List.mem_of_getElem? (i := 193) (by decide +kernel))) (by decide +kernel)
set_option maxRecDepth 20000 in
theorem wd2001 : Cond.instanceMethod ⟨"CageLiftModel", "isGone", "(II)Z"⟩ ∈ aj_TB := aj_memL (aj_t8 (List.mem_of_getElem? (i := 192) (by decide +kernel))) (by decide +kernel)
set_option maxRecDepth 20000 in
theorem wd110 : Cond.selects "CageLiftModel" ⟨"CageLiftModel", "isGone", "(II)Z"⟩ ⟨"CageLiftModel", "isGone", "(II)Z"⟩ ∈ aj_TB := aj_memL (List.mem_append_left _ (List.mem_of_getElem? (i := 110) (by decide +kernel))) (by decide +kernel)
set_option maxRecDepth 20000 in
theorem wd2003 : Cond.methodLink "CageLiftLaw" 124 ⟨"CageLiftModel", "rings", "(I)I"⟩ ∈ aj_TB := aj_memL (aj_t8 (List.mem_of_getElem? (i := 194) (by decide +kernel))) (by decide +kernel)
set_option maxRecDepth 20000 in
theorem wd2006 : Cond.code ⟨"CageLiftModel", "rings", "(I)I"⟩ prog_14_method_94_code 5 (Option.some FieldType.int) ∈ aj_TB := aj_memL (aj_t8 (List.mem_of_getElem? (i := 197) (by decide +kernel))) (by decide +kernel)
set_option maxRecDepth 20000 in
theorem wd2004 : Cond.instanceMethod ⟨"CageLiftModel", "rings", "(I)I"⟩ ∈ aj_TB := aj_memL (aj_t8 (List.mem_of_getElem? (i := 195) (by decide +kernel))) (by decide +kernel)
set_option maxRecDepth 20000 in
theorem wd2005 : Cond.selects "CageLiftModel" ⟨"CageLiftModel", "rings", "(I)I"⟩ ⟨"CageLiftModel", "rings", "(I)I"⟩ ∈ aj_TB := aj_memL (aj_t8 (List.mem_of_getElem? (i := 196) (by decide +kernel))) (by decide +kernel)
set_option maxRecDepth 20000 in
theorem wd2008 : Cond.methodLink "CageLiftModel" 380 ⟨"CageLiftModel", "ringsFrom", "(III)I"⟩ ∈ aj_TB := aj_memL (aj_t8 (List.mem_of_getElem? (i := 199) (by decide +kernel))) (by decide +kernel)
set_option maxRecDepth 20000 in
theorem wd2011 : Cond.code ⟨"CageLiftModel", "ringsFrom", "(III)I"⟩ prog_14_method_93_code 7 (Option.some FieldType.int) ∈ aj_TB := aj_memL (aj_t8 (List.mem_of_getElem? (i := 202) (by decide +kernel))) (by decide +kernel)
set_option maxRecDepth 20000 in
theorem wd2010 : Cond.instanceMethod ⟨"CageLiftModel", "ringsFrom", "(III)I"⟩ ∈ aj_TB := aj_memL (aj_t8 (List.mem_of_getElem? (i := 201) (by decide +kernel))) (by decide +kernel)
set_option maxRecDepth 20000 in
theorem wd111 : Cond.selects "CageLiftModel" ⟨"CageLiftModel", "ringsFrom", "(III)I"⟩ ⟨"CageLiftModel", "ringsFrom", "(III)I"⟩ ∈ aj_TB := aj_memL (List.mem_append_left _ (List.mem_of_getElem? (i := 111) (by decide +kernel))) (by decide +kernel)
set_option maxRecDepth 20000 in
theorem wd2012 : Cond.methodLink "CageLiftLaw" 128 ⟨"CageLiftModel", "through", "(I)I"⟩ ∈ aj_TB := aj_memL (aj_t8 (List.mem_of_getElem? (i := 203) (by decide +kernel))) (by decide +kernel)
set_option maxRecDepth 20000 in
theorem wd2015 : Cond.code ⟨"CageLiftModel", "through", "(I)I"⟩ prog_14_method_95_code 2 (Option.some FieldType.int) ∈ aj_TB := aj_memL (aj_t8 (List.mem_of_getElem? (i := 206) (by decide +kernel))) (by decide +kernel)
set_option maxRecDepth 20000 in
theorem wd2013 : Cond.instanceMethod ⟨"CageLiftModel", "through", "(I)I"⟩ ∈ aj_TB := aj_memL (aj_t8 (List.mem_of_getElem? (i := 204) (by decide +kernel))) (by decide +kernel)
set_option maxRecDepth 20000 in
theorem wd2014 : Cond.selects "CageLiftModel" ⟨"CageLiftModel", "through", "(I)I"⟩ ⟨"CageLiftModel", "through", "(I)I"⟩ ∈ aj_TB := aj_memL (aj_t8 (List.mem_of_getElem? (i := 205) (by decide +kernel))) (by decide +kernel)
set_option maxRecDepth 20000 in
theorem wd2016 : Cond.methodLink "CageLiftLaw" 133 ⟨"CageLiftModel", "bound", "(II)J"⟩ ∈ aj_TB := aj_memL (aj_t8 (List.mem_of_getElem? (i := 207) (by decide +kernel))) (by decide +kernel)
set_option maxRecDepth 20000 in
theorem wd2019 : Cond.code ⟨"CageLiftModel", "bound", "(II)J"⟩ prog_14_method_98_code 3 (Option.some FieldType.long) ∈ aj_TB := aj_memL (aj_t8 (List.mem_of_getElem? (i := 210) (by decide +kernel))) (by decide +kernel)
set_option maxRecDepth 20000 in
theorem wd2017 : Cond.instanceMethod ⟨"CageLiftModel", "bound", "(II)J"⟩ ∈ aj_TB := aj_memL (aj_t8 (List.mem_of_getElem? (i := 208) (by decide +kernel))) (by decide +kernel)
set_option maxRecDepth 20000 in
theorem wd2018 : Cond.selects "CageLiftModel" ⟨"CageLiftModel", "bound", "(II)J"⟩ ⟨"CageLiftModel", "bound", "(II)J"⟩ ∈ aj_TB := aj_memL (aj_t8 (List.mem_of_getElem? (i := 209) (by decide +kernel))) (by decide +kernel)
set_option maxRecDepth 20000 in
theorem wd2020 : Cond.methodLink "CageLiftModel" 389 ⟨"CageLiftModel", "isBound", "(II)Z"⟩ ∈ aj_TB := aj_memL (aj_t8 (List.mem_of_getElem? (i := 211) (by decide +kernel))) (by decide +kernel)
set_option maxRecDepth 20000 in
theorem wd2022 : Cond.code ⟨"CageLiftModel", "isBound", "(II)Z"⟩ prog_14_method_96_code 2 (Option.some FieldType.boolean) ∈ aj_TB := aj_memL (aj_t8 (List.mem_of_getElem? (i := 213) (by decide +kernel))) (by decide +kernel)
set_option maxRecDepth 20000 in
theorem wd2021 : Cond.static ⟨"CageLiftModel", "isBound", "(II)Z"⟩ ∈ aj_TB := aj_memL (aj_t8 (List.mem_of_getElem? (i := 212) (by decide +kernel))) (by decide +kernel)
set_option maxRecDepth 20000 in
theorem wd2025 : Cond.methodLink "CageLiftModel" 392 ⟨"CageLiftModel", "boundOf", "(II)J"⟩ ∈ aj_TB := aj_memL (aj_t8 (List.mem_of_getElem? (i := 216) (by decide +kernel))) (by decide +kernel)
set_option maxRecDepth 20000 in
theorem wd2027 : Cond.code ⟨"CageLiftModel", "boundOf", "(II)J"⟩ prog_14_method_97_code 7 (Option.some FieldType.long) ∈ aj_TB := aj_memL (aj_t8 (List.mem_of_getElem? (i := 218) (by decide +kernel))) (by decide +kernel)
set_option maxRecDepth 20000 in
theorem wd2026 : Cond.static ⟨"CageLiftModel", "boundOf", "(II)J"⟩ ∈ aj_TB := aj_memL (aj_t8 (List.mem_of_getElem? (i := 217) (by decide +kernel))) (by decide +kernel)
set_option maxRecDepth 20000 in
theorem wd2029 : Cond.methodLink "CageLiftLaw" 138 ⟨"CageLiftModel", "excess", "()J"⟩ ∈ aj_TB := aj_memL (aj_t8 (List.mem_of_getElem? (i := 220) (by decide +kernel))) (by decide +kernel)
set_option maxRecDepth 20000 in
theorem wd2032 : Cond.code ⟨"CageLiftModel", "excess", "()J"⟩ prog_14_method_99_code 3 (Option.some FieldType.long) ∈ aj_TB := aj_memL (aj_t8 (List.mem_of_getElem? (i := 223) (by decide +kernel))) (by decide +kernel)
set_option maxRecDepth 20000 in
theorem wd2030 : Cond.instanceMethod ⟨"CageLiftModel", "excess", "()J"⟩ ∈ aj_TB := aj_memL (aj_t8 (List.mem_of_getElem? (i := 221) (by decide +kernel))) (by decide +kernel)
set_option maxRecDepth 20000 in
theorem wd2031 : Cond.selects "CageLiftModel" ⟨"CageLiftModel", "excess", "()J"⟩ ⟨"CageLiftModel", "excess", "()J"⟩ ∈ aj_TB := aj_memL (aj_t8 (List.mem_of_getElem? (i := 222) (by decide +kernel))) (by decide +kernel)
set_option maxRecDepth 20000 in
theorem wd2034 : Cond.methodLink "CageLiftLaw" 142 ⟨"CageLiftModel", "light", "(II)I"⟩ ∈ aj_TB := aj_memL (aj_t8 (List.mem_of_getElem? (i := 225) (by decide +kernel))) (by decide +kernel)
set_option maxRecDepth 20000 in
theorem wd2037 : Cond.code ⟨"CageLiftModel", "light", "(II)I"⟩ prog_14_method_101_code 3 (Option.some FieldType.int) ∈ aj_TB := aj_memL (aj_t8 (List.mem_of_getElem? (i := 228) (by decide +kernel))) (by decide +kernel)
set_option maxRecDepth 20000 in
theorem wd2035 : Cond.instanceMethod ⟨"CageLiftModel", "light", "(II)I"⟩ ∈ aj_TB := aj_memL (aj_t8 (List.mem_of_getElem? (i := 226) (by decide +kernel))) (by decide +kernel)
set_option maxRecDepth 20000 in
theorem wd2036 : Cond.selects "CageLiftModel" ⟨"CageLiftModel", "light", "(II)I"⟩ ⟨"CageLiftModel", "light", "(II)I"⟩ ∈ aj_TB := aj_memL (aj_t8 (List.mem_of_getElem? (i := 227) (by decide +kernel))) (by decide +kernel)
set_option maxRecDepth 20000 in
theorem wd2038 : Cond.methodLink "CageLiftModel" 400 ⟨"CageLiftModel", "laysLight", "(II)V"⟩ ∈ aj_TB := aj_memL (aj_t8 (List.mem_of_getElem? (i := 229) (by decide +kernel))) (by decide +kernel)
set_option maxRecDepth 20000 in
theorem wd2041 : Cond.code ⟨"CageLiftModel", "laysLight", "(II)V"⟩ prog_14_method_100_code 7 (Option.none : Option FieldType) ∈ aj_TB := aj_memL (aj_t8 (List.mem_of_getElem? (i := 232) (by decide +kernel))) (by decide +kernel)
set_option maxRecDepth 20000 in
theorem wd2040 : Cond.instanceMethod ⟨"CageLiftModel", "laysLight", "(II)V"⟩ ∈ aj_TB := aj_memL (aj_t8 (List.mem_of_getElem? (i := 231) (by decide +kernel))) (by decide +kernel)
set_option maxRecDepth 20000 in
theorem wd112 : Cond.selects "CageLiftModel" ⟨"CageLiftModel", "laysLight", "(II)V"⟩ ⟨"CageLiftModel", "laysLight", "(II)V"⟩ ∈ aj_TB := aj_memL (List.mem_append_left _ (List.mem_of_getElem? (i := 112) (by decide +kernel))) (by decide +kernel)
set_option maxRecDepth 20000 in
theorem wd2042 : Cond.methodLink "CageLiftLaw" 146 ⟨"CageLiftModel", "lightest", "()I"⟩ ∈ aj_TB := aj_memL (aj_t8 (List.mem_of_getElem? (i := 233) (by decide +kernel))) (by decide +kernel)
set_option maxRecDepth 20000 in
theorem wd2045 : Cond.code ⟨"CageLiftModel", "lightest", "()I"⟩ prog_14_method_102_code 4 (Option.some FieldType.int) ∈ aj_TB := aj_memL (aj_t8 (List.mem_of_getElem? (i := 236) (by decide +kernel))) (by decide +kernel)
set_option maxRecDepth 20000 in
theorem wd2043 : Cond.instanceMethod ⟨"CageLiftModel", "lightest", "()I"⟩ ∈ aj_TB := aj_memL (aj_t8 (List.mem_of_getElem? (i := 234) (by decide +kernel))) (by decide +kernel)
set_option maxRecDepth 20000 in
theorem wd2044 : Cond.selects "CageLiftModel" ⟨"CageLiftModel", "lightest", "()I"⟩ ⟨"CageLiftModel", "lightest", "()I"⟩ ∈ aj_TB := aj_memL (aj_t8 (List.mem_of_getElem? (i := 235) (by decide +kernel))) (by decide +kernel)
set_option maxRecDepth 20000 in
theorem wd2046 : Cond.methodLink "CageLiftLaw" 150 ⟨"CageLiftModel", "walk", "(I)I"⟩ ∈ aj_TB := aj_memL (aj_t8 (List.mem_of_getElem? (i := 237) (by decide +kernel))) (by decide +kernel)
set_option maxRecDepth 20000 in
theorem wd2049 : Cond.code ⟨"CageLiftModel", "walk", "(I)I"⟩ prog_14_method_108_code 3 (Option.some FieldType.int) ∈ aj_TB := aj_memL (aj_t9 (List.mem_of_getElem? (i := 0) (by decide +kernel))) (by decide +kernel)
set_option maxRecDepth 20000 in
theorem wd2047 : Cond.instanceMethod ⟨"CageLiftModel", "walk", "(I)I"⟩ ∈ aj_TB := aj_memL (aj_t8 (List.mem_of_getElem? (i := 238) (by decide +kernel))) (by decide +kernel)
set_option maxRecDepth 20000 in
theorem wd2048 : Cond.selects "CageLiftModel" ⟨"CageLiftModel", "walk", "(I)I"⟩ ⟨"CageLiftModel", "walk", "(I)I"⟩ ∈ aj_TB := aj_memL (aj_t8 (List.mem_of_getElem? (i := 239) (by decide +kernel))) (by decide +kernel)
set_option maxRecDepth 20000 in
theorem wd2050 : Cond.methodLink "CageLiftModel" 413 ⟨"CageLiftModel", "noWalk", "(I)I"⟩ ∈ aj_TB := aj_memL (aj_t9 (List.mem_of_getElem? (i := 1) (by decide +kernel))) (by decide +kernel)
set_option maxRecDepth 20000 in
theorem wd2053 : Cond.code ⟨"CageLiftModel", "noWalk", "(I)I"⟩ prog_14_method_106_code 4 (Option.some FieldType.int) ∈ aj_TB := aj_memL (aj_t9 (List.mem_of_getElem? (i := 4) (by decide +kernel))) (by decide +kernel)
set_option maxRecDepth 20000 in
theorem wd2052 : Cond.instanceMethod ⟨"CageLiftModel", "noWalk", "(I)I"⟩ ∈ aj_TB := aj_memL (aj_t9 (List.mem_of_getElem? (i := 3) (by decide +kernel))) (by decide +kernel)
set_option maxRecDepth 20000 in
theorem wd113 : Cond.selects "CageLiftModel" ⟨"CageLiftModel", "noWalk", "(I)I"⟩ ⟨"CageLiftModel", "noWalk", "(I)I"⟩ ∈ aj_TB := aj_memL (List.mem_append_left _ (List.mem_of_getElem? (i := 113) (by decide +kernel))) (by decide +kernel)
set_option maxRecDepth 20000 in
theorem wd2054 : Cond.methodLink "CageLiftModel" 404 ⟨"CageLiftModel", "stepAt", "(II)I"⟩ ∈ aj_TB := aj_memL (aj_t9 (List.mem_of_getElem? (i := 5) (by decide +kernel))) (by decide +kernel)
set_option maxRecDepth 20000 in
theorem wd2057 : Cond.code ⟨"CageLiftModel", "stepAt", "(II)I"⟩ prog_14_method_105_code 3 (Option.some FieldType.int) ∈ aj_TB := aj_memL (aj_t9 (List.mem_of_getElem? (i := 8) (by decide +kernel))) (by decide +kernel)
set_option maxRecDepth 20000 in
theorem wd2056 : Cond.instanceMethod ⟨"CageLiftModel", "stepAt", "(II)I"⟩ ∈ aj_TB := aj_memL (aj_t9 (List.mem_of_getElem? (i := 7) (by decide +kernel))) (by decide +kernel)
set_option maxRecDepth 20000 in
theorem wd114 : Cond.selects "CageLiftModel" ⟨"CageLiftModel", "stepAt", "(II)I"⟩ ⟨"CageLiftModel", "stepAt", "(II)I"⟩ ∈ aj_TB := aj_memL (List.mem_append_left _ (List.mem_of_getElem? (i := 114) (by decide +kernel))) (by decide +kernel)
set_option maxRecDepth 20000 in
theorem wd2058 : Cond.methodLink "CageLiftModel" 407 ⟨"CageLiftModel", "endOf", "(I)I"⟩ ∈ aj_TB := aj_memL (aj_t9 (List.mem_of_getElem? (i := 9) (by decide +kernel))) (by decide +kernel)
set_option maxRecDepth 20000 in
theorem wd2061 : Cond.code ⟨"CageLiftModel", "endOf", "(I)I"⟩ prog_14_method_104_code 2 (Option.some FieldType.int) ∈ aj_TB := aj_memL (aj_t9 (List.mem_of_getElem? (i := 12) (by decide +kernel))) (by decide +kernel)
set_option maxRecDepth 20000 in
theorem wd2060 : Cond.instanceMethod ⟨"CageLiftModel", "endOf", "(I)I"⟩ ∈ aj_TB := aj_memL (aj_t9 (List.mem_of_getElem? (i := 11) (by decide +kernel))) (by decide +kernel)
set_option maxRecDepth 20000 in
theorem wd115 : Cond.selects "CageLiftModel" ⟨"CageLiftModel", "endOf", "(I)I"⟩ ⟨"CageLiftModel", "endOf", "(I)I"⟩ ∈ aj_TB := aj_memL (List.mem_append_left _ (List.mem_of_getElem? (i := 115) (by decide +kernel))) (by decide +kernel)
set_option maxRecDepth 20000 in
theorem wd2062 : Cond.methodLink "CageLiftModel" 410 ⟨"CageLiftModel", "beginOf", "(I)I"⟩ ∈ aj_TB := aj_memL (aj_t9 (List.mem_of_getElem? (i := 13) (by decide +kernel))) (by decide +kernel)
set_option maxRecDepth 20000 in
theorem wd2065 : Cond.code ⟨"CageLiftModel", "beginOf", "(I)I"⟩ prog_14_method_103_code 2 (Option.some FieldType.int) ∈ aj_TB := aj_memL (aj_t9 (List.mem_of_getElem? (i := 16) (by decide +kernel))) (by decide +kernel)
set_option maxRecDepth 20000 in
theorem wd2064 : Cond.instanceMethod ⟨"CageLiftModel", "beginOf", "(I)I"⟩ ∈ aj_TB := aj_memL (aj_t9 (List.mem_of_getElem? (i := 15) (by decide +kernel))) (by decide +kernel)
set_option maxRecDepth 20000 in
theorem wd116 : Cond.selects "CageLiftModel" ⟨"CageLiftModel", "beginOf", "(I)I"⟩ ⟨"CageLiftModel", "beginOf", "(I)I"⟩ ∈ aj_TB := aj_memL (List.mem_append_left _ (List.mem_of_getElem? (i := 116) (by decide +kernel))) (by decide +kernel)
set_option maxRecDepth 20000 in
theorem wd2066 : Cond.methodLink "CageLiftModel" 416 ⟨"CageLiftModel", "gathered", "(I)I"⟩ ∈ aj_TB := aj_memL (aj_t9 (List.mem_of_getElem? (i := 17) (by decide +kernel))) (by decide +kernel)
set_option maxRecDepth 20000 in
theorem wd2069 : Cond.code ⟨"CageLiftModel", "gathered", "(I)I"⟩ prog_14_method_107_code 6 (Option.some FieldType.int) ∈ aj_TB := aj_memL (aj_t9 (List.mem_of_getElem? (i := 20) (by decide +kernel))) (by decide +kernel)
set_option maxRecDepth 20000 in
theorem wd2068 : Cond.instanceMethod ⟨"CageLiftModel", "gathered", "(I)I"⟩ ∈ aj_TB := aj_memL (aj_t9 (List.mem_of_getElem? (i := 19) (by decide +kernel))) (by decide +kernel)
set_option maxRecDepth 20000 in
theorem wd117 : Cond.selects "CageLiftModel" ⟨"CageLiftModel", "gathered", "(I)I"⟩ ⟨"CageLiftModel", "gathered", "(I)I"⟩ ∈ aj_TB := aj_memL (List.mem_append_left _ (List.mem_of_getElem? (i := 117) (by decide +kernel))) (by decide +kernel)
set_option maxRecDepth 20000 in
theorem wd2070 : Cond.methodLink "CageLiftLaw" 154 ⟨"CageLiftModel", "lifted", "(I)I"⟩ ∈ aj_TB := aj_memL (aj_t9 (List.mem_of_getElem? (i := 21) (by decide +kernel))) (by decide +kernel)
set_option maxRecDepth 20000 in
theorem wd2073 : Cond.code ⟨"CageLiftModel", "lifted", "(I)I"⟩ prog_14_method_109_code 4 (Option.some FieldType.int) ∈ aj_TB := aj_memL (aj_t9 (List.mem_of_getElem? (i := 24) (by decide +kernel))) (by decide +kernel)
set_option maxRecDepth 20000 in
theorem wd2071 : Cond.instanceMethod ⟨"CageLiftModel", "lifted", "(I)I"⟩ ∈ aj_TB := aj_memL (aj_t9 (List.mem_of_getElem? (i := 22) (by decide +kernel))) (by decide +kernel)
set_option maxRecDepth 20000 in
theorem wd2072 : Cond.selects "CageLiftModel" ⟨"CageLiftModel", "lifted", "(I)I"⟩ ⟨"CageLiftModel", "lifted", "(I)I"⟩ ∈ aj_TB := aj_memL (aj_t9 (List.mem_of_getElem? (i := 23) (by decide +kernel))) (by decide +kernel)
set_option maxRecDepth 20000 in
theorem wd2074 : Cond.methodLink "CageLiftLaw" 158 ⟨"CageLiftModel", "tune", "(I)I"⟩ ∈ aj_TB := aj_memL (aj_t9 (List.mem_of_getElem? (i := 25) (by decide +kernel))) (by decide +kernel)
set_option maxRecDepth 20000 in
theorem wd2077 : Cond.code ⟨"CageLiftModel", "tune", "(I)I"⟩ prog_14_method_111_code 2 (Option.some FieldType.int) ∈ aj_TB := aj_memL (aj_t9 (List.mem_of_getElem? (i := 28) (by decide +kernel))) (by decide +kernel)
set_option maxRecDepth 20000 in
theorem wd2075 : Cond.instanceMethod ⟨"CageLiftModel", "tune", "(I)I"⟩ ∈ aj_TB := aj_memL (aj_t9 (List.mem_of_getElem? (i := 26) (by decide +kernel))) (by decide +kernel)
set_option maxRecDepth 20000 in
theorem wd2076 : Cond.selects "CageLiftModel" ⟨"CageLiftModel", "tune", "(I)I"⟩ ⟨"CageLiftModel", "tune", "(I)I"⟩ ∈ aj_TB := aj_memL (aj_t9 (List.mem_of_getElem? (i := 27) (by decide +kernel))) (by decide +kernel)
set_option maxRecDepth 20000 in
theorem wd2078 : Cond.methodLink "CageLiftModel" 422 ⟨"CageLiftModel", "laysTune", "(I)I"⟩ ∈ aj_TB := aj_memL (aj_t9 (List.mem_of_getElem? (i := 29) (by decide +kernel))) (by decide +kernel)
set_option maxRecDepth 20000 in
theorem wd2081 : Cond.code ⟨"CageLiftModel", "laysTune", "(I)I"⟩ prog_14_method_110_code 6 (Option.some FieldType.int) ∈ aj_TB := aj_memL (aj_t9 (List.mem_of_getElem? (i := 32) (by decide +kernel))) (by decide +kernel)
set_option maxRecDepth 20000 in
theorem wd2080 : Cond.instanceMethod ⟨"CageLiftModel", "laysTune", "(I)I"⟩ ∈ aj_TB := aj_memL (aj_t9 (List.mem_of_getElem? (i := 31) (by decide +kernel))) (by decide +kernel)
set_option maxRecDepth 20000 in
theorem wd118 : Cond.selects "CageLiftModel" ⟨"CageLiftModel", "laysTune", "(I)I"⟩ ⟨"CageLiftModel", "laysTune", "(I)I"⟩ ∈ aj_TB := aj_memL (List.mem_append_left _ (List.mem_of_getElem? (i := 118) (by decide +kernel))) (by decide +kernel)
set_option maxRecDepth 20000 in
theorem wd2082 : Cond.methodLink "CageLiftLaw" 162 ⟨"CageLiftModel", "tuned", "(I)I"⟩ ∈ aj_TB := aj_memL (aj_t9 (List.mem_of_getElem? (i := 33) (by decide +kernel))) (by decide +kernel)
set_option maxRecDepth 20000 in
theorem wd2085 : Cond.code ⟨"CageLiftModel", "tuned", "(I)I"⟩ prog_14_method_112_code 2 (Option.some FieldType.int) ∈ aj_TB := aj_memL (aj_t9 (List.mem_of_getElem? (i := 36) (by decide +kernel))) (by decide +kernel)
set_option maxRecDepth 20000 in
theorem wd2083 : Cond.instanceMethod ⟨"CageLiftModel", "tuned", "(I)I"⟩ ∈ aj_TB := aj_memL (aj_t9 (List.mem_of_getElem? (i := 34) (by decide +kernel))) (by decide +kernel)
set_option maxRecDepth 20000 in
theorem wd2084 : Cond.selects "CageLiftModel" ⟨"CageLiftModel", "tuned", "(I)I"⟩ ⟨"CageLiftModel", "tuned", "(I)I"⟩ ∈ aj_TB := aj_memL (aj_t9 (List.mem_of_getElem? (i := 35) (by decide +kernel))) (by decide +kernel)
set_option maxRecDepth 20000 in
theorem wd2086 : Cond.methodLink "CageLiftLaw" 167 ⟨"CageLiftModel", "search", "(IIII)I"⟩ ∈ aj_TB := aj_memL (aj_t9 (List.mem_of_getElem? (i := 37) (by decide +kernel))) (by decide +kernel)
set_option maxRecDepth 20000 in
theorem wd2089 : Cond.code ⟨"CageLiftModel", "search", "(IIII)I"⟩ prog_14_method_120_code 6 (Option.some FieldType.int) ∈ aj_TB := aj_memL (aj_t9 (List.mem_of_getElem? (i := 40) (by decide +kernel))) (by decide +kernel)
set_option maxRecDepth 20000 in
theorem wd2087 : Cond.instanceMethod ⟨"CageLiftModel", "search", "(IIII)I"⟩ ∈ aj_TB := aj_memL (aj_t9 (List.mem_of_getElem? (i := 38) (by decide +kernel))) (by decide +kernel)
set_option maxRecDepth 20000 in
theorem wd2088 : Cond.selects "CageLiftModel" ⟨"CageLiftModel", "search", "(IIII)I"⟩ ⟨"CageLiftModel", "search", "(IIII)I"⟩ ∈ aj_TB := aj_memL (aj_t9 (List.mem_of_getElem? (i := 39) (by decide +kernel))) (by decide +kernel)
set_option maxRecDepth 20000 in
theorem wd2090 : Cond.methodLink "CageLiftModel" 459 ⟨"CageLiftModel", "isSearch", "(III)Z"⟩ ∈ aj_TB := aj_memL (aj_t9 (List.mem_of_getElem? (i := 41) (by decide +kernel))) (by decide +kernel)
set_option maxRecDepth 20000 in
theorem wd2092 : Cond.code ⟨"CageLiftModel", "isSearch", "(III)Z"⟩ prog_14_method_118_code 3 (Option.some FieldType.boolean) ∈ aj_TB := aj_memL (aj_t9 (List.mem_of_getElem? (i := 43) (by decide +kernel))) (by decide +kernel)
set_option maxRecDepth 20000 in
theorem wd2091 : Cond.static ⟨"CageLiftModel", "isSearch", "(III)Z"⟩ ∈ aj_TB := aj_memL (aj_t9 (List.mem_of_getElem? (i := 42) (by decide +kernel))) (by decide +kernel)
set_option maxRecDepth 20000 in
theorem wd2095 : Cond.methodLink "CageLiftModel" 463 ⟨"CageLiftModel", "goesSearch", "(III)I"⟩ ∈ aj_TB := aj_memL (aj_t9 (List.mem_of_getElem? (i := 46) (by decide +kernel))) (by decide +kernel)
set_option maxRecDepth 20000 in
theorem wd2098 : Cond.code ⟨"CageLiftModel", "goesSearch", "(III)I"⟩ prog_14_method_119_code 5 (Option.some FieldType.int) ∈ aj_TB := aj_memL (aj_t9 (List.mem_of_getElem? (i := 49) (by decide +kernel))) (by decide +kernel)
set_option maxRecDepth 20000 in
theorem wd2097 : Cond.instanceMethod ⟨"CageLiftModel", "goesSearch", "(III)I"⟩ ∈ aj_TB := aj_memL (aj_t9 (List.mem_of_getElem? (i := 48) (by decide +kernel))) (by decide +kernel)
set_option maxRecDepth 20000 in
theorem wd119 : Cond.selects "CageLiftModel" ⟨"CageLiftModel", "goesSearch", "(III)I"⟩ ⟨"CageLiftModel", "goesSearch", "(III)I"⟩ ∈ aj_TB := aj_memL (List.mem_append_left _ (List.mem_of_getElem? (i := 119) (by decide +kernel))) (by decide +kernel)
set_option maxRecDepth 20000 in
theorem wd2099 : Cond.methodLink "CageLiftModel" 449 ⟨"CageLiftModel", "goesStep", "()I"⟩ ∈ aj_TB := aj_memL (aj_t9 (List.mem_of_getElem? (i := 50) (by decide +kernel))) (by decide +kernel)
set_option maxRecDepth 20000 in
theorem wd2102 : Cond.code ⟨"CageLiftModel", "goesStep", "()I"⟩ prog_14_method_117_code 6 (Option.some FieldType.int) ∈ aj_TB := aj_memL (aj_t9 (List.mem_of_getElem? (i := 53) (by decide +kernel))) (by decide +kernel)
set_option maxRecDepth 20000 in
theorem wd2101 : Cond.instanceMethod ⟨"CageLiftModel", "goesStep", "()I"⟩ ∈ aj_TB := aj_memL (aj_t9 (List.mem_of_getElem? (i := 52) (by decide +kernel))) (by decide +kernel)
set_option maxRecDepth 20000 in
theorem wd120 : Cond.selects "CageLiftModel" ⟨"CageLiftModel", "goesStep", "()I"⟩ ⟨"CageLiftModel", "goesStep", "()I"⟩ ∈ aj_TB := aj_memL (List.mem_append_left _ (List.mem_of_getElem? (i := 120) (by decide +kernel))) (by decide +kernel)
set_option maxRecDepth 20000 in
theorem wd2103 : Cond.methodLink "CageLiftModel" 434 ⟨"CageLiftModel", "bitsOf", "(I)I"⟩ ∈ aj_TB := aj_memL (aj_t9 (List.mem_of_getElem? (i := 54) (by decide +kernel))) (by decide +kernel)
set_option maxRecDepth 20000 in
theorem wd2105 : Cond.code ⟨"CageLiftModel", "bitsOf", "(I)I"⟩ prog_14_method_113_code 3 (Option.some FieldType.int) ∈ aj_TB := aj_memL (aj_t9 (List.mem_of_getElem? (i := 56) (by decide +kernel))) (by decide +kernel)
set_option maxRecDepth 20000 in
theorem wd2104 : Cond.static ⟨"CageLiftModel", "bitsOf", "(I)I"⟩ ∈ aj_TB := aj_memL (aj_t9 (List.mem_of_getElem? (i := 55) (by decide +kernel))) (by decide +kernel)
set_option maxRecDepth 20000 in
theorem wd2106 : Cond.methodLink "CageLiftModel" 443 ⟨"CageLiftModel", "partnersOf", "(I)I"⟩ ∈ aj_TB := aj_memL (aj_t9 (List.mem_of_getElem? (i := 57) (by decide +kernel))) (by decide +kernel)
set_option maxRecDepth 20000 in
theorem wd2109 : Cond.code ⟨"CageLiftModel", "partnersOf", "(I)I"⟩ prog_14_method_115_code 6 (Option.some FieldType.int) ∈ aj_TB := aj_memL (aj_t9 (List.mem_of_getElem? (i := 60) (by decide +kernel))) (by decide +kernel)
set_option maxRecDepth 20000 in
theorem wd2108 : Cond.instanceMethod ⟨"CageLiftModel", "partnersOf", "(I)I"⟩ ∈ aj_TB := aj_memL (aj_t9 (List.mem_of_getElem? (i := 59) (by decide +kernel))) (by decide +kernel)
set_option maxRecDepth 20000 in
theorem wd121 : Cond.selects "CageLiftModel" ⟨"CageLiftModel", "partnersOf", "(I)I"⟩ ⟨"CageLiftModel", "partnersOf", "(I)I"⟩ ∈ aj_TB := aj_memL (List.mem_append_left _ (List.mem_of_getElem? (i := 121) (by decide +kernel))) (by decide +kernel)
set_option maxRecDepth 20000 in
theorem wd2110 : Cond.methodLink "CageLiftModel" 431 ⟨"CageLiftModel", "ballOf", "(II)I"⟩ ∈ aj_TB := aj_memL (aj_t9 (List.mem_of_getElem? (i := 61) (by decide +kernel))) (by decide +kernel)
set_option maxRecDepth 20000 in
theorem wd2113 : Cond.code ⟨"CageLiftModel", "ballOf", "(II)I"⟩ prog_14_method_114_code 7 (Option.some FieldType.int) ∈ aj_TB := aj_memL (aj_t9 (List.mem_of_getElem? (i := 64) (by decide +kernel))) (by decide +kernel)
set_option maxRecDepth 20000 in
theorem wd2112 : Cond.instanceMethod ⟨"CageLiftModel", "ballOf", "(II)I"⟩ ∈ aj_TB := aj_memL (aj_t9 (List.mem_of_getElem? (i := 63) (by decide +kernel))) (by decide +kernel)
set_option maxRecDepth 20000 in
theorem wd122 : Cond.selects "CageLiftModel" ⟨"CageLiftModel", "ballOf", "(II)I"⟩ ⟨"CageLiftModel", "ballOf", "(II)I"⟩ ∈ aj_TB := aj_memL (List.mem_append_left _ (List.mem_of_getElem? (i := 122) (by decide +kernel))) (by decide +kernel)
set_option maxRecDepth 20000 in
theorem wd2114 : Cond.methodLink "CageLiftModel" 446 ⟨"CageLiftModel", "joinsOrParts", "(II)V"⟩ ∈ aj_TB := aj_memL (aj_t9 (List.mem_of_getElem? (i := 65) (by decide +kernel))) (by decide +kernel)
set_option maxRecDepth 20000 in
theorem wd2117 : Cond.code ⟨"CageLiftModel", "joinsOrParts", "(II)V"⟩ prog_14_method_116_code 3 (Option.none : Option FieldType) ∈ aj_TB := aj_memL (aj_t9 (List.mem_of_getElem? (i := 68) (by decide +kernel))) (by decide +kernel)
set_option maxRecDepth 20000 in
theorem wd2116 : Cond.instanceMethod ⟨"CageLiftModel", "joinsOrParts", "(II)V"⟩ ∈ aj_TB := aj_memL (aj_t9 (List.mem_of_getElem? (i := 67) (by decide +kernel))) (by decide +kernel)
set_option maxRecDepth 20000 in
theorem wd123 : Cond.selects "CageLiftModel" ⟨"CageLiftModel", "joinsOrParts", "(II)V"⟩ ⟨"CageLiftModel", "joinsOrParts", "(II)V"⟩ ∈ aj_TB := aj_memL (List.mem_append_left _ (List.mem_of_getElem? (i := 123) (by decide +kernel))) (by decide +kernel)
set_option maxRecDepth 20000 in
theorem wd2118 : Cond.methodLink "CageLiftLaw" 171 ⟨"CageLiftModel", "found", "(IIIII)I"⟩ ∈ aj_TB := aj_memL (aj_t9 (List.mem_of_getElem? (i := 69) (by decide +kernel))) (by decide +kernel)
set_option maxRecDepth 20000 in
theorem wd2121 : Cond.code ⟨"CageLiftModel", "found", "(IIIII)I"⟩ prog_14_method_121_code 6 (Option.some FieldType.int) ∈ aj_TB := aj_memL (aj_t9 (List.mem_of_getElem? (i := 72) (by decide +kernel))) (by decide +kernel)
set_option maxRecDepth 20000 in
theorem wd2119 : Cond.instanceMethod ⟨"CageLiftModel", "found", "(IIIII)I"⟩ ∈ aj_TB := aj_memL (aj_t9 (List.mem_of_getElem? (i := 70) (by decide +kernel))) (by decide +kernel)
set_option maxRecDepth 20000 in
theorem wd2120 : Cond.selects "CageLiftModel" ⟨"CageLiftModel", "found", "(IIIII)I"⟩ ⟨"CageLiftModel", "found", "(IIIII)I"⟩ ∈ aj_TB := aj_memL (aj_t9 (List.mem_of_getElem? (i := 71) (by decide +kernel))) (by decide +kernel)
set_option maxRecDepth 20000 in
theorem wd2122 : Cond.methodLink "CageLiftLaw" 175 ⟨"CageLiftModel", "twists", "(I)I"⟩ ∈ aj_TB := aj_memL (aj_t9 (List.mem_of_getElem? (i := 73) (by decide +kernel))) (by decide +kernel)
set_option maxRecDepth 20000 in
theorem wd2125 : Cond.code ⟨"CageLiftModel", "twists", "(I)I"⟩ prog_14_method_124_code 3 (Option.some FieldType.int) ∈ aj_TB := aj_memL (aj_t9 (List.mem_of_getElem? (i := 76) (by decide +kernel))) (by decide +kernel)
set_option maxRecDepth 20000 in
theorem wd2123 : Cond.instanceMethod ⟨"CageLiftModel", "twists", "(I)I"⟩ ∈ aj_TB := aj_memL (aj_t9 (List.mem_of_getElem? (i := 74) (by decide +kernel))) (by decide +kernel)
set_option maxRecDepth 20000 in
theorem wd2124 : Cond.selects "CageLiftModel" ⟨"CageLiftModel", "twists", "(I)I"⟩ ⟨"CageLiftModel", "twists", "(I)I"⟩ ∈ aj_TB := aj_memL (aj_t9 (List.mem_of_getElem? (i := 75) (by decide +kernel))) (by decide +kernel)
set_option maxRecDepth 20000 in
theorem wd2126 : Cond.methodLink "CageLiftModel" 468 ⟨"CageLiftModel", "noWeighed", "(I)I"⟩ ∈ aj_TB := aj_memL (aj_t9 (List.mem_of_getElem? (i := 77) (by decide +kernel))) (by decide +kernel)
set_option maxRecDepth 20000 in
theorem wd2129 : Cond.code ⟨"CageLiftModel", "noWeighed", "(I)I"⟩ prog_14_method_122_code 6 (Option.some FieldType.int) ∈ aj_TB := aj_memL (aj_t9 (List.mem_of_getElem? (i := 80) (by decide +kernel))) (by decide +kernel)
set_option maxRecDepth 20000 in
theorem wd2128 : Cond.instanceMethod ⟨"CageLiftModel", "noWeighed", "(I)I"⟩ ∈ aj_TB := aj_memL (aj_t9 (List.mem_of_getElem? (i := 79) (by decide +kernel))) (by decide +kernel)
set_option maxRecDepth 20000 in
theorem wd124 : Cond.selects "CageLiftModel" ⟨"CageLiftModel", "noWeighed", "(I)I"⟩ ⟨"CageLiftModel", "noWeighed", "(I)I"⟩ ∈ aj_TB := aj_memL (List.mem_append_left _ (List.mem_of_getElem? (i := 124) (by decide +kernel))) (by decide +kernel)
set_option maxRecDepth 20000 in
theorem wd2131 : Cond.methodLink "CageLiftModel" 471 ⟨"CageLiftModel", "twistsOf", "(I)I"⟩ ∈ aj_TB := aj_memL (aj_t9 (List.mem_of_getElem? (i := 82) (by decide +kernel))) (by decide +kernel)
set_option maxRecDepth 20000 in
theorem wd2134 : Cond.code ⟨"CageLiftModel", "twistsOf", "(I)I"⟩ prog_14_method_123_code 7 (Option.some FieldType.int) ∈ aj_TB := aj_memL (aj_t9 (List.mem_of_getElem? (i := 85) (by decide +kernel))) (by decide +kernel)
set_option maxRecDepth 20000 in
theorem wd2133 : Cond.instanceMethod ⟨"CageLiftModel", "twistsOf", "(I)I"⟩ ∈ aj_TB := aj_memL (aj_t9 (List.mem_of_getElem? (i := 84) (by decide +kernel))) (by decide +kernel)
set_option maxRecDepth 20000 in
theorem wd125 : Cond.selects "CageLiftModel" ⟨"CageLiftModel", "twistsOf", "(I)I"⟩ ⟨"CageLiftModel", "twistsOf", "(I)I"⟩ ∈ aj_TB := aj_memL (List.mem_append_left _ (List.mem_of_getElem? (i := 125) (by decide +kernel))) (by decide +kernel)
set_option maxRecDepth 20000 in
theorem wd2135 : Cond.methodLink "CageLiftLaw" 179 ⟨"CageLiftModel", "weigh", "(I)I"⟩ ∈ aj_TB := aj_memL (aj_t9 (List.mem_of_getElem? (i := 86) (by decide +kernel))) (by decide +kernel)
set_option maxRecDepth 20000 in
theorem wd2138 : Cond.code ⟨"CageLiftModel", "weigh", "(I)I"⟩ prog_14_method_126_code 9 (Option.some FieldType.int) ∈ aj_TB := aj_memL (aj_t9 (List.mem_of_getElem? (i := 89) (by decide +kernel))) (by decide +kernel)
set_option maxRecDepth 20000 in
theorem wd2136 : Cond.instanceMethod ⟨"CageLiftModel", "weigh", "(I)I"⟩ ∈ aj_TB := aj_memL (aj_t9 (List.mem_of_getElem? (i := 87) (by decide +kernel))) (by decide +kernel)
set_option maxRecDepth 20000 in
theorem wd2137 : Cond.selects "CageLiftModel" ⟨"CageLiftModel", "weigh", "(I)I"⟩ ⟨"CageLiftModel", "weigh", "(I)I"⟩ ∈ aj_TB := aj_memL (aj_t9 (List.mem_of_getElem? (i := 88) (by decide +kernel))) (by decide +kernel)
set_option maxRecDepth 20000 in
theorem wd2139 : Cond.methodLink "CageLiftModel" 474 ⟨"CageLiftModel", "mostAlike", "(III)I"⟩ ∈ aj_TB := aj_memL (aj_t9 (List.mem_of_getElem? (i := 90) (by decide +kernel))) (by decide +kernel)
set_option maxRecDepth 20000 in
theorem wd2142 : Cond.code ⟨"CageLiftModel", "mostAlike", "(III)I"⟩ prog_14_method_125_code 8 (Option.some FieldType.int) ∈ aj_TB := aj_memL (aj_t9 (List.mem_of_getElem? (i := 93) (by decide +kernel))) (by decide +kernel)
set_option maxRecDepth 20000 in
theorem wd2141 : Cond.instanceMethod ⟨"CageLiftModel", "mostAlike", "(III)I"⟩ ∈ aj_TB := aj_memL (aj_t9 (List.mem_of_getElem? (i := 92) (by decide +kernel))) (by decide +kernel)
set_option maxRecDepth 20000 in
theorem wd126 : Cond.selects "CageLiftModel" ⟨"CageLiftModel", "mostAlike", "(III)I"⟩ ⟨"CageLiftModel", "mostAlike", "(III)I"⟩ ∈ aj_TB := aj_memL (List.mem_append_left _ (List.mem_of_getElem? (i := 126) (by decide +kernel))) (by decide +kernel)
set_option maxRecDepth 20000 in
theorem wd2143 : Cond.methodLink "CageLiftLaw" 184 ⟨"CageLiftModel", "chance", "(III)I"⟩ ∈ aj_TB := aj_memL (aj_t9 (List.mem_of_getElem? (i := 94) (by decide +kernel))) (by decide +kernel)
set_option maxRecDepth 20000 in
theorem wd2146 : Cond.code ⟨"CageLiftModel", "chance", "(III)I"⟩ prog_14_method_132_code 4 (Option.some FieldType.int) ∈ aj_TB := aj_memL (aj_t9 (List.mem_of_getElem? (i := 97) (by decide +kernel))) (by decide +kernel)
set_option maxRecDepth 20000 in
theorem wd2144 : Cond.instanceMethod ⟨"CageLiftModel", "chance", "(III)I"⟩ ∈ aj_TB := aj_memL (aj_t9 (List.mem_of_getElem? (i := 95) (by decide +kernel))) (by decide +kernel)
set_option maxRecDepth 20000 in
theorem wd2145 : Cond.selects "CageLiftModel" ⟨"CageLiftModel", "chance", "(III)I"⟩ ⟨"CageLiftModel", "chance", "(III)I"⟩ ∈ aj_TB := aj_memL (aj_t9 (List.mem_of_getElem? (i := 96) (by decide +kernel))) (by decide +kernel)
set_option maxRecDepth 20000 in
theorem wd2148 : Cond.methodLink "CageLiftModel" 498 ⟨"CageLiftModel", "laysLots", "(II)V"⟩ ∈ aj_TB := aj_memL (aj_t9 (List.mem_of_getElem? (i := 99) (by decide +kernel))) (by decide +kernel)
set_option maxRecDepth 20000 in
theorem wd2151 : Cond.code ⟨"CageLiftModel", "laysLots", "(II)V"⟩ prog_14_method_130_code 3 (Option.none : Option FieldType) ∈ aj_TB := aj_memL (aj_t9 (List.mem_of_getElem? (i := 102) (by decide +kernel))) (by decide +kernel)
set_option maxRecDepth 20000 in
theorem wd2150 : Cond.instanceMethod ⟨"CageLiftModel", "laysLots", "(II)V"⟩ ∈ aj_TB := aj_memL (aj_t9 (List.mem_of_getElem? (i := 101) (by decide +kernel))) (by decide +kernel)
set_option maxRecDepth 20000 in
theorem wd127 : Cond.selects "CageLiftModel" ⟨"CageLiftModel", "laysLots", "(II)V"⟩ ⟨"CageLiftModel", "laysLots", "(II)V"⟩ ∈ aj_TB := aj_memL (List.mem_append_left _ (List.mem_of_getElem? (i := 127) (by decide +kernel))) (by decide +kernel)
set_option maxRecDepth 20000 in
theorem wd2152 : Cond.methodLink "CageLiftModel" 484 ⟨"CageLiftModel", "goesLots", "(IIJ)V"⟩ ∈ aj_TB := aj_memL (aj_t9 (List.mem_of_getElem? (i := 103) (by decide +kernel))) (by decide +kernel)
set_option maxRecDepth 20000 in
theorem wd2155 : Cond.code ⟨"CageLiftModel", "goesLots", "(IIJ)V"⟩ prog_14_method_127_code 8 (Option.none : Option FieldType) ∈ aj_TB := aj_memL (aj_t9 (List.mem_of_getElem? (i := 106) (by decide +kernel))) (by decide +kernel)
set_option maxRecDepth 20000 in
theorem wd2154 : Cond.instanceMethod ⟨"CageLiftModel", "goesLots", "(IIJ)V"⟩ ∈ aj_TB := aj_memL (aj_t9 (List.mem_of_getElem? (i := 105) (by decide +kernel))) (by decide +kernel)
set_option maxRecDepth 20000 in
theorem wd128 : Cond.selects "CageLiftModel" ⟨"CageLiftModel", "goesLots", "(IIJ)V"⟩ ⟨"CageLiftModel", "goesLots", "(IIJ)V"⟩ ∈ aj_TB := aj_memL (List.mem_append_left _ (List.mem_of_getElem? (i := 128) (by decide +kernel))) (by decide +kernel)
set_option maxRecDepth 20000 in
theorem wd2156 : Cond.methodLink "CageLiftModel" 501 ⟨"CageLiftModel", "part", "(JII)I"⟩ ∈ aj_TB := aj_memL (aj_t9 (List.mem_of_getElem? (i := 107) (by decide +kernel))) (by decide +kernel)
set_option maxRecDepth 20000 in
theorem wd2158 : Cond.code ⟨"CageLiftModel", "part", "(JII)I"⟩ prog_14_method_131_code 4 (Option.some FieldType.int) ∈ aj_TB := aj_memL (aj_t9 (List.mem_of_getElem? (i := 109) (by decide +kernel))) (by decide +kernel)
set_option maxRecDepth 20000 in
theorem wd2157 : Cond.static ⟨"CageLiftModel", "part", "(JII)I"⟩ ∈ aj_TB := aj_memL (aj_t9 (List.mem_of_getElem? (i := 108) (by decide +kernel))) (by decide +kernel)
set_option maxRecDepth 20000 in
theorem wd2159 : Cond.methodLink "CageLiftModel" 492 ⟨"CageLiftModel", "wholeOf", "(I)J"⟩ ∈ aj_TB := aj_memL (aj_t9 (List.mem_of_getElem? (i := 110) (by decide +kernel))) (by decide +kernel)
set_option maxRecDepth 20000 in
theorem wd2161 : Cond.code ⟨"CageLiftModel", "wholeOf", "(I)J"⟩ prog_14_method_128_code 4 (Option.some FieldType.long) ∈ aj_TB := aj_memL (aj_t9 (List.mem_of_getElem? (i := 112) (by decide +kernel))) (by decide +kernel)
set_option maxRecDepth 20000 in
theorem wd2160 : Cond.static ⟨"CageLiftModel", "wholeOf", "(I)J"⟩ ∈ aj_TB := aj_memL (aj_t9 (List.mem_of_getElem? (i := 111) (by decide +kernel))) (by decide +kernel)
set_option maxRecDepth 20000 in
theorem wd2162 : Cond.methodLink "CageLiftModel" 488 ⟨"CageLiftModel", "common", "(JJ)J"⟩ ∈ aj_TB := aj_memL (aj_t9 (List.mem_of_getElem? (i := 113) (by decide +kernel))) (by decide +kernel)
set_option maxRecDepth 20000 in
theorem wd2164 : Cond.code ⟨"CageLiftModel", "common", "(JJ)J"⟩ prog_14_method_129_code 4 (Option.some FieldType.long) ∈ aj_TB := aj_memL (aj_t9 (List.mem_of_getElem? (i := 115) (by decide +kernel))) (by decide +kernel)
set_option maxRecDepth 20000 in
theorem wd2163 : Cond.static ⟨"CageLiftModel", "common", "(JJ)J"⟩ ∈ aj_TB := aj_memL (aj_t9 (List.mem_of_getElem? (i := 114) (by decide +kernel))) (by decide +kernel)
set_option maxRecDepth 20000 in
theorem wd2165 : Cond.methodLink "CageLiftLaw" 188 ⟨"CageLiftModel", "mean", "(II)I"⟩ ∈ aj_TB := aj_memL (aj_t9 (List.mem_of_getElem? (i := 116) (by decide +kernel))) (by decide +kernel)
set_option maxRecDepth 20000 in
theorem wd2168 : Cond.code ⟨"CageLiftModel", "mean", "(II)I"⟩ prog_14_method_133_code 3 (Option.some FieldType.int) ∈ aj_TB := aj_memL (aj_t9 (List.mem_of_getElem? (i := 119) (by decide +kernel))) (by decide +kernel)
set_option maxRecDepth 20000 in
theorem wd2166 : Cond.instanceMethod ⟨"CageLiftModel", "mean", "(II)I"⟩ ∈ aj_TB := aj_memL (aj_t9 (List.mem_of_getElem? (i := 117) (by decide +kernel))) (by decide +kernel)
set_option maxRecDepth 20000 in
theorem wd2167 : Cond.selects "CageLiftModel" ⟨"CageLiftModel", "mean", "(II)I"⟩ ⟨"CageLiftModel", "mean", "(II)I"⟩ ∈ aj_TB := aj_memL (aj_t9 (List.mem_of_getElem? (i := 118) (by decide +kernel))) (by decide +kernel)
set_option maxRecDepth 20000 in
theorem wd2169 : Cond.methodLink "CageLiftLaw" 192 ⟨"CageLiftModel", "numbers", "(III)I"⟩ ∈ aj_TB := aj_memL (aj_t9 (List.mem_of_getElem? (i := 120) (by decide +kernel))) (by decide +kernel)
set_option maxRecDepth 20000 in
theorem wd2172 : Cond.code ⟨"CageLiftModel", "numbers", "(III)I"⟩ prog_14_method_135_code 5 (Option.some FieldType.int) ∈ aj_TB := aj_memL (aj_t9 (List.mem_of_getElem? (i := 123) (by decide +kernel))) (by decide +kernel)
set_option maxRecDepth 20000 in
theorem wd2170 : Cond.instanceMethod ⟨"CageLiftModel", "numbers", "(III)I"⟩ ∈ aj_TB := aj_memL (aj_t9 (List.mem_of_getElem? (i := 121) (by decide +kernel))) (by decide +kernel)
set_option maxRecDepth 20000 in
theorem wd2171 : Cond.selects "CageLiftModel" ⟨"CageLiftModel", "numbers", "(III)I"⟩ ⟨"CageLiftModel", "numbers", "(III)I"⟩ ∈ aj_TB := aj_memL (aj_t9 (List.mem_of_getElem? (i := 122) (by decide +kernel))) (by decide +kernel)
set_option maxRecDepth 20000 in
theorem wd2173 : Cond.methodLink "CageLiftLaw" 199 ⟨"CageLiftModel", "write", "(IIJ)J"⟩ ∈ aj_TB := aj_memL (aj_t9 (List.mem_of_getElem? (i := 124) (by decide +kernel))) (by decide +kernel)
set_option maxRecDepth 20000 in
theorem wd2176 : Cond.code ⟨"CageLiftModel", "write", "(IIJ)J"⟩ prog_14_method_136_code 6 (Option.some FieldType.long) ∈ aj_TB := aj_memL (aj_t9 (List.mem_of_getElem? (i := 127) (by decide +kernel))) (by decide +kernel)
set_option maxRecDepth 20000 in
theorem wd2174 : Cond.instanceMethod ⟨"CageLiftModel", "write", "(IIJ)J"⟩ ∈ aj_TB := aj_memL (aj_t9 (List.mem_of_getElem? (i := 125) (by decide +kernel))) (by decide +kernel)
set_option maxRecDepth 20000 in
theorem wd2175 : Cond.selects "CageLiftModel" ⟨"CageLiftModel", "write", "(IIJ)J"⟩ ⟨"CageLiftModel", "write", "(IIJ)J"⟩ ∈ aj_TB := aj_memL (aj_t9 (List.mem_of_getElem? (i := 126) (by decide +kernel))) (by decide +kernel)
set_option maxRecDepth 20000 in
theorem wd2178 : Cond.methodLink "CageLiftModel" 507 ⟨"CageLiftModel", "cutTo", "(JI)J"⟩ ∈ aj_TB := aj_memL (aj_t9 (List.mem_of_getElem? (i := 129) (by decide +kernel))) (by decide +kernel)
set_option maxRecDepth 20000 in
theorem wd2180 : Cond.code ⟨"CageLiftModel", "cutTo", "(JI)J"⟩ prog_14_method_134_code 3 (Option.some FieldType.long) ∈ aj_TB := aj_memL (aj_t9 (List.mem_of_getElem? (i := 131) (by decide +kernel))) (by decide +kernel)
