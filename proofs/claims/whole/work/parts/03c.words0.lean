set_option maxRecDepth 20000 in
theorem aj_t1 {w : Cond} (h : w ∈ tables_1_1) : w ∈ lw_tbl := List.mem_append_right _ (show w ∈ tables_1_1 ++ (tables_1_2 ++ (tables_1_3 ++ (tables_1_4 ++ (tables_1_5 ++ (tables_1_6 ++ (tables_1_7 ++ (tables_1_8 ++ tables_1_9))))))) from (List.mem_append_left _ h))
set_option maxRecDepth 20000 in
theorem aj_t2 {w : Cond} (h : w ∈ tables_1_2) : w ∈ lw_tbl := List.mem_append_right _ (show w ∈ tables_1_1 ++ (tables_1_2 ++ (tables_1_3 ++ (tables_1_4 ++ (tables_1_5 ++ (tables_1_6 ++ (tables_1_7 ++ (tables_1_8 ++ tables_1_9))))))) from (List.mem_append_right _ (List.mem_append_left _ h)))
set_option maxRecDepth 20000 in
theorem aj_t3 {w : Cond} (h : w ∈ tables_1_3) : w ∈ lw_tbl := List.mem_append_right _ (show w ∈ tables_1_1 ++ (tables_1_2 ++ (tables_1_3 ++ (tables_1_4 ++ (tables_1_5 ++ (tables_1_6 ++ (tables_1_7 ++ (tables_1_8 ++ tables_1_9))))))) from (List.mem_append_right _ (List.mem_append_right _ (List.mem_append_left _ h))))
set_option maxRecDepth 20000 in
theorem aj_t4 {w : Cond} (h : w ∈ tables_1_4) : w ∈ lw_tbl := List.mem_append_right _ (show w ∈ tables_1_1 ++ (tables_1_2 ++ (tables_1_3 ++ (tables_1_4 ++ (tables_1_5 ++ (tables_1_6 ++ (tables_1_7 ++ (tables_1_8 ++ tables_1_9))))))) from (List.mem_append_right _ (List.mem_append_right _ (List.mem_append_right _ (List.mem_append_left _ h)))))
set_option maxRecDepth 20000 in
theorem aj_t5 {w : Cond} (h : w ∈ tables_1_5) : w ∈ lw_tbl := List.mem_append_right _ (show w ∈ tables_1_1 ++ (tables_1_2 ++ (tables_1_3 ++ (tables_1_4 ++ (tables_1_5 ++ (tables_1_6 ++ (tables_1_7 ++ (tables_1_8 ++ tables_1_9))))))) from (List.mem_append_right _ (List.mem_append_right _ (List.mem_append_right _ (List.mem_append_right _ (List.mem_append_left _ h))))))
set_option maxRecDepth 20000 in
theorem aj_t6 {w : Cond} (h : w ∈ tables_1_6) : w ∈ lw_tbl := List.mem_append_right _ (show w ∈ tables_1_1 ++ (tables_1_2 ++ (tables_1_3 ++ (tables_1_4 ++ (tables_1_5 ++ (tables_1_6 ++ (tables_1_7 ++ (tables_1_8 ++ tables_1_9))))))) from (List.mem_append_right _ (List.mem_append_right _ (List.mem_append_right _ (List.mem_append_right _ (List.mem_append_right _ (List.mem_append_left _ h)))))))
set_option maxRecDepth 20000 in
theorem aj_t7 {w : Cond} (h : w ∈ tables_1_7) : w ∈ lw_tbl := List.mem_append_right _ (show w ∈ tables_1_1 ++ (tables_1_2 ++ (tables_1_3 ++ (tables_1_4 ++ (tables_1_5 ++ (tables_1_6 ++ (tables_1_7 ++ (tables_1_8 ++ tables_1_9))))))) from (List.mem_append_right _ (List.mem_append_right _ (List.mem_append_right _ (List.mem_append_right _ (List.mem_append_right _ (List.mem_append_right _ (List.mem_append_left _ h))))))))
set_option maxRecDepth 20000 in
theorem aj_t8 {w : Cond} (h : w ∈ tables_1_8) : w ∈ lw_tbl := List.mem_append_right _ (show w ∈ tables_1_1 ++ (tables_1_2 ++ (tables_1_3 ++ (tables_1_4 ++ (tables_1_5 ++ (tables_1_6 ++ (tables_1_7 ++ (tables_1_8 ++ tables_1_9))))))) from (List.mem_append_right _ (List.mem_append_right _ (List.mem_append_right _ (List.mem_append_right _ (List.mem_append_right _ (List.mem_append_right _ (List.mem_append_right _ (List.mem_append_left _ h)))))))))
set_option maxRecDepth 20000 in
theorem aj_t9 {w : Cond} (h : w ∈ tables_1_9) : w ∈ lw_tbl := List.mem_append_right _ (show w ∈ tables_1_1 ++ (tables_1_2 ++ (tables_1_3 ++ (tables_1_4 ++ (tables_1_5 ++ (tables_1_6 ++ (tables_1_7 ++ (tables_1_8 ++ tables_1_9))))))) from (List.mem_append_right _ (List.mem_append_right _ (List.mem_append_right _ (List.mem_append_right _ (List.mem_append_right _ (List.mem_append_right _ (List.mem_append_right _ (List.mem_append_right _ h)))))))))
set_option maxRecDepth 20000 in
theorem wd178 : Cond.fieldLink "CageLift$Group" 9 "CageLift$Group" "size" "I" ∈ aj_TB := aj_memL (aj_t1 (List.mem_of_getElem? (i := 49) (by decide +kernel))) (by decide +kernel)
set_option maxRecDepth 20000 in
theorem wd179 : Cond.fieldLink "CageLift$Network" 72 "CageLift$Group" "size" "I" ∈ aj_TB := aj_memL (aj_t1 (List.mem_of_getElem? (i := 50) (by decide +kernel))) (by decide +kernel)
set_option maxRecDepth 20000 in
theorem wd180 : Cond.fieldLink "CageLift$Plan" 96 "CageLift$Group" "size" "I" ∈ aj_TB := aj_memL (aj_t1 (List.mem_of_getElem? (i := 51) (by decide +kernel))) (by decide +kernel)
set_option maxRecDepth 20000 in
theorem wd181 : Cond.fieldLink "CageLift$Reader" 133 "CageLift$Group" "size" "I" ∈ aj_TB := aj_memL (aj_t1 (List.mem_of_getElem? (i := 52) (by decide +kernel))) (by decide +kernel)
set_option maxRecDepth 20000 in
theorem wd182 : Cond.fieldLink "CageLift" 327 "CageLift$Group" "size" "I" ∈ aj_TB := aj_memL (aj_t1 (List.mem_of_getElem? (i := 53) (by decide +kernel))) (by decide +kernel)
set_option maxRecDepth 20000 in
theorem wd183 : Cond.fieldLink "CageLift$Group" 15 "CageLift$Group" "table" "[I" ∈ aj_TB := aj_memL (aj_t1 (List.mem_of_getElem? (i := 54) (by decide +kernel))) (by decide +kernel)
set_option maxRecDepth 20000 in
theorem wd184 : Cond.fieldLink "CageLift$Group" 19 "CageLift$Group" "back" "[I" ∈ aj_TB := aj_memL (aj_t1 (List.mem_of_getElem? (i := 55) (by decide +kernel))) (by decide +kernel)
set_option maxRecDepth 20000 in
theorem wd185 : Cond.fieldLink "CageLift" 149 "CageLift$Group" "back" "[I" ∈ aj_TB := aj_memL (aj_t1 (List.mem_of_getElem? (i := 56) (by decide +kernel))) (by decide +kernel)
set_option maxRecDepth 20000 in
theorem wd186 : Cond.fieldLink "CageLift$Group" 22 "CageLift$Group" "order" "[I" ∈ aj_TB := aj_memL (aj_t1 (List.mem_of_getElem? (i := 57) (by decide +kernel))) (by decide +kernel)
set_option maxRecDepth 20000 in
theorem wd187 : Cond.fieldLink "CageLift$Plan" 87 "CageLift$Group" "order" "[I" ∈ aj_TB := aj_memL (aj_t1 (List.mem_of_getElem? (i := 58) (by decide +kernel))) (by decide +kernel)
set_option maxRecDepth 20000 in
theorem wd188 : Cond.fieldLink "CageLift" 152 "CageLift$Group" "order" "[I" ∈ aj_TB := aj_memL (aj_t1 (List.mem_of_getElem? (i := 59) (by decide +kernel))) (by decide +kernel)
set_option maxRecDepth 20000 in
theorem wd189 : Cond.fieldLink "CageLift$Reader" 143 "CageLift$Group" "order" "[I" ∈ aj_TB := aj_memL (aj_t1 (List.mem_of_getElem? (i := 60) (by decide +kernel))) (by decide +kernel)
set_option maxRecDepth 20000 in
theorem wd207 : Cond.fieldLink "CageLift$Laws" 9 "CageLift$Laws" "steps" "[I" ∈ aj_TB := aj_memL (aj_t1 (List.mem_of_getElem? (i := 78) (by decide +kernel))) (by decide +kernel)
set_option maxRecDepth 20000 in
theorem wd208 : Cond.fieldLink "CageLift$Laws" 15 "CageLift$Laws" "size" "I" ∈ aj_TB := aj_memL (aj_t1 (List.mem_of_getElem? (i := 79) (by decide +kernel))) (by decide +kernel)
set_option maxRecDepth 20000 in
theorem wd209 : Cond.fieldLink "CageLift$Reader" 151 "CageLift$Laws" "size" "I" ∈ aj_TB := aj_memL (aj_t1 (List.mem_of_getElem? (i := 80) (by decide +kernel))) (by decide +kernel)
set_option maxRecDepth 20000 in
theorem wd210 : Cond.fieldLink "CageLift$Laws" 19 "CageLift$Laws" "keepsBegin" "I" ∈ aj_TB := aj_memL (aj_t1 (List.mem_of_getElem? (i := 81) (by decide +kernel))) (by decide +kernel)
set_option maxRecDepth 20000 in
theorem wd211 : Cond.fieldLink "CageLift$Plan" 93 "CageLift$Laws" "keepsBegin" "I" ∈ aj_TB := aj_memL (aj_t1 (List.mem_of_getElem? (i := 82) (by decide +kernel))) (by decide +kernel)
set_option maxRecDepth 20000 in
theorem wd212 : Cond.fieldLink "CageLift$Reader" 157 "CageLift$Laws" "keepsBegin" "I" ∈ aj_TB := aj_memL (aj_t1 (List.mem_of_getElem? (i := 83) (by decide +kernel))) (by decide +kernel)
set_option maxRecDepth 20000 in
theorem wd213 : Cond.fieldLink "CageLift$Laws" 22 "CageLift$Laws" "keepsEnd" "I" ∈ aj_TB := aj_memL (aj_t1 (List.mem_of_getElem? (i := 84) (by decide +kernel))) (by decide +kernel)
set_option maxRecDepth 20000 in
theorem wd214 : Cond.fieldLink "CageLift$Plan" 90 "CageLift$Laws" "keepsEnd" "I" ∈ aj_TB := aj_memL (aj_t1 (List.mem_of_getElem? (i := 85) (by decide +kernel))) (by decide +kernel)
set_option maxRecDepth 20000 in
theorem wd215 : Cond.fieldLink "CageLift$Reader" 160 "CageLift$Laws" "keepsEnd" "I" ∈ aj_TB := aj_memL (aj_t1 (List.mem_of_getElem? (i := 86) (by decide +kernel))) (by decide +kernel)
set_option maxRecDepth 20000 in
theorem wd216 : Cond.fieldLink "CageLift$Laws" 25 "CageLift$Laws" "weighsBegin" "I" ∈ aj_TB := aj_memL (aj_t1 (List.mem_of_getElem? (i := 87) (by decide +kernel))) (by decide +kernel)
set_option maxRecDepth 20000 in
theorem wd217 : Cond.fieldLink "CageLift$Plan" 106 "CageLift$Laws" "weighsBegin" "I" ∈ aj_TB := aj_memL (aj_t1 (List.mem_of_getElem? (i := 88) (by decide +kernel))) (by decide +kernel)
set_option maxRecDepth 20000 in
theorem wd218 : Cond.fieldLink "CageLift$Reader" 166 "CageLift$Laws" "weighsBegin" "I" ∈ aj_TB := aj_memL (aj_t1 (List.mem_of_getElem? (i := 89) (by decide +kernel))) (by decide +kernel)
set_option maxRecDepth 20000 in
theorem wd219 : Cond.fieldLink "CageLift$Laws" 28 "CageLift$Laws" "weighsEnd" "I" ∈ aj_TB := aj_memL (aj_t1 (List.mem_of_getElem? (i := 90) (by decide +kernel))) (by decide +kernel)
set_option maxRecDepth 20000 in
theorem wd220 : Cond.fieldLink "CageLift$Plan" 103 "CageLift$Laws" "weighsEnd" "I" ∈ aj_TB := aj_memL (aj_t1 (List.mem_of_getElem? (i := 91) (by decide +kernel))) (by decide +kernel)
set_option maxRecDepth 20000 in
theorem wd221 : Cond.fieldLink "CageLift$Reader" 169 "CageLift$Laws" "weighsEnd" "I" ∈ aj_TB := aj_memL (aj_t1 (List.mem_of_getElem? (i := 92) (by decide +kernel))) (by decide +kernel)
set_option maxRecDepth 20000 in
theorem wd222 : Cond.fieldLink "CageLift$Laws" 31 "CageLift$Laws" "stack" "[I" ∈ aj_TB := aj_memL (aj_t1 (List.mem_of_getElem? (i := 93) (by decide +kernel))) (by decide +kernel)
set_option maxRecDepth 20000 in
theorem wd238 : Cond.fieldLink "CageLift$Plan" 12 "CageLift$Plan" "group" "LCageLift$Group;" ∈ aj_TB := aj_memL (aj_t1 (List.mem_of_getElem? (i := 109) (by decide +kernel))) (by decide +kernel)
set_option maxRecDepth 20000 in
theorem wd239 : Cond.fieldLink "CageLift$Network" 66 "CageLift$Plan" "group" "LCageLift$Group;" ∈ aj_TB := aj_memL (aj_t1 (List.mem_of_getElem? (i := 110) (by decide +kernel))) (by decide +kernel)
set_option maxRecDepth 20000 in
theorem wd240 : Cond.fieldLink "CageLift$Reader" 89 "CageLift$Plan" "group" "LCageLift$Group;" ∈ aj_TB := aj_memL (aj_t1 (List.mem_of_getElem? (i := 111) (by decide +kernel))) (by decide +kernel)
set_option maxRecDepth 20000 in
theorem wd241 : Cond.fieldLink "CageLift" 136 "CageLift$Plan" "group" "LCageLift$Group;" ∈ aj_TB := aj_memL (aj_t1 (List.mem_of_getElem? (i := 112) (by decide +kernel))) (by decide +kernel)
set_option maxRecDepth 20000 in
theorem wd242 : Cond.fieldLink "CageLift$Plan" 21 "CageLift$Plan" "laws" "LCageLift$Laws;" ∈ aj_TB := aj_memL (aj_t1 (List.mem_of_getElem? (i := 113) (by decide +kernel))) (by decide +kernel)
set_option maxRecDepth 20000 in
theorem wd243 : Cond.fieldLink "CageLift$Reader" 147 "CageLift$Plan" "laws" "LCageLift$Laws;" ∈ aj_TB := aj_memL (aj_t1 (List.mem_of_getElem? (i := 114) (by decide +kernel))) (by decide +kernel)
set_option maxRecDepth 20000 in
theorem wd244 : Cond.fieldLink "CageLift$Plan" 25 "CageLift$Plan" "twist" "I" ∈ aj_TB := aj_memL (aj_t1 (List.mem_of_getElem? (i := 115) (by decide +kernel))) (by decide +kernel)
set_option maxRecDepth 20000 in
theorem wd245 : Cond.fieldLink "CageLift$Setting" 31 "CageLift$Plan" "twist" "I" ∈ aj_TB := aj_memL (aj_t1 (List.mem_of_getElem? (i := 116) (by decide +kernel))) (by decide +kernel)
set_option maxRecDepth 20000 in
theorem wd246 : Cond.fieldLink "CageLift$Reader" 83 "CageLift$Plan" "twist" "I" ∈ aj_TB := aj_memL (aj_t1 (List.mem_of_getElem? (i := 117) (by decide +kernel))) (by decide +kernel)
set_option maxRecDepth 20000 in
theorem wd247 : Cond.fieldLink "CageLift$Plan" 29 "CageLift$Plan" "places" "I" ∈ aj_TB := aj_memL (aj_t1 (List.mem_of_getElem? (i := 118) (by decide +kernel))) (by decide +kernel)
set_option maxRecDepth 20000 in
theorem wd248 : Cond.fieldLink "CageLift$Network" 77 "CageLift$Plan" "places" "I" ∈ aj_TB := aj_memL (aj_t1 (List.mem_of_getElem? (i := 119) (by decide +kernel))) (by decide +kernel)
set_option maxRecDepth 20000 in
theorem wd249 : Cond.fieldLink "CageLift$Reader" 127 "CageLift$Plan" "places" "I" ∈ aj_TB := aj_memL (aj_t1 (List.mem_of_getElem? (i := 120) (by decide +kernel))) (by decide +kernel)
set_option maxRecDepth 20000 in
theorem wd250 : Cond.fieldLink "CageLift" 405 "CageLift$Plan" "places" "I" ∈ aj_TB := aj_memL (aj_t1 (List.mem_of_getElem? (i := 121) (by decide +kernel))) (by decide +kernel)
set_option maxRecDepth 20000 in
theorem wd251 : Cond.fieldLink "CageLift$Plan" 32 "CageLift$Plan" "arcs" "I" ∈ aj_TB := aj_memL (aj_t1 (List.mem_of_getElem? (i := 122) (by decide +kernel))) (by decide +kernel)
set_option maxRecDepth 20000 in
theorem wd252 : Cond.fieldLink "CageLift$Network" 89 "CageLift$Plan" "arcs" "I" ∈ aj_TB := aj_memL (aj_t1 (List.mem_of_getElem? (i := 123) (by decide +kernel))) (by decide +kernel)
set_option maxRecDepth 20000 in
theorem wd253 : Cond.fieldLink "CageLift$Reader" 121 "CageLift$Plan" "arcs" "I" ∈ aj_TB := aj_memL (aj_t1 (List.mem_of_getElem? (i := 124) (by decide +kernel))) (by decide +kernel)
set_option maxRecDepth 20000 in
theorem wd254 : Cond.fieldLink "CageLift" 368 "CageLift$Plan" "arcs" "I" ∈ aj_TB := aj_memL (aj_t1 (List.mem_of_getElem? (i := 125) (by decide +kernel))) (by decide +kernel)
set_option maxRecDepth 20000 in
theorem wd255 : Cond.fieldLink "CageLift$Plan" 35 "CageLift$Plan" "lines" "I" ∈ aj_TB := aj_memL (aj_t1 (List.mem_of_getElem? (i := 126) (by decide +kernel))) (by decide +kernel)
set_option maxRecDepth 20000 in
theorem wd256 : Cond.fieldLink "CageLift" 112 "CageLift$Plan" "lines" "I" ∈ aj_TB := aj_memL (aj_t1 (List.mem_of_getElem? (i := 127) (by decide +kernel))) (by decide +kernel)
set_option maxRecDepth 20000 in
theorem wd257 : Cond.fieldLink "CageLift$Reader" 74 "CageLift$Plan" "lines" "I" ∈ aj_TB := aj_memL (aj_t1 (List.mem_of_getElem? (i := 128) (by decide +kernel))) (by decide +kernel)
set_option maxRecDepth 20000 in
theorem wd258 : Cond.fieldLink "CageLift$Plan" 38 "CageLift$Plan" "halves" "I" ∈ aj_TB := aj_memL (aj_t1 (List.mem_of_getElem? (i := 129) (by decide +kernel))) (by decide +kernel)
set_option maxRecDepth 20000 in
theorem wd259 : Cond.fieldLink "CageLift$Plan" 41 "CageLift$Plan" "from" "[I" ∈ aj_TB := aj_memL (aj_t1 (List.mem_of_getElem? (i := 130) (by decide +kernel))) (by decide +kernel)
set_option maxRecDepth 20000 in
theorem wd260 : Cond.fieldLink "CageLift$Network" 109 "CageLift$Plan" "from" "[I" ∈ aj_TB := aj_memL (aj_t1 (List.mem_of_getElem? (i := 131) (by decide +kernel))) (by decide +kernel)
set_option maxRecDepth 20000 in
theorem wd261 : Cond.fieldLink "CageLift" 121 "CageLift$Plan" "from" "[I" ∈ aj_TB := aj_memL (aj_t1 (List.mem_of_getElem? (i := 132) (by decide +kernel))) (by decide +kernel)
set_option maxRecDepth 20000 in
theorem wd262 : Cond.fieldLink "CageLift$Laws" 61 "CageLift$Plan" "from" "[I" ∈ aj_TB := aj_memL (aj_t1 (List.mem_of_getElem? (i := 133) (by decide +kernel))) (by decide +kernel)
set_option maxRecDepth 20000 in
theorem wd263 : Cond.fieldLink "CageLift$Plan" 45 "CageLift$Plan" "to" "[I" ∈ aj_TB := aj_memL (aj_t1 (List.mem_of_getElem? (i := 134) (by decide +kernel))) (by decide +kernel)
set_option maxRecDepth 20000 in
theorem wd264 : Cond.fieldLink "CageLift$Network" 112 "CageLift$Plan" "to" "[I" ∈ aj_TB := aj_memL (aj_t1 (List.mem_of_getElem? (i := 135) (by decide +kernel))) (by decide +kernel)
set_option maxRecDepth 20000 in
theorem wd265 : Cond.fieldLink "CageLift" 124 "CageLift$Plan" "to" "[I" ∈ aj_TB := aj_memL (aj_t1 (List.mem_of_getElem? (i := 136) (by decide +kernel))) (by decide +kernel)
set_option maxRecDepth 20000 in
theorem wd266 : Cond.fieldLink "CageLift$Laws" 66 "CageLift$Plan" "to" "[I" ∈ aj_TB := aj_memL (aj_t1 (List.mem_of_getElem? (i := 137) (by decide +kernel))) (by decide +kernel)
set_option maxRecDepth 20000 in
theorem wd267 : Cond.fieldLink "CageLift$Plan" 48 "CageLift$Plan" "voltage" "[I" ∈ aj_TB := aj_memL (aj_t1 (List.mem_of_getElem? (i := 138) (by decide +kernel))) (by decide +kernel)
set_option maxRecDepth 20000 in
theorem wd268 : Cond.fieldLink "CageLift$Setting" 22 "CageLift$Plan" "voltage" "[I" ∈ aj_TB := aj_memL (aj_t1 (List.mem_of_getElem? (i := 139) (by decide +kernel))) (by decide +kernel)
set_option maxRecDepth 20000 in
theorem wd269 : Cond.fieldLink "CageLift$Plan" 51 "CageLift$Plan" "keptTwist" "I" ∈ aj_TB := aj_memL (aj_t1 (List.mem_of_getElem? (i := 140) (by decide +kernel))) (by decide +kernel)
set_option maxRecDepth 20000 in
theorem wd270 : Cond.fieldLink "CageLift$Plan" 54 "CageLift$Plan" "kept" "[I" ∈ aj_TB := aj_memL (aj_t1 (List.mem_of_getElem? (i := 141) (by decide +kernel))) (by decide +kernel)
set_option maxRecDepth 20000 in
theorem wd271 : Cond.fieldLink "CageLift$Network" 106 "CageLift$Plan" "kept" "[I" ∈ aj_TB := aj_memL (aj_t1 (List.mem_of_getElem? (i := 142) (by decide +kernel))) (by decide +kernel)
set_option maxRecDepth 20000 in
theorem wd297 : Cond.fieldLink "CageLift$Reader" 9 "CageLift$Reader" "text" "[B" ∈ aj_TB := aj_memL (aj_t1 (List.mem_of_getElem? (i := 168) (by decide +kernel))) (by decide +kernel)
set_option maxRecDepth 20000 in
theorem wd298 : Cond.fieldLink "CageLift$Reader" 15 "CageLift$Reader" "taped" "I" ∈ aj_TB := aj_memL (aj_t1 (List.mem_of_getElem? (i := 169) (by decide +kernel))) (by decide +kernel)
set_option maxRecDepth 20000 in
theorem wd299 : Cond.fieldLink "CageLift" 86 "CageLift$Reader" "taped" "I" ∈ aj_TB := aj_memL (aj_t1 (List.mem_of_getElem? (i := 170) (by decide +kernel))) (by decide +kernel)
set_option maxRecDepth 20000 in
theorem wd300 : Cond.fieldLink "CageLift$Reader" 19 "CageLift$Reader" "length" "I" ∈ aj_TB := aj_memL (aj_t1 (List.mem_of_getElem? (i := 171) (by decide +kernel))) (by decide +kernel)
set_option maxRecDepth 20000 in
theorem wd301 : Cond.fieldLink "CageLift$Reader" 25 "CageLift$Reader" "plan" "LCageLift$Plan;" ∈ aj_TB := aj_memL (aj_t1 (List.mem_of_getElem? (i := 172) (by decide +kernel))) (by decide +kernel)
set_option maxRecDepth 20000 in
theorem wd302 : Cond.fieldLink "CageLift" 101 "CageLift$Reader" "plan" "LCageLift$Plan;" ∈ aj_TB := aj_memL (aj_t1 (List.mem_of_getElem? (i := 173) (by decide +kernel))) (by decide +kernel)
set_option maxRecDepth 20000 in
theorem wd303 : Cond.fieldLink "CageLift$Reader" 29 "CageLift$Reader" "placesTold" "Z" ∈ aj_TB := aj_memL (aj_t1 (List.mem_of_getElem? (i := 174) (by decide +kernel))) (by decide +kernel)
set_option maxRecDepth 20000 in
theorem wd304 : Cond.fieldLink "CageLift$Reader" 33 "CageLift$Reader" "start" "I" ∈ aj_TB := aj_memL (aj_t1 (List.mem_of_getElem? (i := 175) (by decide +kernel))) (by decide +kernel)
set_option maxRecDepth 20000 in
theorem wd305 : Cond.fieldLink "CageLift$Reader" 36 "CageLift$Reader" "after" "I" ∈ aj_TB := aj_memL (aj_t1 (List.mem_of_getElem? (i := 176) (by decide +kernel))) (by decide +kernel)
set_option maxRecDepth 20000 in
theorem wd306 : Cond.fieldLink "CageLift$Reader" 39 "CageLift$Reader" "token" "I" ∈ aj_TB := aj_memL (aj_t1 (List.mem_of_getElem? (i := 177) (by decide +kernel))) (by decide +kernel)
set_option maxRecDepth 20000 in
theorem wd307 : Cond.fieldLink "CageLift$Reader" 42 "CageLift$Reader" "number" "I" ∈ aj_TB := aj_memL (aj_t1 (List.mem_of_getElem? (i := 178) (by decide +kernel))) (by decide +kernel)
set_option maxRecDepth 20000 in
theorem wd308 : Cond.fieldLink "CageLift$Reader" 45 "CageLift$Reader" "faultKind" "I" ∈ aj_TB := aj_memL (aj_t1 (List.mem_of_getElem? (i := 179) (by decide +kernel))) (by decide +kernel)
set_option maxRecDepth 20000 in
theorem wd309 : Cond.fieldLink "CageLift" 98 "CageLift$Reader" "faultKind" "I" ∈ aj_TB := aj_memL (aj_t1 (List.mem_of_getElem? (i := 180) (by decide +kernel))) (by decide +kernel)
set_option maxRecDepth 20000 in
theorem wd310 : Cond.fieldLink "CageLift$Reader" 48 "CageLift$Reader" "faultPlace" "I" ∈ aj_TB := aj_memL (aj_t1 (List.mem_of_getElem? (i := 181) (by decide +kernel))) (by decide +kernel)
set_option maxRecDepth 20000 in
theorem wd311 : Cond.fieldLink "CageLift" 115 "CageLift$Reader" "faultPlace" "I" ∈ aj_TB := aj_memL (aj_t1 (List.mem_of_getElem? (i := 182) (by decide +kernel))) (by decide +kernel)
set_option maxRecDepth 20000 in
theorem wd343 : Cond.fieldLink "CageLift$Setting" 9 "CageLift$Setting" "voltage" "[I" ∈ aj_TB := aj_memL (aj_t1 (List.mem_of_getElem? (i := 214) (by decide +kernel))) (by decide +kernel)
set_option maxRecDepth 20000 in
theorem wd344 : Cond.fieldLink "CageLift$Network" 99 "CageLift$Setting" "voltage" "[I" ∈ aj_TB := aj_memL (aj_t1 (List.mem_of_getElem? (i := 215) (by decide +kernel))) (by decide +kernel)
set_option maxRecDepth 20000 in
theorem wd345 : Cond.fieldLink "CageLift" 127 "CageLift$Setting" "voltage" "[I" ∈ aj_TB := aj_memL (aj_t1 (List.mem_of_getElem? (i := 216) (by decide +kernel))) (by decide +kernel)
set_option maxRecDepth 20000 in
theorem wd346 : Cond.fieldLink "CageLift$Setting" 15 "CageLift$Setting" "out" "I" ∈ aj_TB := aj_memL (aj_t1 (List.mem_of_getElem? (i := 217) (by decide +kernel))) (by decide +kernel)
set_option maxRecDepth 20000 in
theorem wd347 : Cond.fieldLink "CageLift" 408 "CageLift$Setting" "out" "I" ∈ aj_TB := aj_memL (aj_t1 (List.mem_of_getElem? (i := 218) (by decide +kernel))) (by decide +kernel)
set_option maxRecDepth 20000 in
theorem wd348 : Cond.fieldLink "CageLift$Setting" 19 "CageLift$Setting" "twist" "I" ∈ aj_TB := aj_memL (aj_t1 (List.mem_of_getElem? (i := 219) (by decide +kernel))) (by decide +kernel)
set_option maxRecDepth 20000 in
theorem wd349 : Cond.fieldLink "CageLift$Network" 80 "CageLift$Setting" "twist" "I" ∈ aj_TB := aj_memL (aj_t1 (List.mem_of_getElem? (i := 220) (by decide +kernel))) (by decide +kernel)
set_option maxRecDepth 20000 in
theorem wd350 : Cond.fieldLink "CageLift" 177 "CageLift$Setting" "twist" "I" ∈ aj_TB := aj_memL (aj_t1 (List.mem_of_getElem? (i := 221) (by decide +kernel))) (by decide +kernel)
set_option maxRecDepth 20000 in
theorem wd367 : Cond.fieldLink "CageLift$History" 11 "CageLift$History" "kept" "[LCageLift$Setting;" ∈ aj_TB := aj_memL (aj_t1 (List.mem_of_getElem? (i := 238) (by decide +kernel))) (by decide +kernel)
set_option maxRecDepth 20000 in
theorem wd368 : Cond.fieldLink "CageLift$History" 17 "CageLift$History" "next" "I" ∈ aj_TB := aj_memL (aj_t1 (List.mem_of_getElem? (i := 239) (by decide +kernel))) (by decide +kernel)
set_option maxRecDepth 20000 in
theorem wd369 : Cond.fieldLink "CageLift$History" 21 "CageLift$History" "held" "I" ∈ aj_TB := aj_memL (aj_t2 (List.mem_of_getElem? (i := 0) (by decide +kernel))) (by decide +kernel)
set_option maxRecDepth 20000 in
theorem wd370 : Cond.fieldLink "CageLift" 180 "CageLift$History" "held" "I" ∈ aj_TB := aj_memL (aj_t2 (List.mem_of_getElem? (i := 1) (by decide +kernel))) (by decide +kernel)
set_option maxRecDepth 20000 in
theorem wd394 : Cond.fieldLink "CageLift$Network" 9 "CageLift$Network" "nodes" "I" ∈ aj_TB := aj_memL (aj_t2 (List.mem_of_getElem? (i := 25) (by decide +kernel))) (by decide +kernel)
set_option maxRecDepth 20000 in
theorem wd395 : Cond.fieldLink "CageLift$Rings" 53 "CageLift$Network" "nodes" "I" ∈ aj_TB := aj_memL (aj_t2 (List.mem_of_getElem? (i := 26) (by decide +kernel))) (by decide +kernel)
set_option maxRecDepth 20000 in
theorem wd396 : Cond.fieldLink "CageLift" 295 "CageLift$Network" "nodes" "I" ∈ aj_TB := aj_memL (aj_t2 (List.mem_of_getElem? (i := 27) (by decide +kernel))) (by decide +kernel)
set_option maxRecDepth 20000 in
theorem wd397 : Cond.fieldLink "CageLift$Network" 15 "CageLift$Network" "links" "I" ∈ aj_TB := aj_memL (aj_t2 (List.mem_of_getElem? (i := 28) (by decide +kernel))) (by decide +kernel)
set_option maxRecDepth 20000 in
theorem wd398 : Cond.fieldLink "CageLift$Rings" 110 "CageLift$Network" "links" "I" ∈ aj_TB := aj_memL (aj_t2 (List.mem_of_getElem? (i := 29) (by decide +kernel))) (by decide +kernel)
set_option maxRecDepth 20000 in
theorem wd399 : Cond.fieldLink "CageLift" 219 "CageLift$Network" "links" "I" ∈ aj_TB := aj_memL (aj_t2 (List.mem_of_getElem? (i := 30) (by decide +kernel))) (by decide +kernel)
set_option maxRecDepth 20000 in
theorem wd400 : Cond.fieldLink "CageLift$Network" 18 "CageLift$Network" "first" "[I" ∈ aj_TB := aj_memL (aj_t2 (List.mem_of_getElem? (i := 31) (by decide +kernel))) (by decide +kernel)
set_option maxRecDepth 20000 in
theorem wd401 : Cond.fieldLink "CageLift$Rings" 113 "CageLift$Network" "first" "[I" ∈ aj_TB := aj_memL (aj_t2 (List.mem_of_getElem? (i := 32) (by decide +kernel))) (by decide +kernel)
set_option maxRecDepth 20000 in
theorem wd402 : Cond.fieldLink "CageLift$Network" 22 "CageLift$Network" "second" "[I" ∈ aj_TB := aj_memL (aj_t2 (List.mem_of_getElem? (i := 33) (by decide +kernel))) (by decide +kernel)
set_option maxRecDepth 20000 in
theorem wd403 : Cond.fieldLink "CageLift$Rings" 116 "CageLift$Network" "second" "[I" ∈ aj_TB := aj_memL (aj_t2 (List.mem_of_getElem? (i := 34) (by decide +kernel))) (by decide +kernel)
set_option maxRecDepth 20000 in
theorem wd404 : Cond.fieldLink "CageLift$Network" 25 "CageLift$Network" "arcOf" "[I" ∈ aj_TB := aj_memL (aj_t2 (List.mem_of_getElem? (i := 35) (by decide +kernel))) (by decide +kernel)
set_option maxRecDepth 20000 in
theorem wd405 : Cond.fieldLink "CageLift$Network" 28 "CageLift$Network" "memberOf" "[I" ∈ aj_TB := aj_memL (aj_t2 (List.mem_of_getElem? (i := 36) (by decide +kernel))) (by decide +kernel)
set_option maxRecDepth 20000 in
theorem wd406 : Cond.fieldLink "CageLift$Network" 31 "CageLift$Network" "weight" "[I" ∈ aj_TB := aj_memL (aj_t2 (List.mem_of_getElem? (i := 37) (by decide +kernel))) (by decide +kernel)
set_option maxRecDepth 20000 in
theorem wd407 : Cond.fieldLink "CageLift$Network" 34 "CageLift$Network" "weighed" "Z" ∈ aj_TB := aj_memL (aj_t2 (List.mem_of_getElem? (i := 38) (by decide +kernel))) (by decide +kernel)
set_option maxRecDepth 20000 in
theorem wd408 : Cond.fieldLink "CageLift$Network" 38 "CageLift$Network" "start" "[I" ∈ aj_TB := aj_memL (aj_t2 (List.mem_of_getElem? (i := 39) (by decide +kernel))) (by decide +kernel)
set_option maxRecDepth 20000 in
theorem wd409 : Cond.fieldLink "CageLift$Rings" 79 "CageLift$Network" "start" "[I" ∈ aj_TB := aj_memL (aj_t2 (List.mem_of_getElem? (i := 40) (by decide +kernel))) (by decide +kernel)
set_option maxRecDepth 20000 in
theorem wd410 : Cond.fieldLink "CageLift$Network" 41 "CageLift$Network" "ends" "[I" ∈ aj_TB := aj_memL (aj_t2 (List.mem_of_getElem? (i := 41) (by decide +kernel))) (by decide +kernel)
set_option maxRecDepth 20000 in
theorem wd411 : Cond.fieldLink "CageLift$Rings" 82 "CageLift$Network" "ends" "[I" ∈ aj_TB := aj_memL (aj_t2 (List.mem_of_getElem? (i := 42) (by decide +kernel))) (by decide +kernel)
set_option maxRecDepth 20000 in
theorem wd412 : Cond.fieldLink "CageLift$Network" 44 "CageLift$Network" "dist" "[I" ∈ aj_TB := aj_memL (aj_t2 (List.mem_of_getElem? (i := 43) (by decide +kernel))) (by decide +kernel)
set_option maxRecDepth 20000 in
theorem wd413 : Cond.fieldLink "CageLift$Rings" 88 "CageLift$Network" "dist" "[I" ∈ aj_TB := aj_memL (aj_t2 (List.mem_of_getElem? (i := 44) (by decide +kernel))) (by decide +kernel)
set_option maxRecDepth 20000 in
theorem wd414 : Cond.fieldLink "CageLift" 257 "CageLift$Network" "dist" "[I" ∈ aj_TB := aj_memL (aj_t2 (List.mem_of_getElem? (i := 45) (by decide +kernel))) (by decide +kernel)
set_option maxRecDepth 20000 in
theorem wd415 : Cond.fieldLink "CageLift$Network" 47 "CageLift$Network" "cost" "[I" ∈ aj_TB := aj_memL (aj_t2 (List.mem_of_getElem? (i := 46) (by decide +kernel))) (by decide +kernel)
set_option maxRecDepth 20000 in
theorem wd416 : Cond.fieldLink "CageLift" 307 "CageLift$Network" "cost" "[I" ∈ aj_TB := aj_memL (aj_t2 (List.mem_of_getElem? (i := 47) (by decide +kernel))) (by decide +kernel)
set_option maxRecDepth 20000 in
theorem wd417 : Cond.fieldLink "CageLift$Network" 50 "CageLift$Network" "via" "[I" ∈ aj_TB := aj_memL (aj_t2 (List.mem_of_getElem? (i := 48) (by decide +kernel))) (by decide +kernel)
set_option maxRecDepth 20000 in
theorem wd418 : Cond.fieldLink "CageLift$Network" 53 "CageLift$Network" "branch" "[I" ∈ aj_TB := aj_memL (aj_t2 (List.mem_of_getElem? (i := 49) (by decide +kernel))) (by decide +kernel)
set_option maxRecDepth 20000 in
theorem wd419 : Cond.fieldLink "CageLift$Network" 56 "CageLift$Network" "queue" "[I" ∈ aj_TB := aj_memL (aj_t2 (List.mem_of_getElem? (i := 50) (by decide +kernel))) (by decide +kernel)
set_option maxRecDepth 20000 in
theorem wd420 : Cond.fieldLink "CageLift$Network" 59 "CageLift$Network" "seen" "J" ∈ aj_TB := aj_memL (aj_t2 (List.mem_of_getElem? (i := 51) (by decide +kernel))) (by decide +kernel)
set_option maxRecDepth 20000 in
theorem wd421 : Cond.fieldLink "CageLift$Network" 63 "CageLift$Network" "barred" "J" ∈ aj_TB := aj_memL (aj_t2 (List.mem_of_getElem? (i := 52) (by decide +kernel))) (by decide +kernel)
set_option maxRecDepth 20000 in
theorem wd422 : Cond.fieldLink "CageLift$Rings" 64 "CageLift$Network" "barred" "J" ∈ aj_TB := aj_memL (aj_t2 (List.mem_of_getElem? (i := 53) (by decide +kernel))) (by decide +kernel)
set_option maxRecDepth 20000 in
theorem wd458 : Cond.fieldLink "CageLift$Rings" 9 "CageLift$Rings" "known" "Z" ∈ aj_TB := aj_memL (aj_t2 (List.mem_of_getElem? (i := 89) (by decide +kernel))) (by decide +kernel)
set_option maxRecDepth 20000 in
theorem wd459 : Cond.fieldLink "CageLift" 418 "CageLift$Rings" "known" "Z" ∈ aj_TB := aj_memL (aj_t2 (List.mem_of_getElem? (i := 90) (by decide +kernel))) (by decide +kernel)
set_option maxRecDepth 20000 in
theorem wd460 : Cond.fieldLink "CageLift$Rings" 15 "CageLift$Rings" "length" "I" ∈ aj_TB := aj_memL (aj_t2 (List.mem_of_getElem? (i := 91) (by decide +kernel))) (by decide +kernel)
set_option maxRecDepth 20000 in
theorem wd461 : Cond.fieldLink "CageLift" 273 "CageLift$Rings" "length" "I" ∈ aj_TB := aj_memL (aj_t2 (List.mem_of_getElem? (i := 92) (by decide +kernel))) (by decide +kernel)
set_option maxRecDepth 20000 in
theorem wd462 : Cond.fieldLink "CageLift$Rings" 19 "CageLift$Rings" "path" "[I" ∈ aj_TB := aj_memL (aj_t2 (List.mem_of_getElem? (i := 93) (by decide +kernel))) (by decide +kernel)
set_option maxRecDepth 20000 in
theorem wd463 : Cond.fieldLink "CageLift" 276 "CageLift$Rings" "path" "[I" ∈ aj_TB := aj_memL (aj_t2 (List.mem_of_getElem? (i := 94) (by decide +kernel))) (by decide +kernel)
set_option maxRecDepth 20000 in
theorem wd464 : Cond.fieldLink "CageLift$Rings" 26 "CageLift$Rings" "net" "LCageLift$Network;" ∈ aj_TB := aj_memL (aj_t2 (List.mem_of_getElem? (i := 95) (by decide +kernel))) (by decide +kernel)
set_option maxRecDepth 20000 in
theorem wd465 : Cond.fieldLink "CageLift" 415 "CageLift$Rings" "net" "LCageLift$Network;" ∈ aj_TB := aj_memL (aj_t2 (List.mem_of_getElem? (i := 96) (by decide +kernel))) (by decide +kernel)
set_option maxRecDepth 20000 in
theorem wd466 : Cond.fieldLink "CageLift$Rings" 30 "CageLift$Rings" "joined" "[I" ∈ aj_TB := aj_memL (aj_t2 (List.mem_of_getElem? (i := 97) (by decide +kernel))) (by decide +kernel)
set_option maxRecDepth 20000 in
theorem wd467 : Cond.fieldLink "CageLift$Rings" 33 "CageLift$Rings" "near" "[I" ∈ aj_TB := aj_memL (aj_t2 (List.mem_of_getElem? (i := 98) (by decide +kernel))) (by decide +kernel)
set_option maxRecDepth 20000 in
theorem wd468 : Cond.fieldLink "CageLift$Rings" 36 "CageLift$Rings" "nears" "[I" ∈ aj_TB := aj_memL (aj_t2 (List.mem_of_getElem? (i := 99) (by decide +kernel))) (by decide +kernel)
set_option maxRecDepth 20000 in
theorem wd469 : Cond.fieldLink "CageLift$Rings" 39 "CageLift$Rings" "closings" "[I" ∈ aj_TB := aj_memL (aj_t2 (List.mem_of_getElem? (i := 100) (by decide +kernel))) (by decide +kernel)
set_option maxRecDepth 20000 in
theorem wd470 : Cond.fieldLink "CageLift$Rings" 42 "CageLift$Rings" "line" "[I" ∈ aj_TB := aj_memL (aj_t2 (List.mem_of_getElem? (i := 101) (by decide +kernel))) (by decide +kernel)
set_option maxRecDepth 20000 in
theorem wd471 : Cond.fieldLink "CageLift$Rings" 45 "CageLift$Rings" "used" "J" ∈ aj_TB := aj_memL (aj_t2 (List.mem_of_getElem? (i := 102) (by decide +kernel))) (by decide +kernel)
set_option maxRecDepth 20000 in
theorem wd501 : Cond.fieldLink "CageLift$Hunt" 11 "CageLift$Hunt" "degree" "I" ∈ aj_TB := aj_memL (aj_t2 (List.mem_of_getElem? (i := 132) (by decide +kernel))) (by decide +kernel)
set_option maxRecDepth 20000 in
theorem wd502 : Cond.fieldLink "CageLift$Hunt" 15 "CageLift$Hunt" "ring" "I" ∈ aj_TB := aj_memL (aj_t2 (List.mem_of_getElem? (i := 133) (by decide +kernel))) (by decide +kernel)
set_option maxRecDepth 20000 in
theorem wd503 : Cond.fieldLink "CageLift$Hunt" 18 "CageLift$Hunt" "nodes" "I" ∈ aj_TB := aj_memL (aj_t2 (List.mem_of_getElem? (i := 134) (by decide +kernel))) (by decide +kernel)
set_option maxRecDepth 20000 in
theorem wd504 : Cond.fieldLink "CageLift$Hunt" 21 "CageLift$Hunt" "outcome" "I" ∈ aj_TB := aj_memL (aj_t2 (List.mem_of_getElem? (i := 135) (by decide +kernel))) (by decide +kernel)
set_option maxRecDepth 20000 in
theorem wd505 : Cond.fieldLink "CageLift" 345 "CageLift$Hunt" "outcome" "I" ∈ aj_TB := aj_memL (aj_t2 (List.mem_of_getElem? (i := 136) (by decide +kernel))) (by decide +kernel)
set_option maxRecDepth 20000 in
theorem wd506 : Cond.fieldLink "CageLift$Hunt" 24 "CageLift$Hunt" "steps" "I" ∈ aj_TB := aj_memL (aj_t2 (List.mem_of_getElem? (i := 137) (by decide +kernel))) (by decide +kernel)
set_option maxRecDepth 20000 in
theorem wd507 : Cond.fieldLink "CageLift" 348 "CageLift$Hunt" "steps" "I" ∈ aj_TB := aj_memL (aj_t2 (List.mem_of_getElem? (i := 138) (by decide +kernel))) (by decide +kernel)
set_option maxRecDepth 20000 in
theorem wd508 : Cond.fieldLink "CageLift$Hunt" 27 "CageLift$Hunt" "shutTimes" "I" ∈ aj_TB := aj_memL (aj_t2 (List.mem_of_getElem? (i := 139) (by decide +kernel))) (by decide +kernel)
set_option maxRecDepth 20000 in
theorem wd509 : Cond.fieldLink "CageLift" 351 "CageLift$Hunt" "shutTimes" "I" ∈ aj_TB := aj_memL (aj_t2 (List.mem_of_getElem? (i := 140) (by decide +kernel))) (by decide +kernel)
set_option maxRecDepth 20000 in
theorem wd510 : Cond.fieldLink "CageLift$Hunt" 30 "CageLift$Hunt" "near" "[I" ∈ aj_TB := aj_memL (aj_t2 (List.mem_of_getElem? (i := 141) (by decide +kernel))) (by decide +kernel)
set_option maxRecDepth 20000 in
theorem wd511 : Cond.fieldLink "CageLift" 354 "CageLift$Hunt" "near" "[I" ∈ aj_TB := aj_memL (aj_t2 (List.mem_of_getElem? (i := 142) (by decide +kernel))) (by decide +kernel)
set_option maxRecDepth 20000 in
theorem wd512 : Cond.fieldLink "CageLift$Hunt" 34 "CageLift$Hunt" "shut" "[I" ∈ aj_TB := aj_memL (aj_t2 (List.mem_of_getElem? (i := 143) (by decide +kernel))) (by decide +kernel)
set_option maxRecDepth 20000 in
theorem wd539 : Cond.fieldLink "CageLift$Image" 10 "CageLift$Image" "plan" "LCageLift$Plan;" ∈ aj_TB := aj_memL (aj_t2 (List.mem_of_getElem? (i := 170) (by decide +kernel))) (by decide +kernel)
set_option maxRecDepth 20000 in
theorem wd540 : Cond.fieldLink "CageLift$Image" 19 "CageLift$Image" "setting" "LCageLift$Setting;" ∈ aj_TB := aj_memL (aj_t2 (List.mem_of_getElem? (i := 171) (by decide +kernel))) (by decide +kernel)
set_option maxRecDepth 20000 in
theorem wd541 : Cond.fieldLink "CageLift$Image" 23 "CageLift$Image" "made" "Z" ∈ aj_TB := aj_memL (aj_t2 (List.mem_of_getElem? (i := 172) (by decide +kernel))) (by decide +kernel)
set_option maxRecDepth 20000 in
theorem wd542 : Cond.fieldLink "CageLift" 399 "CageLift$Image" "made" "Z" ∈ aj_TB := aj_memL (aj_t2 (List.mem_of_getElem? (i := 173) (by decide +kernel))) (by decide +kernel)
set_option maxRecDepth 20000 in
theorem wd555 : Cond.fieldLink "CageLift$Tray" 9 "CageLift$Tray" "values" "[J" ∈ aj_TB := aj_memL (aj_t2 (List.mem_of_getElem? (i := 186) (by decide +kernel))) (by decide +kernel)
set_option maxRecDepth 20000 in
theorem wd556 : Cond.fieldLink "CageLift" 201 "CageLift$Tray" "values" "[J" ∈ aj_TB := aj_memL (aj_t2 (List.mem_of_getElem? (i := 187) (by decide +kernel))) (by decide +kernel)
set_option maxRecDepth 20000 in
theorem wd557 : Cond.fieldLink "CageLift$Tray" 15 "CageLift$Tray" "sort" "I" ∈ aj_TB := aj_memL (aj_t2 (List.mem_of_getElem? (i := 188) (by decide +kernel))) (by decide +kernel)
set_option maxRecDepth 20000 in
theorem wd558 : Cond.fieldLink "CageLift$Tray" 19 "CageLift$Tray" "size" "I" ∈ aj_TB := aj_memL (aj_t2 (List.mem_of_getElem? (i := 189) (by decide +kernel))) (by decide +kernel)
set_option maxRecDepth 20000 in
theorem wd559 : Cond.fieldLink "CageLift" 198 "CageLift$Tray" "size" "I" ∈ aj_TB := aj_memL (aj_t2 (List.mem_of_getElem? (i := 190) (by decide +kernel))) (by decide +kernel)
set_option maxRecDepth 20000 in
theorem wd568 : Cond.fieldLink "CageLift" 12 "CageLift" "reader" "LCageLift$Reader;" ∈ aj_TB := aj_memL (aj_t2 (List.mem_of_getElem? (i := 199) (by decide +kernel))) (by decide +kernel)
set_option maxRecDepth 20000 in
theorem wd569 : Cond.fieldLink "CageLift" 19 "CageLift" "plan" "LCageLift$Plan;" ∈ aj_TB := aj_memL (aj_t2 (List.mem_of_getElem? (i := 200) (by decide +kernel))) (by decide +kernel)
set_option maxRecDepth 20000 in
theorem wd570 : Cond.fieldLink "CageLift" 26 "CageLift" "now" "LCageLift$Setting;" ∈ aj_TB := aj_memL (aj_t2 (List.mem_of_getElem? (i := 201) (by decide +kernel))) (by decide +kernel)
set_option maxRecDepth 20000 in
theorem wd571 : Cond.fieldLink "CageLift" 30 "CageLift" "before" "LCageLift$Setting;" ∈ aj_TB := aj_memL (aj_t2 (List.mem_of_getElem? (i := 202) (by decide +kernel))) (by decide +kernel)
set_option maxRecDepth 20000 in
theorem wd572 : Cond.fieldLink "CageLift" 33 "CageLift" "trial" "LCageLift$Setting;" ∈ aj_TB := aj_memL (aj_t2 (List.mem_of_getElem? (i := 203) (by decide +kernel))) (by decide +kernel)
set_option maxRecDepth 20000 in
theorem wd573 : Cond.fieldLink "CageLift" 39 "CageLift" "history" "LCageLift$History;" ∈ aj_TB := aj_memL (aj_t2 (List.mem_of_getElem? (i := 204) (by decide +kernel))) (by decide +kernel)
set_option maxRecDepth 20000 in
theorem wd574 : Cond.fieldLink "CageLift" 45 "CageLift" "images" "[LCageLift$Image;" ∈ aj_TB := aj_memL (aj_t2 (List.mem_of_getElem? (i := 205) (by decide +kernel))) (by decide +kernel)
set_option maxRecDepth 20000 in
theorem wd575 : Cond.fieldLink "CageLift" 51 "CageLift" "trays" "[LCageLift$Tray;" ∈ aj_TB := aj_memL (aj_t2 (List.mem_of_getElem? (i := 206) (by decide +kernel))) (by decide +kernel)
set_option maxRecDepth 20000 in
theorem wd576 : Cond.fieldLink "CageLift" 58 "CageLift" "loops" "LCageLift$Rings;" ∈ aj_TB := aj_memL (aj_t2 (List.mem_of_getElem? (i := 207) (by decide +kernel))) (by decide +kernel)
set_option maxRecDepth 20000 in
theorem wd577 : Cond.fieldLink "CageLift" 65 "CageLift" "guess" "LCageLift$Network;" ∈ aj_TB := aj_memL (aj_t2 (List.mem_of_getElem? (i := 208) (by decide +kernel))) (by decide +kernel)
set_option maxRecDepth 20000 in
theorem wd578 : Cond.fieldLink "CageLift" 72 "CageLift" "hunt" "LCageLift$Hunt;" ∈ aj_TB := aj_memL (aj_t2 (List.mem_of_getElem? (i := 209) (by decide +kernel))) (by decide +kernel)
set_option maxRecDepth 20000 in
theorem wd579 : Cond.fieldLink "CageLift" 76 "CageLift" "weights" "[I" ∈ aj_TB := aj_memL (aj_t2 (List.mem_of_getElem? (i := 210) (by decide +kernel))) (by decide +kernel)
set_option maxRecDepth 20000 in
theorem wd580 : Cond.fieldLink "CageLift" 80 "CageLift" "stale" "Z" ∈ aj_TB := aj_memL (aj_t2 (List.mem_of_getElem? (i := 211) (by decide +kernel))) (by decide +kernel)
set_option maxRecDepth 20000 in
theorem wd608 : Cond.methodLink "CageLiftLaw" 13 ⟨"CageLift", "feed", "(IIIII)I"⟩ ∈ aj_TB := aj_memL (aj_t2 (List.mem_of_getElem? (i := 239) (by decide +kernel))) (by decide +kernel)
set_option maxRecDepth 20000 in
theorem wd130 : Cond.initialized "CageLift" ∈ aj_TB := aj_memL (aj_t1 (List.mem_of_getElem? (i := 1) (by decide +kernel))) (by decide +kernel)
set_option maxRecDepth 20000 in
theorem wd611 : Cond.code ⟨"CageLift", "feed", "(IIIII)I"⟩ prog_1_method_2_code 6 (Option.some FieldType.int) ∈ aj_TB := aj_memL (aj_t3 (List.mem_of_getElem? (i := 2) (by decide +kernel))) (by decide +kernel)
set_option maxRecDepth 20000 in
theorem wd609 : Cond.instanceMethod ⟨"CageLift", "feed", "(IIIII)I"⟩ ∈ aj_TB := aj_memL (aj_t3 (List.mem_of_getElem? (i := 0) (by decide +kernel))) (by decide +kernel)
set_option maxRecDepth 20000 in
theorem wd610 : Cond.selects "CageLift" ⟨"CageLift", "feed", "(IIIII)I"⟩ ⟨"CageLift", "feed", "(IIIII)I"⟩ ∈ aj_TB := aj_memL (aj_t3 (List.mem_of_getElem? (i := 1) (by decide +kernel))) (by decide +kernel)
set_option maxRecDepth 20000 in
theorem wd612 : Cond.methodLink "CageLift" 90 ⟨"CageLift$Reader", "layFour", "(I)V"⟩ ∈ aj_TB := aj_memL (aj_t3 (List.mem_of_getElem? (i := 3) (by decide +kernel))) (by decide +kernel)
set_option maxRecDepth 20000 in
theorem wd131 : Cond.initialized "CageLift$Reader" ∈ aj_TB := aj_memL (aj_t1 (List.mem_of_getElem? (i := 2) (by decide +kernel))) (by decide +kernel)
set_option maxRecDepth 20000 in
theorem wd615 : Cond.code ⟨"CageLift$Reader", "layFour", "(I)V"⟩ prog_9_method_2_code 3 (Option.none : Option FieldType) ∈ aj_TB := aj_memL (aj_t3 (List.mem_of_getElem? (i := 6) (by decide +kernel))) (by decide +kernel)
set_option maxRecDepth 20000 in
theorem wd613 : Cond.instanceMethod ⟨"CageLift$Reader", "layFour", "(I)V"⟩ ∈ aj_TB := aj_memL (aj_t3 (List.mem_of_getElem? (i := 4) (by decide +kernel))) (by decide +kernel)
set_option maxRecDepth 20000 in
theorem wd614 : Cond.selects "CageLift$Reader" ⟨"CageLift$Reader", "layFour", "(I)V"⟩ ⟨"CageLift$Reader", "layFour", "(I)V"⟩ ∈ aj_TB := aj_memL (aj_t3 (List.mem_of_getElem? (i := 5) (by decide +kernel))) (by decide +kernel)
set_option maxRecDepth 20000 in
theorem wd616 : Cond.methodLink "CageLiftLaw" 18 ⟨"CageLift", "works", "(I)I"⟩ ∈ aj_TB := aj_memL (aj_t3 (List.mem_of_getElem? (i := 7) (by decide +kernel))) (by decide +kernel)
set_option maxRecDepth 20000 in
theorem wd619 : Cond.code ⟨"CageLift", "works", "(I)I"⟩ prog_1_method_3_code 2 (Option.some FieldType.int) ∈ aj_TB := aj_memL (aj_t3 (List.mem_of_getElem? (i := 10) (by decide +kernel))) (by decide +kernel)
set_option maxRecDepth 20000 in
theorem wd617 : Cond.instanceMethod ⟨"CageLift", "works", "(I)I"⟩ ∈ aj_TB := aj_memL (aj_t3 (List.mem_of_getElem? (i := 8) (by decide +kernel))) (by decide +kernel)
set_option maxRecDepth 20000 in
theorem wd618 : Cond.selects "CageLift" ⟨"CageLift", "works", "(I)I"⟩ ⟨"CageLift", "works", "(I)I"⟩ ∈ aj_TB := aj_memL (aj_t3 (List.mem_of_getElem? (i := 9) (by decide +kernel))) (by decide +kernel)
set_option maxRecDepth 20000 in
theorem wd620 : Cond.methodLink "CageLift" 94 ⟨"CageLift$Reader", "readAll", "(I)Z"⟩ ∈ aj_TB := aj_memL (aj_t3 (List.mem_of_getElem? (i := 11) (by decide +kernel))) (by decide +kernel)
set_option maxRecDepth 20000 in
theorem wd623 : Cond.code ⟨"CageLift$Reader", "readAll", "(I)Z"⟩ prog_9_method_3_code 3 (Option.some FieldType.boolean) ∈ aj_TB := aj_memL (aj_t3 (List.mem_of_getElem? (i := 14) (by decide +kernel))) (by decide +kernel)
set_option maxRecDepth 20000 in
theorem wd621 : Cond.instanceMethod ⟨"CageLift$Reader", "readAll", "(I)Z"⟩ ∈ aj_TB := aj_memL (aj_t3 (List.mem_of_getElem? (i := 12) (by decide +kernel))) (by decide +kernel)
set_option maxRecDepth 20000 in
theorem wd622 : Cond.selects "CageLift$Reader" ⟨"CageLift$Reader", "readAll", "(I)Z"⟩ ⟨"CageLift$Reader", "readAll", "(I)Z"⟩ ∈ aj_TB := aj_memL (aj_t3 (List.mem_of_getElem? (i := 13) (by decide +kernel))) (by decide +kernel)
set_option maxRecDepth 20000 in
theorem wd624 : Cond.methodLink "CageLift$Reader" 51 ⟨"java/lang/Math", "min", "(II)I"⟩ ∈ aj_TB := aj_memL (aj_t3 (List.mem_of_getElem? (i := 15) (by decide +kernel))) (by decide +kernel)
set_option maxRecDepth 20000 in
theorem wd143 : Cond.initialized "java/lang/Math" ∈ aj_TB := aj_memL (aj_t1 (List.mem_of_getElem? (i := 14) (by decide +kernel))) (by decide +kernel)
set_option maxRecDepth 20000 in
theorem wd626 : Cond.code ⟨"java/lang/Math", "min", "(II)I"⟩ prog_17_method_69_code 2 (Option.some FieldType.int) ∈ aj_TB := aj_memL (aj_t3 (List.mem_of_getElem? (i := 17) (by decide +kernel))) (by decide +kernel)
set_option maxRecDepth 20000 in
theorem wd625 : Cond.static ⟨"java/lang/Math", "min", "(II)I"⟩ ∈ aj_TB := aj_memL (aj_t3 (List.mem_of_getElem? (i := 16) (by decide +kernel))) (by decide +kernel)
set_option maxRecDepth 20000 in
theorem wd627 : Cond.methodLink "CageLift$Reader" 57 ⟨"CageLift$Plan", "clear", "()V"⟩ ∈ aj_TB := aj_memL (aj_t3 (List.mem_of_getElem? (i := 18) (by decide +kernel))) (by decide +kernel)
set_option maxRecDepth 20000 in
theorem wd132 : Cond.initialized "CageLift$Plan" ∈ aj_TB := aj_memL (aj_t1 (List.mem_of_getElem? (i := 3) (by decide +kernel))) (by decide +kernel)
set_option maxRecDepth 20000 in
theorem wd630 : Cond.code ⟨"CageLift$Plan", "clear", "()V"⟩ prog_8_method_2_code 1 (Option.none : Option FieldType) ∈ aj_TB := aj_memL (aj_t3 (List.mem_of_getElem? (i := 21) (by decide +kernel))) (by decide +kernel)
set_option maxRecDepth 20000 in
theorem wd628 : Cond.instanceMethod ⟨"CageLift$Plan", "clear", "()V"⟩ ∈ aj_TB := aj_memL (aj_t3 (List.mem_of_getElem? (i := 19) (by decide +kernel))) (by decide +kernel)
set_option maxRecDepth 20000 in
theorem wd629 : Cond.selects "CageLift$Plan" ⟨"CageLift$Plan", "clear", "()V"⟩ ⟨"CageLift$Plan", "clear", "()V"⟩ ∈ aj_TB := aj_memL (aj_t3 (List.mem_of_getElem? (i := 20) (by decide +kernel))) (by decide +kernel)
set_option maxRecDepth 20000 in
theorem wd631 : Cond.methodLink "CageLift$Plan" 57 ⟨"CageLift$Group", "makeProduct", "(II)V"⟩ ∈ aj_TB := aj_memL (aj_t3 (List.mem_of_getElem? (i := 22) (by decide +kernel))) (by decide +kernel)
set_option maxRecDepth 20000 in
theorem wd133 : Cond.initialized "CageLift$Group" ∈ aj_TB := aj_memL (aj_t1 (List.mem_of_getElem? (i := 4) (by decide +kernel))) (by decide +kernel)
set_option maxRecDepth 20000 in
theorem wd634 : Cond.code ⟨"CageLift$Group", "makeProduct", "(II)V"⟩ prog_2_method_4_code 5 (Option.none : Option FieldType) ∈ aj_TB := aj_memL (aj_t3 (List.mem_of_getElem? (i := 25) (by decide +kernel))) (by decide +kernel)
set_option maxRecDepth 20000 in
theorem wd632 : Cond.instanceMethod ⟨"CageLift$Group", "makeProduct", "(II)V"⟩ ∈ aj_TB := aj_memL (aj_t3 (List.mem_of_getElem? (i := 23) (by decide +kernel))) (by decide +kernel)
set_option maxRecDepth 20000 in
theorem wd633 : Cond.selects "CageLift$Group" ⟨"CageLift$Group", "makeProduct", "(II)V"⟩ ⟨"CageLift$Group", "makeProduct", "(II)V"⟩ ∈ aj_TB := aj_memL (aj_t3 (List.mem_of_getElem? (i := 24) (by decide +kernel))) (by decide +kernel)
set_option maxRecDepth 20000 in
theorem wd635 : Cond.methodLink "CageLift$Group" 29 ⟨"CageLift$Group", "settle", "()V"⟩ ∈ aj_TB := aj_memL (aj_t3 (List.mem_of_getElem? (i := 26) (by decide +kernel))) (by decide +kernel)
set_option maxRecDepth 20000 in
theorem wd638 : Cond.code ⟨"CageLift$Group", "settle", "()V"⟩ prog_2_method_7_code 5 (Option.none : Option FieldType) ∈ aj_TB := aj_memL (aj_t3 (List.mem_of_getElem? (i := 29) (by decide +kernel))) (by decide +kernel)
set_option maxRecDepth 20000 in
theorem wd637 : Cond.instanceMethod ⟨"CageLift$Group", "settle", "()V"⟩ ∈ aj_TB := aj_memL (aj_t3 (List.mem_of_getElem? (i := 28) (by decide +kernel))) (by decide +kernel)
set_option maxRecDepth 20000 in
theorem wd0 : Cond.selects "CageLift$Group" ⟨"CageLift$Group", "settle", "()V"⟩ ⟨"CageLift$Group", "settle", "()V"⟩ ∈ aj_TB := aj_memL (List.mem_append_left _ (List.mem_of_getElem? (i := 0) (by decide +kernel))) (by decide +kernel)
set_option maxRecDepth 20000 in
theorem wd639 : Cond.methodLink "CageLift$Group" 35 ⟨"CageLift$Group", "times", "(II)I"⟩ ∈ aj_TB := aj_memL (aj_t3 (List.mem_of_getElem? (i := 30) (by decide +kernel))) (by decide +kernel)
set_option maxRecDepth 20000 in
theorem wd642 : Cond.code ⟨"CageLift$Group", "times", "(II)I"⟩ prog_2_method_3_code 3 (Option.some FieldType.int) ∈ aj_TB := aj_memL (aj_t3 (List.mem_of_getElem? (i := 33) (by decide +kernel))) (by decide +kernel)
set_option maxRecDepth 20000 in
theorem wd640 : Cond.instanceMethod ⟨"CageLift$Group", "times", "(II)I"⟩ ∈ aj_TB := aj_memL (aj_t3 (List.mem_of_getElem? (i := 31) (by decide +kernel))) (by decide +kernel)
set_option maxRecDepth 20000 in
theorem wd641 : Cond.selects "CageLift$Group" ⟨"CageLift$Group", "times", "(II)I"⟩ ⟨"CageLift$Group", "times", "(II)I"⟩ ∈ aj_TB := aj_memL (aj_t3 (List.mem_of_getElem? (i := 32) (by decide +kernel))) (by decide +kernel)
set_option maxRecDepth 20000 in
theorem wd643 : Cond.methodLink "CageLift$Group" 25 ⟨"CageLift$Group", "has", "(I)Z"⟩ ∈ aj_TB := aj_memL (aj_t3 (List.mem_of_getElem? (i := 34) (by decide +kernel))) (by decide +kernel)
set_option maxRecDepth 20000 in
theorem wd646 : Cond.code ⟨"CageLift$Group", "has", "(I)Z"⟩ prog_2_method_2_code 2 (Option.some FieldType.boolean) ∈ aj_TB := aj_memL (aj_t3 (List.mem_of_getElem? (i := 37) (by decide +kernel))) (by decide +kernel)
set_option maxRecDepth 20000 in
theorem wd644 : Cond.instanceMethod ⟨"CageLift$Group", "has", "(I)Z"⟩ ∈ aj_TB := aj_memL (aj_t3 (List.mem_of_getElem? (i := 35) (by decide +kernel))) (by decide +kernel)
set_option maxRecDepth 20000 in
theorem wd645 : Cond.selects "CageLift$Group" ⟨"CageLift$Group", "has", "(I)Z"⟩ ⟨"CageLift$Group", "has", "(I)Z"⟩ ∈ aj_TB := aj_memL (aj_t3 (List.mem_of_getElem? (i := 36) (by decide +kernel))) (by decide +kernel)
set_option maxRecDepth 20000 in
theorem wd647 : Cond.methodLink "CageLift$Plan" 61 ⟨"CageLift$Laws", "clear", "()V"⟩ ∈ aj_TB := aj_memL (aj_t3 (List.mem_of_getElem? (i := 38) (by decide +kernel))) (by decide +kernel)
set_option maxRecDepth 20000 in
theorem wd134 : Cond.initialized "CageLift$Laws" ∈ aj_TB := aj_memL (aj_t1 (List.mem_of_getElem? (i := 5) (by decide +kernel))) (by decide +kernel)
set_option maxRecDepth 20000 in
theorem wd650 : Cond.code ⟨"CageLift$Laws", "clear", "()V"⟩ prog_6_method_2_code 1 (Option.none : Option FieldType) ∈ aj_TB := aj_memL (aj_t3 (List.mem_of_getElem? (i := 41) (by decide +kernel))) (by decide +kernel)
set_option maxRecDepth 20000 in
theorem wd648 : Cond.instanceMethod ⟨"CageLift$Laws", "clear", "()V"⟩ ∈ aj_TB := aj_memL (aj_t3 (List.mem_of_getElem? (i := 39) (by decide +kernel))) (by decide +kernel)
set_option maxRecDepth 20000 in
theorem wd649 : Cond.selects "CageLift$Laws" ⟨"CageLift$Laws", "clear", "()V"⟩ ⟨"CageLift$Laws", "clear", "()V"⟩ ∈ aj_TB := aj_memL (aj_t3 (List.mem_of_getElem? (i := 40) (by decide +kernel))) (by decide +kernel)
set_option maxRecDepth 20000 in
theorem wd651 : Cond.methodLink "CageLift$Reader" 60 ⟨"CageLift$Reader", "step", "()V"⟩ ∈ aj_TB := aj_memL (aj_t3 (List.mem_of_getElem? (i := 42) (by decide +kernel))) (by decide +kernel)
set_option maxRecDepth 20000 in
theorem wd654 : Cond.code ⟨"CageLift$Reader", "step", "()V"⟩ prog_9_method_25_code 2 (Option.none : Option FieldType) ∈ aj_TB := aj_memL (aj_t3 (List.mem_of_getElem? (i := 45) (by decide +kernel))) (by decide +kernel)
set_option maxRecDepth 20000 in
theorem wd653 : Cond.instanceMethod ⟨"CageLift$Reader", "step", "()V"⟩ ∈ aj_TB := aj_memL (aj_t3 (List.mem_of_getElem? (i := 44) (by decide +kernel))) (by decide +kernel)
set_option maxRecDepth 20000 in
theorem wd1 : Cond.selects "CageLift$Reader" ⟨"CageLift$Reader", "step", "()V"⟩ ⟨"CageLift$Reader", "step", "()V"⟩ ∈ aj_TB := aj_memL (List.mem_append_left _ (List.mem_of_getElem? (i := 1) (by decide +kernel))) (by decide +kernel)
set_option maxRecDepth 20000 in
theorem wd655 : Cond.methodLink "CageLift$Reader" 197 ⟨"CageLift$Reader", "wordToken", "(I)I"⟩ ∈ aj_TB := aj_memL (aj_t3 (List.mem_of_getElem? (i := 46) (by decide +kernel))) (by decide +kernel)
set_option maxRecDepth 20000 in
theorem wd658 : Cond.code ⟨"CageLift$Reader", "wordToken", "(I)I"⟩ prog_9_method_26_code 5 (Option.some FieldType.int) ∈ aj_TB := aj_memL (aj_t3 (List.mem_of_getElem? (i := 49) (by decide +kernel))) (by decide +kernel)
set_option maxRecDepth 20000 in
theorem wd657 : Cond.instanceMethod ⟨"CageLift$Reader", "wordToken", "(I)I"⟩ ∈ aj_TB := aj_memL (aj_t3 (List.mem_of_getElem? (i := 48) (by decide +kernel))) (by decide +kernel)
set_option maxRecDepth 20000 in
theorem wd2 : Cond.selects "CageLift$Reader" ⟨"CageLift$Reader", "wordToken", "(I)I"⟩ ⟨"CageLift$Reader", "wordToken", "(I)I"⟩ ∈ aj_TB := aj_memL (List.mem_append_left _ (List.mem_of_getElem? (i := 2) (by decide +kernel))) (by decide +kernel)
set_option maxRecDepth 20000 in
theorem wd660 : Cond.methodLink "CageLift$Reader" 210 ⟨"java/lang/String", "length", "()I"⟩ ∈ aj_TB := aj_memL (aj_t3 (List.mem_of_getElem? (i := 51) (by decide +kernel))) (by decide +kernel)
set_option maxRecDepth 20000 in
theorem wd144 : Cond.initialized "java/lang/String" ∈ aj_TB := aj_memL (aj_t1 (List.mem_of_getElem? (i := 15) (by decide +kernel))) (by decide +kernel)
set_option maxRecDepth 20000 in
theorem wd663 : Cond.code ⟨"java/lang/String", "length", "()I"⟩ prog_18_method_54_code 1 (Option.some FieldType.int) ∈ aj_TB := aj_memL (aj_t3 (List.mem_of_getElem? (i := 54) (by decide +kernel))) (by decide +kernel)
set_option maxRecDepth 20000 in
theorem wd661 : Cond.instanceMethod ⟨"java/lang/String", "length", "()I"⟩ ∈ aj_TB := aj_memL (aj_t3 (List.mem_of_getElem? (i := 52) (by decide +kernel))) (by decide +kernel)
set_option maxRecDepth 20000 in
theorem wd662 : Cond.selects "java/lang/String" ⟨"java/lang/String", "length", "()I"⟩ ⟨"java/lang/String", "length", "()I"⟩ ∈ aj_TB := aj_memL (aj_t3 (List.mem_of_getElem? (i := 53) (by decide +kernel))) (by decide +kernel)
set_option maxRecDepth 20000 in
theorem wd664 : Cond.methodLink "java/lang/String" 335 ⟨"java/lang/String", "coder", "()B"⟩ ∈ aj_TB := aj_memL (aj_t3 (List.mem_of_getElem? (i := 55) (by decide +kernel))) (by decide +kernel)
set_option maxRecDepth 20000 in
theorem wd667 : Cond.code ⟨"java/lang/String", "coder", "()B"⟩ prog_18_method_152_code 1 (Option.some FieldType.byte) ∈ aj_TB := aj_memL (aj_t3 (List.mem_of_getElem? (i := 58) (by decide +kernel))) (by decide +kernel)
set_option maxRecDepth 20000 in
theorem wd665 : Cond.instanceMethod ⟨"java/lang/String", "coder", "()B"⟩ ∈ aj_TB := aj_memL (aj_t3 (List.mem_of_getElem? (i := 56) (by decide +kernel))) (by decide +kernel)
set_option maxRecDepth 20000 in
theorem wd666 : Cond.selects "java/lang/String" ⟨"java/lang/String", "coder", "()B"⟩ ⟨"java/lang/String", "coder", "()B"⟩ ∈ aj_TB := aj_memL (aj_t3 (List.mem_of_getElem? (i := 57) (by decide +kernel))) (by decide +kernel)
set_option maxRecDepth 20000 in
theorem wd670 : Cond.methodLink "CageLift$Reader" 213 ⟨"java/lang/String", "charAt", "(I)C"⟩ ∈ aj_TB := aj_memL (aj_t3 (List.mem_of_getElem? (i := 61) (by decide +kernel))) (by decide +kernel)
set_option maxRecDepth 20000 in
theorem wd673 : Cond.code ⟨"java/lang/String", "charAt", "(I)C"⟩ prog_18_method_56_code 2 (Option.some FieldType.char) ∈ aj_TB := aj_memL (aj_t3 (List.mem_of_getElem? (i := 64) (by decide +kernel))) (by decide +kernel)
set_option maxRecDepth 20000 in
theorem wd671 : Cond.instanceMethod ⟨"java/lang/String", "charAt", "(I)C"⟩ ∈ aj_TB := aj_memL (aj_t3 (List.mem_of_getElem? (i := 62) (by decide +kernel))) (by decide +kernel)
set_option maxRecDepth 20000 in
theorem wd672 : Cond.selects "java/lang/String" ⟨"java/lang/String", "charAt", "(I)C"⟩ ⟨"java/lang/String", "charAt", "(I)C"⟩ ∈ aj_TB := aj_memL (aj_t3 (List.mem_of_getElem? (i := 63) (by decide +kernel))) (by decide +kernel)
set_option maxRecDepth 20000 in
theorem wd674 : Cond.methodLink "java/lang/String" 492 ⟨"java/lang/String", "isLatin1", "()Z"⟩ ∈ aj_TB := aj_memL (aj_t3 (List.mem_of_getElem? (i := 65) (by decide +kernel))) (by decide +kernel)
set_option maxRecDepth 20000 in
theorem wd677 : Cond.code ⟨"java/lang/String", "isLatin1", "()Z"⟩ prog_18_method_154_code 1 (Option.some FieldType.boolean) ∈ aj_TB := aj_memL (aj_t3 (List.mem_of_getElem? (i := 68) (by decide +kernel))) (by decide +kernel)
set_option maxRecDepth 20000 in
theorem wd675 : Cond.instanceMethod ⟨"java/lang/String", "isLatin1", "()Z"⟩ ∈ aj_TB := aj_memL (aj_t3 (List.mem_of_getElem? (i := 66) (by decide +kernel))) (by decide +kernel)
set_option maxRecDepth 20000 in
theorem wd676 : Cond.selects "java/lang/String" ⟨"java/lang/String", "isLatin1", "()Z"⟩ ⟨"java/lang/String", "isLatin1", "()Z"⟩ ∈ aj_TB := aj_memL (aj_t3 (List.mem_of_getElem? (i := 67) (by decide +kernel))) (by decide +kernel)
set_option maxRecDepth 20000 in
theorem wd678 : Cond.methodLink "java/lang/String" 495 ⟨"java/lang/StringLatin1", "charAt", "([BI)C"⟩ ∈ aj_TB := aj_memL (aj_t3 (List.mem_of_getElem? (i := 69) (by decide +kernel))) (by decide +kernel)
set_option maxRecDepth 20000 in
theorem wd145 : Cond.initialized "java/lang/StringLatin1" ∈ aj_TB := aj_memL (aj_t1 (List.mem_of_getElem? (i := 16) (by decide +kernel))) (by decide +kernel)
set_option maxRecDepth 20000 in
theorem wd680 : Cond.code ⟨"java/lang/StringLatin1", "charAt", "([BI)C"⟩ prog_19_method_2_code 2 (Option.some FieldType.char) ∈ aj_TB := aj_memL (aj_t3 (List.mem_of_getElem? (i := 71) (by decide +kernel))) (by decide +kernel)
set_option maxRecDepth 20000 in
theorem wd679 : Cond.static ⟨"java/lang/StringLatin1", "charAt", "([BI)C"⟩ ∈ aj_TB := aj_memL (aj_t3 (List.mem_of_getElem? (i := 70) (by decide +kernel))) (by decide +kernel)
set_option maxRecDepth 20000 in
theorem wd681 : Cond.methodLink "java/lang/StringLatin1" 9 ⟨"java/lang/String", "checkIndex", "(II)V"⟩ ∈ aj_TB := aj_memL (aj_t3 (List.mem_of_getElem? (i := 72) (by decide +kernel))) (by decide +kernel)
set_option maxRecDepth 20000 in
theorem wd683 : Cond.code ⟨"java/lang/String", "checkIndex", "(II)V"⟩ prog_18_method_155_code 2 (Option.none : Option FieldType) ∈ aj_TB := aj_memL (aj_t3 (List.mem_of_getElem? (i := 74) (by decide +kernel))) (by decide +kernel)
set_option maxRecDepth 20000 in
theorem wd682 : Cond.static ⟨"java/lang/String", "checkIndex", "(II)V"⟩ ∈ aj_TB := aj_memL (aj_t3 (List.mem_of_getElem? (i := 73) (by decide +kernel))) (by decide +kernel)
set_option maxRecDepth 20000 in
theorem wd686 : Cond.methodLink "java/lang/String" 1059 ⟨"jdk/internal/util/Preconditions", "checkIndex", "(IILjava/util/function/BiFunction;)I"⟩ ∈ aj_TB := aj_memL (aj_t3 (List.mem_of_getElem? (i := 77) (by decide +kernel))) (by decide +kernel)
set_option maxRecDepth 20000 in
theorem wd146 : Cond.initialized "jdk/internal/util/Preconditions" ∈ aj_TB := aj_memL (aj_t1 (List.mem_of_getElem? (i := 17) (by decide +kernel))) (by decide +kernel)
set_option maxRecDepth 20000 in
theorem wd688 : Cond.code ⟨"jdk/internal/util/Preconditions", "checkIndex", "(IILjava/util/function/BiFunction;)I"⟩ prog_23_method_11_code 3 (Option.some FieldType.int) ∈ aj_TB := aj_memL (aj_t3 (List.mem_of_getElem? (i := 79) (by decide +kernel))) (by decide +kernel)
set_option maxRecDepth 20000 in
theorem wd687 : Cond.static ⟨"jdk/internal/util/Preconditions", "checkIndex", "(IILjava/util/function/BiFunction;)I"⟩ ∈ aj_TB := aj_memL (aj_t3 (List.mem_of_getElem? (i := 78) (by decide +kernel))) (by decide +kernel)
set_option maxRecDepth 20000 in
theorem wd689 : Cond.methodLink "java/lang/String" 498 ⟨"java/lang/StringUTF16", "charAt", "([BI)C"⟩ ∈ aj_TB := aj_memL (aj_t3 (List.mem_of_getElem? (i := 80) (by decide +kernel))) (by decide +kernel)
set_option maxRecDepth 20000 in
theorem wd147 : Cond.initialized "java/lang/StringUTF16" ∈ aj_TB := aj_memL (aj_t1 (List.mem_of_getElem? (i := 18) (by decide +kernel))) (by decide +kernel)
set_option maxRecDepth 20000 in
theorem wd691 : Cond.code ⟨"java/lang/StringUTF16", "charAt", "([BI)C"⟩ prog_20_method_83_code 2 (Option.some FieldType.char) ∈ aj_TB := aj_memL (aj_t3 (List.mem_of_getElem? (i := 82) (by decide +kernel))) (by decide +kernel)
set_option maxRecDepth 20000 in
theorem wd690 : Cond.static ⟨"java/lang/StringUTF16", "charAt", "([BI)C"⟩ ∈ aj_TB := aj_memL (aj_t3 (List.mem_of_getElem? (i := 81) (by decide +kernel))) (by decide +kernel)
set_option maxRecDepth 20000 in
theorem wd692 : Cond.methodLink "java/lang/StringUTF16" 67 ⟨"java/lang/StringUTF16", "checkIndex", "(I[B)V"⟩ ∈ aj_TB := aj_memL (aj_t3 (List.mem_of_getElem? (i := 83) (by decide +kernel))) (by decide +kernel)
set_option maxRecDepth 20000 in
theorem wd694 : Cond.code ⟨"java/lang/StringUTF16", "checkIndex", "(I[B)V"⟩ prog_20_method_91_code 2 (Option.none : Option FieldType) ∈ aj_TB := aj_memL (aj_t3 (List.mem_of_getElem? (i := 85) (by decide +kernel))) (by decide +kernel)
set_option maxRecDepth 20000 in
theorem wd693 : Cond.static ⟨"java/lang/StringUTF16", "checkIndex", "(I[B)V"⟩ ∈ aj_TB := aj_memL (aj_t3 (List.mem_of_getElem? (i := 84) (by decide +kernel))) (by decide +kernel)
set_option maxRecDepth 20000 in
theorem wd695 : Cond.methodLink "java/lang/StringUTF16" 48 ⟨"java/lang/StringUTF16", "length", "([B)I"⟩ ∈ aj_TB := aj_memL (aj_t3 (List.mem_of_getElem? (i := 86) (by decide +kernel))) (by decide +kernel)
set_option maxRecDepth 20000 in
theorem wd697 : Cond.code ⟨"java/lang/StringUTF16", "length", "([B)I"⟩ prog_20_method_6_code 1 (Option.some FieldType.int) ∈ aj_TB := aj_memL (aj_t3 (List.mem_of_getElem? (i := 88) (by decide +kernel))) (by decide +kernel)
set_option maxRecDepth 20000 in
theorem wd696 : Cond.static ⟨"java/lang/StringUTF16", "length", "([B)I"⟩ ∈ aj_TB := aj_memL (aj_t3 (List.mem_of_getElem? (i := 87) (by decide +kernel))) (by decide +kernel)
set_option maxRecDepth 20000 in
theorem wd698 : Cond.methodLink "java/lang/StringUTF16" 414 ⟨"java/lang/String", "checkIndex", "(II)V"⟩ ∈ aj_TB := aj_memL (aj_t3 (List.mem_of_getElem? (i := 89) (by decide +kernel))) (by decide +kernel)
set_option maxRecDepth 20000 in
theorem wd699 : Cond.methodLink "java/lang/StringUTF16" 71 ⟨"java/lang/StringUTF16", "getChar", "([BI)C"⟩ ∈ aj_TB := aj_memL (aj_t3 (List.mem_of_getElem? (i := 90) (by decide +kernel))) (by decide +kernel)
set_option maxRecDepth 20000 in
theorem wd701 : Cond.code ⟨"java/lang/StringUTF16", "getChar", "([BI)C"⟩ prog_20_method_5_code 2 (Option.some FieldType.char) ∈ aj_TB := aj_memL (aj_t3 (List.mem_of_getElem? (i := 92) (by decide +kernel))) (by decide +kernel)
set_option maxRecDepth 20000 in
theorem wd700 : Cond.static ⟨"java/lang/StringUTF16", "getChar", "([BI)C"⟩ ∈ aj_TB := aj_memL (aj_t3 (List.mem_of_getElem? (i := 91) (by decide +kernel))) (by decide +kernel)
set_option maxRecDepth 20000 in
theorem wd709 : Cond.methodLink "CageLift$Reader" 203 ⟨"java/lang/String", "indexOf", "(I)I"⟩ ∈ aj_TB := aj_memL (aj_t3 (List.mem_of_getElem? (i := 100) (by decide +kernel))) (by decide +kernel)
set_option maxRecDepth 20000 in
theorem wd712 : Cond.code ⟨"java/lang/String", "indexOf", "(I)I"⟩ prog_18_method_79_code 2 (Option.some FieldType.int) ∈ aj_TB := aj_memL (aj_t3 (List.mem_of_getElem? (i := 103) (by decide +kernel))) (by decide +kernel)
set_option maxRecDepth 20000 in
theorem wd710 : Cond.instanceMethod ⟨"java/lang/String", "indexOf", "(I)I"⟩ ∈ aj_TB := aj_memL (aj_t3 (List.mem_of_getElem? (i := 101) (by decide +kernel))) (by decide +kernel)
set_option maxRecDepth 20000 in
theorem wd711 : Cond.selects "java/lang/String" ⟨"java/lang/String", "indexOf", "(I)I"⟩ ⟨"java/lang/String", "indexOf", "(I)I"⟩ ∈ aj_TB := aj_memL (aj_t3 (List.mem_of_getElem? (i := 102) (by decide +kernel))) (by decide +kernel)
set_option maxRecDepth 20000 in
theorem wd713 : Cond.methodLink "java/lang/String" 633 ⟨"java/lang/String", "indexOf", "(II)I"⟩ ∈ aj_TB := aj_memL (aj_t3 (List.mem_of_getElem? (i := 104) (by decide +kernel))) (by decide +kernel)
set_option maxRecDepth 20000 in
theorem wd716 : Cond.code ⟨"java/lang/String", "indexOf", "(II)I"⟩ prog_18_method_80_code 3 (Option.some FieldType.int) ∈ aj_TB := aj_memL (aj_t3 (List.mem_of_getElem? (i := 107) (by decide +kernel))) (by decide +kernel)
set_option maxRecDepth 20000 in
theorem wd714 : Cond.instanceMethod ⟨"java/lang/String", "indexOf", "(II)I"⟩ ∈ aj_TB := aj_memL (aj_t3 (List.mem_of_getElem? (i := 105) (by decide +kernel))) (by decide +kernel)
set_option maxRecDepth 20000 in
theorem wd715 : Cond.selects "java/lang/String" ⟨"java/lang/String", "indexOf", "(II)I"⟩ ⟨"java/lang/String", "indexOf", "(II)I"⟩ ∈ aj_TB := aj_memL (aj_t3 (List.mem_of_getElem? (i := 106) (by decide +kernel))) (by decide +kernel)
set_option maxRecDepth 20000 in
theorem wd717 : Cond.methodLink "java/lang/String" 505 ⟨"java/lang/String", "length", "()I"⟩ ∈ aj_TB := aj_memL (aj_t3 (List.mem_of_getElem? (i := 108) (by decide +kernel))) (by decide +kernel)
set_option maxRecDepth 20000 in
theorem wd718 : Cond.methodLink "java/lang/String" 637 ⟨"java/lang/StringLatin1", "indexOf", "([BIII)I"⟩ ∈ aj_TB := aj_memL (aj_t3 (List.mem_of_getElem? (i := 109) (by decide +kernel))) (by decide +kernel)
set_option maxRecDepth 20000 in
theorem wd720 : Cond.code ⟨"java/lang/StringLatin1", "indexOf", "([BIII)I"⟩ prog_19_method_22_code 4 (Option.some FieldType.int) ∈ aj_TB := aj_memL (aj_t3 (List.mem_of_getElem? (i := 111) (by decide +kernel))) (by decide +kernel)
set_option maxRecDepth 20000 in
theorem wd719 : Cond.static ⟨"java/lang/StringLatin1", "indexOf", "([BIII)I"⟩ ∈ aj_TB := aj_memL (aj_t3 (List.mem_of_getElem? (i := 110) (by decide +kernel))) (by decide +kernel)
set_option maxRecDepth 20000 in
theorem wd721 : Cond.methodLink "java/lang/StringLatin1" 88 ⟨"java/lang/StringLatin1", "canEncode", "(I)Z"⟩ ∈ aj_TB := aj_memL (aj_t3 (List.mem_of_getElem? (i := 112) (by decide +kernel))) (by decide +kernel)
set_option maxRecDepth 20000 in
theorem wd723 : Cond.code ⟨"java/lang/StringLatin1", "canEncode", "(I)Z"⟩ prog_19_method_4_code 1 (Option.some FieldType.boolean) ∈ aj_TB := aj_memL (aj_t3 (List.mem_of_getElem? (i := 114) (by decide +kernel))) (by decide +kernel)
set_option maxRecDepth 20000 in
theorem wd722 : Cond.static ⟨"java/lang/StringLatin1", "canEncode", "(I)Z"⟩ ∈ aj_TB := aj_memL (aj_t3 (List.mem_of_getElem? (i := 113) (by decide +kernel))) (by decide +kernel)
set_option maxRecDepth 20000 in
theorem wd724 : Cond.methodLink "java/lang/StringLatin1" 92 ⟨"java/lang/Math", "max", "(II)I"⟩ ∈ aj_TB := aj_memL (aj_t3 (List.mem_of_getElem? (i := 115) (by decide +kernel))) (by decide +kernel)
set_option maxRecDepth 20000 in
theorem wd726 : Cond.code ⟨"java/lang/Math", "max", "(II)I"⟩ prog_17_method_65_code 2 (Option.some FieldType.int) ∈ aj_TB := aj_memL (aj_t3 (List.mem_of_getElem? (i := 117) (by decide +kernel))) (by decide +kernel)
set_option maxRecDepth 20000 in
theorem wd725 : Cond.static ⟨"java/lang/Math", "max", "(II)I"⟩ ∈ aj_TB := aj_memL (aj_t3 (List.mem_of_getElem? (i := 116) (by decide +kernel))) (by decide +kernel)
set_option maxRecDepth 20000 in
theorem wd727 : Cond.methodLink "java/lang/StringLatin1" 38 ⟨"java/lang/Math", "min", "(II)I"⟩ ∈ aj_TB := aj_memL (aj_t3 (List.mem_of_getElem? (i := 118) (by decide +kernel))) (by decide +kernel)
set_option maxRecDepth 20000 in
theorem wd728 : Cond.methodLink "java/lang/StringLatin1" 95 ⟨"java/lang/StringLatin1", "indexOfChar", "([BIII)I"⟩ ∈ aj_TB := aj_memL (aj_t3 (List.mem_of_getElem? (i := 119) (by decide +kernel))) (by decide +kernel)
set_option maxRecDepth 20000 in
theorem wd730 : Cond.code ⟨"java/lang/StringLatin1", "indexOfChar", "([BIII)I"⟩ prog_19_method_23_code 6 (Option.some FieldType.int) ∈ aj_TB := aj_memL (aj_t3 (List.mem_of_getElem? (i := 121) (by decide +kernel))) (by decide +kernel)
set_option maxRecDepth 20000 in
theorem wd729 : Cond.static ⟨"java/lang/StringLatin1", "indexOfChar", "([BIII)I"⟩ ∈ aj_TB := aj_memL (aj_t3 (List.mem_of_getElem? (i := 120) (by decide +kernel))) (by decide +kernel)
set_option maxRecDepth 20000 in
theorem wd731 : Cond.methodLink "java/lang/String" 640 ⟨"java/lang/StringUTF16", "indexOf", "([BIII)I"⟩ ∈ aj_TB := aj_memL (aj_t3 (List.mem_of_getElem? (i := 122) (by decide +kernel))) (by decide +kernel)
set_option maxRecDepth 20000 in
theorem wd733 : Cond.code ⟨"java/lang/StringUTF16", "indexOf", "([BIII)I"⟩ prog_20_method_40_code 4 (Option.some FieldType.int) ∈ aj_TB := aj_memL (aj_t3 (List.mem_of_getElem? (i := 124) (by decide +kernel))) (by decide +kernel)
set_option maxRecDepth 20000 in
theorem wd732 : Cond.static ⟨"java/lang/StringUTF16", "indexOf", "([BIII)I"⟩ ∈ aj_TB := aj_memL (aj_t3 (List.mem_of_getElem? (i := 123) (by decide +kernel))) (by decide +kernel)
set_option maxRecDepth 20000 in
theorem wd734 : Cond.methodLink "java/lang/StringUTF16" 224 ⟨"java/lang/Math", "max", "(II)I"⟩ ∈ aj_TB := aj_memL (aj_t3 (List.mem_of_getElem? (i := 125) (by decide +kernel))) (by decide +kernel)
set_option maxRecDepth 20000 in
theorem wd735 : Cond.methodLink "java/lang/StringUTF16" 183 ⟨"java/lang/Math", "min", "(II)I"⟩ ∈ aj_TB := aj_memL (aj_t3 (List.mem_of_getElem? (i := 126) (by decide +kernel))) (by decide +kernel)
set_option maxRecDepth 20000 in
theorem wd737 : Cond.methodLink "java/lang/StringUTF16" 228 ⟨"java/lang/StringUTF16", "indexOfChar", "([BIII)I"⟩ ∈ aj_TB := aj_memL (aj_t3 (List.mem_of_getElem? (i := 128) (by decide +kernel))) (by decide +kernel)
set_option maxRecDepth 20000 in
theorem wd739 : Cond.code ⟨"java/lang/StringUTF16", "indexOfChar", "([BIII)I"⟩ prog_20_method_47_code 4 (Option.some FieldType.int) ∈ aj_TB := aj_memL (aj_t3 (List.mem_of_getElem? (i := 130) (by decide +kernel))) (by decide +kernel)
set_option maxRecDepth 20000 in
theorem wd738 : Cond.static ⟨"java/lang/StringUTF16", "indexOfChar", "([BIII)I"⟩ ∈ aj_TB := aj_memL (aj_t3 (List.mem_of_getElem? (i := 129) (by decide +kernel))) (by decide +kernel)
set_option maxRecDepth 20000 in
theorem wd740 : Cond.methodLink "java/lang/StringUTF16" 96 ⟨"java/lang/StringUTF16", "checkBoundsBeginEnd", "(II[B)V"⟩ ∈ aj_TB := aj_memL (aj_t3 (List.mem_of_getElem? (i := 131) (by decide +kernel))) (by decide +kernel)
set_option maxRecDepth 20000 in
theorem wd742 : Cond.code ⟨"java/lang/StringUTF16", "checkBoundsBeginEnd", "(II[B)V"⟩ prog_20_method_93_code 3 (Option.none : Option FieldType) ∈ aj_TB := aj_memL (aj_t3 (List.mem_of_getElem? (i := 133) (by decide +kernel))) (by decide +kernel)
set_option maxRecDepth 20000 in
theorem wd741 : Cond.static ⟨"java/lang/StringUTF16", "checkBoundsBeginEnd", "(II[B)V"⟩ ∈ aj_TB := aj_memL (aj_t3 (List.mem_of_getElem? (i := 132) (by decide +kernel))) (by decide +kernel)
set_option maxRecDepth 20000 in
theorem wd743 : Cond.methodLink "java/lang/StringUTF16" 241 ⟨"java/lang/String", "checkBoundsBeginEnd", "(III)V"⟩ ∈ aj_TB := aj_memL (aj_t3 (List.mem_of_getElem? (i := 134) (by decide +kernel))) (by decide +kernel)
set_option maxRecDepth 20000 in
theorem wd745 : Cond.code ⟨"java/lang/String", "checkBoundsBeginEnd", "(III)V"⟩ prog_18_method_158_code 3 (Option.none : Option FieldType) ∈ aj_TB := aj_memL (aj_t3 (List.mem_of_getElem? (i := 136) (by decide +kernel))) (by decide +kernel)
set_option maxRecDepth 20000 in
theorem wd744 : Cond.static ⟨"java/lang/String", "checkBoundsBeginEnd", "(III)V"⟩ ∈ aj_TB := aj_memL (aj_t3 (List.mem_of_getElem? (i := 135) (by decide +kernel))) (by decide +kernel)
set_option maxRecDepth 20000 in
theorem wd746 : Cond.methodLink "java/lang/String" 1062 ⟨"jdk/internal/util/Preconditions", "checkFromToIndex", "(IIILjava/util/function/BiFunction;)I"⟩ ∈ aj_TB := aj_memL (aj_t3 (List.mem_of_getElem? (i := 137) (by decide +kernel))) (by decide +kernel)
set_option maxRecDepth 20000 in
theorem wd748 : Cond.code ⟨"jdk/internal/util/Preconditions", "checkFromToIndex", "(IIILjava/util/function/BiFunction;)I"⟩ prog_23_method_12_code 4 (Option.some FieldType.int) ∈ aj_TB := aj_memL (aj_t3 (List.mem_of_getElem? (i := 139) (by decide +kernel))) (by decide +kernel)
set_option maxRecDepth 20000 in
theorem wd747 : Cond.static ⟨"jdk/internal/util/Preconditions", "checkFromToIndex", "(IIILjava/util/function/BiFunction;)I"⟩ ∈ aj_TB := aj_memL (aj_t3 (List.mem_of_getElem? (i := 138) (by decide +kernel))) (by decide +kernel)
set_option maxRecDepth 20000 in
theorem wd749 : Cond.methodLink "java/lang/StringUTF16" 244 ⟨"java/lang/StringUTF16", "indexOfCharUnsafe", "([BIII)I"⟩ ∈ aj_TB := aj_memL (aj_t3 (List.mem_of_getElem? (i := 140) (by decide +kernel))) (by decide +kernel)
set_option maxRecDepth 20000 in
theorem wd751 : Cond.code ⟨"java/lang/StringUTF16", "indexOfCharUnsafe", "([BIII)I"⟩ prog_20_method_48_code 5 (Option.some FieldType.int) ∈ aj_TB := aj_memL (aj_t3 (List.mem_of_getElem? (i := 142) (by decide +kernel))) (by decide +kernel)
set_option maxRecDepth 20000 in
theorem wd750 : Cond.static ⟨"java/lang/StringUTF16", "indexOfCharUnsafe", "([BIII)I"⟩ ∈ aj_TB := aj_memL (aj_t3 (List.mem_of_getElem? (i := 141) (by decide +kernel))) (by decide +kernel)
set_option maxRecDepth 20000 in
theorem wd752 : Cond.methodLink "java/lang/StringUTF16" 232 ⟨"java/lang/StringUTF16", "indexOfSupplementary", "([BIII)I"⟩ ∈ aj_TB := aj_memL (aj_t3 (List.mem_of_getElem? (i := 143) (by decide +kernel))) (by decide +kernel)
set_option maxRecDepth 20000 in
theorem wd754 : Cond.code ⟨"java/lang/StringUTF16", "indexOfSupplementary", "([BIII)I"⟩ prog_20_method_49_code 7 (Option.some FieldType.int) ∈ aj_TB := aj_memL (aj_t3 (List.mem_of_getElem? (i := 145) (by decide +kernel))) (by decide +kernel)
set_option maxRecDepth 20000 in
theorem wd753 : Cond.static ⟨"java/lang/StringUTF16", "indexOfSupplementary", "([BIII)I"⟩ ∈ aj_TB := aj_memL (aj_t3 (List.mem_of_getElem? (i := 144) (by decide +kernel))) (by decide +kernel)
set_option maxRecDepth 20000 in
theorem wd755 : Cond.methodLink "java/lang/StringUTF16" 164 ⟨"java/lang/Character", "isValidCodePoint", "(I)Z"⟩ ∈ aj_TB := aj_memL (aj_t3 (List.mem_of_getElem? (i := 146) (by decide +kernel))) (by decide +kernel)
set_option maxRecDepth 20000 in
theorem wd148 : Cond.initialized "java/lang/Character" ∈ aj_TB := aj_memL (aj_t1 (List.mem_of_getElem? (i := 19) (by decide +kernel))) (by decide +kernel)
set_option maxRecDepth 20000 in
theorem wd757 : Cond.code ⟨"java/lang/Character", "isValidCodePoint", "(I)Z"⟩ prog_15_method_11_code 2 (Option.some FieldType.boolean) ∈ aj_TB := aj_memL (aj_t3 (List.mem_of_getElem? (i := 148) (by decide +kernel))) (by decide +kernel)
set_option maxRecDepth 20000 in
theorem wd756 : Cond.static ⟨"java/lang/Character", "isValidCodePoint", "(I)Z"⟩ ∈ aj_TB := aj_memL (aj_t3 (List.mem_of_getElem? (i := 147) (by decide +kernel))) (by decide +kernel)
set_option maxRecDepth 20000 in
theorem wd758 : Cond.methodLink "java/lang/StringUTF16" 157 ⟨"java/lang/Character", "highSurrogate", "(I)C"⟩ ∈ aj_TB := aj_memL (aj_t3 (List.mem_of_getElem? (i := 149) (by decide +kernel))) (by decide +kernel)
set_option maxRecDepth 20000 in
theorem wd760 : Cond.code ⟨"java/lang/Character", "highSurrogate", "(I)C"⟩ prog_15_method_28_code 1 (Option.some FieldType.char) ∈ aj_TB := aj_memL (aj_t3 (List.mem_of_getElem? (i := 151) (by decide +kernel))) (by decide +kernel)
set_option maxRecDepth 20000 in
theorem wd759 : Cond.static ⟨"java/lang/Character", "highSurrogate", "(I)C"⟩ ∈ aj_TB := aj_memL (aj_t3 (List.mem_of_getElem? (i := 150) (by decide +kernel))) (by decide +kernel)
set_option maxRecDepth 20000 in
theorem wd762 : Cond.methodLink "java/lang/StringUTF16" 161 ⟨"java/lang/Character", "lowSurrogate", "(I)C"⟩ ∈ aj_TB := aj_memL (aj_t3 (List.mem_of_getElem? (i := 153) (by decide +kernel))) (by decide +kernel)
set_option maxRecDepth 20000 in
theorem wd764 : Cond.code ⟨"java/lang/Character", "lowSurrogate", "(I)C"⟩ prog_15_method_29_code 1 (Option.some FieldType.char) ∈ aj_TB := aj_memL (aj_t3 (List.mem_of_getElem? (i := 155) (by decide +kernel))) (by decide +kernel)
set_option maxRecDepth 20000 in
theorem wd763 : Cond.static ⟨"java/lang/Character", "lowSurrogate", "(I)C"⟩ ∈ aj_TB := aj_memL (aj_t3 (List.mem_of_getElem? (i := 154) (by decide +kernel))) (by decide +kernel)
set_option maxRecDepth 20000 in
theorem wd766 : Cond.methodLink "CageLift$Reader" 63 ⟨"CageLift$Reader", "readHead", "()Z"⟩ ∈ aj_TB := aj_memL (aj_t3 (List.mem_of_getElem? (i := 157) (by decide +kernel))) (by decide +kernel)
set_option maxRecDepth 20000 in
theorem wd769 : Cond.code ⟨"CageLift$Reader", "readHead", "()Z"⟩ prog_9_method_4_code 1 (Option.some FieldType.boolean) ∈ aj_TB := aj_memL (aj_t3 (List.mem_of_getElem? (i := 160) (by decide +kernel))) (by decide +kernel)
set_option maxRecDepth 20000 in
theorem wd768 : Cond.instanceMethod ⟨"CageLift$Reader", "readHead", "()Z"⟩ ∈ aj_TB := aj_memL (aj_t3 (List.mem_of_getElem? (i := 159) (by decide +kernel))) (by decide +kernel)
set_option maxRecDepth 20000 in
theorem wd3 : Cond.selects "CageLift$Reader" ⟨"CageLift$Reader", "readHead", "()Z"⟩ ⟨"CageLift$Reader", "readHead", "()Z"⟩ ∈ aj_TB := aj_memL (List.mem_append_left _ (List.mem_of_getElem? (i := 3) (by decide +kernel))) (by decide +kernel)
set_option maxRecDepth 20000 in
theorem wd770 : Cond.methodLink "CageLift$Reader" 70 ⟨"CageLift$Reader", "take", "(I)Z"⟩ ∈ aj_TB := aj_memL (aj_t3 (List.mem_of_getElem? (i := 161) (by decide +kernel))) (by decide +kernel)
set_option maxRecDepth 20000 in
theorem wd773 : Cond.code ⟨"CageLift$Reader", "take", "(I)Z"⟩ prog_9_method_21_code 2 (Option.some FieldType.boolean) ∈ aj_TB := aj_memL (aj_t3 (List.mem_of_getElem? (i := 164) (by decide +kernel))) (by decide +kernel)
set_option maxRecDepth 20000 in
theorem wd772 : Cond.instanceMethod ⟨"CageLift$Reader", "take", "(I)Z"⟩ ∈ aj_TB := aj_memL (aj_t3 (List.mem_of_getElem? (i := 163) (by decide +kernel))) (by decide +kernel)
set_option maxRecDepth 20000 in
theorem wd4 : Cond.selects "CageLift$Reader" ⟨"CageLift$Reader", "take", "(I)Z"⟩ ⟨"CageLift$Reader", "take", "(I)Z"⟩ ∈ aj_TB := aj_memL (List.mem_append_left _ (List.mem_of_getElem? (i := 4) (by decide +kernel))) (by decide +kernel)
set_option maxRecDepth 20000 in
theorem wd774 : Cond.methodLink "CageLift$Reader" 86 ⟨"CageLift$Reader", "cantStand", "()Z"⟩ ∈ aj_TB := aj_memL (aj_t3 (List.mem_of_getElem? (i := 165) (by decide +kernel))) (by decide +kernel)
set_option maxRecDepth 20000 in
theorem wd777 : Cond.code ⟨"CageLift$Reader", "cantStand", "()Z"⟩ prog_9_method_23_code 1 (Option.some FieldType.boolean) ∈ aj_TB := aj_memL (aj_t3 (List.mem_of_getElem? (i := 168) (by decide +kernel))) (by decide +kernel)
set_option maxRecDepth 20000 in
theorem wd776 : Cond.instanceMethod ⟨"CageLift$Reader", "cantStand", "()Z"⟩ ∈ aj_TB := aj_memL (aj_t3 (List.mem_of_getElem? (i := 167) (by decide +kernel))) (by decide +kernel)
set_option maxRecDepth 20000 in
theorem wd5 : Cond.selects "CageLift$Reader" ⟨"CageLift$Reader", "cantStand", "()Z"⟩ ⟨"CageLift$Reader", "cantStand", "()Z"⟩ ∈ aj_TB := aj_memL (List.mem_append_left _ (List.mem_of_getElem? (i := 5) (by decide +kernel))) (by decide +kernel)
set_option maxRecDepth 20000 in
theorem wd778 : Cond.methodLink "CageLift$Reader" 130 ⟨"CageLift$Reader", "faulty", "(I)Z"⟩ ∈ aj_TB := aj_memL (aj_t3 (List.mem_of_getElem? (i := 169) (by decide +kernel))) (by decide +kernel)
set_option maxRecDepth 20000 in
theorem wd781 : Cond.code ⟨"CageLift$Reader", "faulty", "(I)Z"⟩ prog_9_method_24_code 2 (Option.some FieldType.boolean) ∈ aj_TB := aj_memL (aj_t3 (List.mem_of_getElem? (i := 172) (by decide +kernel))) (by decide +kernel)
set_option maxRecDepth 20000 in
theorem wd780 : Cond.instanceMethod ⟨"CageLift$Reader", "faulty", "(I)Z"⟩ ∈ aj_TB := aj_memL (aj_t3 (List.mem_of_getElem? (i := 171) (by decide +kernel))) (by decide +kernel)
set_option maxRecDepth 20000 in
theorem wd6 : Cond.selects "CageLift$Reader" ⟨"CageLift$Reader", "faulty", "(I)Z"⟩ ⟨"CageLift$Reader", "faulty", "(I)Z"⟩ ∈ aj_TB := aj_memL (List.mem_append_left _ (List.mem_of_getElem? (i := 6) (by decide +kernel))) (by decide +kernel)
set_option maxRecDepth 20000 in
theorem wd782 : Cond.methodLink "CageLift$Reader" 77 ⟨"CageLift$Reader", "readKind", "()Z"⟩ ∈ aj_TB := aj_memL (aj_t3 (List.mem_of_getElem? (i := 173) (by decide +kernel))) (by decide +kernel)
set_option maxRecDepth 20000 in
theorem wd785 : Cond.code ⟨"CageLift$Reader", "readKind", "()Z"⟩ prog_9_method_5_code 4 (Option.some FieldType.boolean) ∈ aj_TB := aj_memL (aj_t3 (List.mem_of_getElem? (i := 176) (by decide +kernel))) (by decide +kernel)
set_option maxRecDepth 20000 in
theorem wd784 : Cond.instanceMethod ⟨"CageLift$Reader", "readKind", "()Z"⟩ ∈ aj_TB := aj_memL (aj_t3 (List.mem_of_getElem? (i := 175) (by decide +kernel))) (by decide +kernel)
set_option maxRecDepth 20000 in
theorem wd7 : Cond.selects "CageLift$Reader" ⟨"CageLift$Reader", "readKind", "()Z"⟩ ⟨"CageLift$Reader", "readKind", "()Z"⟩ ∈ aj_TB := aj_memL (List.mem_append_left _ (List.mem_of_getElem? (i := 7) (by decide +kernel))) (by decide +kernel)
set_option maxRecDepth 20000 in
theorem wd786 : Cond.methodLink "CageLift$Reader" 93 ⟨"CageLift$Group", "makeQuaternions", "()V"⟩ ∈ aj_TB := aj_memL (aj_t3 (List.mem_of_getElem? (i := 177) (by decide +kernel))) (by decide +kernel)
set_option maxRecDepth 20000 in
theorem wd789 : Cond.code ⟨"CageLift$Group", "makeQuaternions", "()V"⟩ prog_2_method_6_code 4 (Option.none : Option FieldType) ∈ aj_TB := aj_memL (aj_t3 (List.mem_of_getElem? (i := 180) (by decide +kernel))) (by decide +kernel)
set_option maxRecDepth 20000 in
theorem wd787 : Cond.instanceMethod ⟨"CageLift$Group", "makeQuaternions", "()V"⟩ ∈ aj_TB := aj_memL (aj_t3 (List.mem_of_getElem? (i := 178) (by decide +kernel))) (by decide +kernel)
set_option maxRecDepth 20000 in
theorem wd788 : Cond.selects "CageLift$Group" ⟨"CageLift$Group", "makeQuaternions", "()V"⟩ ⟨"CageLift$Group", "makeQuaternions", "()V"⟩ ∈ aj_TB := aj_memL (aj_t3 (List.mem_of_getElem? (i := 179) (by decide +kernel))) (by decide +kernel)
set_option maxRecDepth 20000 in
theorem wd792 : Cond.methodLink "CageLift$Reader" 80 ⟨"CageLift$Reader", "takeNumber", "(II)I"⟩ ∈ aj_TB := aj_memL (aj_t3 (List.mem_of_getElem? (i := 183) (by decide +kernel))) (by decide +kernel)
set_option maxRecDepth 20000 in
theorem wd795 : Cond.code ⟨"CageLift$Reader", "takeNumber", "(II)I"⟩ prog_9_method_22_code 4 (Option.some FieldType.int) ∈ aj_TB := aj_memL (aj_t3 (List.mem_of_getElem? (i := 186) (by decide +kernel))) (by decide +kernel)
set_option maxRecDepth 20000 in
theorem wd794 : Cond.instanceMethod ⟨"CageLift$Reader", "takeNumber", "(II)I"⟩ ∈ aj_TB := aj_memL (aj_t3 (List.mem_of_getElem? (i := 185) (by decide +kernel))) (by decide +kernel)
set_option maxRecDepth 20000 in
theorem wd8 : Cond.selects "CageLift$Reader" ⟨"CageLift$Reader", "takeNumber", "(II)I"⟩ ⟨"CageLift$Reader", "takeNumber", "(II)I"⟩ ∈ aj_TB := aj_memL (List.mem_append_left _ (List.mem_of_getElem? (i := 8) (by decide +kernel))) (by decide +kernel)
set_option maxRecDepth 20000 in
theorem wd796 : Cond.methodLink "CageLift$Reader" 98 ⟨"CageLift$Group", "makeMirrors", "(I)V"⟩ ∈ aj_TB := aj_memL (aj_t3 (List.mem_of_getElem? (i := 187) (by decide +kernel))) (by decide +kernel)
set_option maxRecDepth 20000 in
theorem wd799 : Cond.code ⟨"CageLift$Group", "makeMirrors", "(I)V"⟩ prog_2_method_5_code 6 (Option.none : Option FieldType) ∈ aj_TB := aj_memL (aj_t3 (List.mem_of_getElem? (i := 190) (by decide +kernel))) (by decide +kernel)
set_option maxRecDepth 20000 in
theorem wd797 : Cond.instanceMethod ⟨"CageLift$Group", "makeMirrors", "(I)V"⟩ ∈ aj_TB := aj_memL (aj_t3 (List.mem_of_getElem? (i := 188) (by decide +kernel))) (by decide +kernel)
set_option maxRecDepth 20000 in
theorem wd798 : Cond.selects "CageLift$Group" ⟨"CageLift$Group", "makeMirrors", "(I)V"⟩ ⟨"CageLift$Group", "makeMirrors", "(I)V"⟩ ∈ aj_TB := aj_memL (aj_t3 (List.mem_of_getElem? (i := 189) (by decide +kernel))) (by decide +kernel)
set_option maxRecDepth 20000 in
theorem wd800 : Cond.methodLink "CageLift$Reader" 102 ⟨"CageLift$Group", "makeProduct", "(II)V"⟩ ∈ aj_TB := aj_memL (aj_t3 (List.mem_of_getElem? (i := 191) (by decide +kernel))) (by decide +kernel)
set_option maxRecDepth 20000 in
theorem wd801 : Cond.methodLink "CageLift$Reader" 67 ⟨"CageLift$Reader", "readLine", "()Z"⟩ ∈ aj_TB := aj_memL (aj_t3 (List.mem_of_getElem? (i := 192) (by decide +kernel))) (by decide +kernel)
set_option maxRecDepth 20000 in
theorem wd804 : Cond.code ⟨"CageLift$Reader", "readLine", "()Z"⟩ prog_9_method_6_code 1 (Option.some FieldType.boolean) ∈ aj_TB := aj_memL (aj_t3 (List.mem_of_getElem? (i := 195) (by decide +kernel))) (by decide +kernel)
set_option maxRecDepth 20000 in
theorem wd803 : Cond.instanceMethod ⟨"CageLift$Reader", "readLine", "()Z"⟩ ∈ aj_TB := aj_memL (aj_t3 (List.mem_of_getElem? (i := 194) (by decide +kernel))) (by decide +kernel)
set_option maxRecDepth 20000 in
theorem wd9 : Cond.selects "CageLift$Reader" ⟨"CageLift$Reader", "readLine", "()Z"⟩ ⟨"CageLift$Reader", "readLine", "()Z"⟩ ∈ aj_TB := aj_memL (List.mem_append_left _ (List.mem_of_getElem? (i := 9) (by decide +kernel))) (by decide +kernel)
set_option maxRecDepth 20000 in
theorem wd805 : Cond.methodLink "CageLift$Reader" 106 ⟨"CageLift$Reader", "readPlaces", "()Z"⟩ ∈ aj_TB := aj_memL (aj_t3 (List.mem_of_getElem? (i := 196) (by decide +kernel))) (by decide +kernel)
set_option maxRecDepth 20000 in
theorem wd808 : Cond.code ⟨"CageLift$Reader", "readPlaces", "()Z"⟩ prog_9_method_7_code 2 (Option.some FieldType.boolean) ∈ aj_TB := aj_memL (aj_t3 (List.mem_of_getElem? (i := 199) (by decide +kernel))) (by decide +kernel)
set_option maxRecDepth 20000 in
theorem wd807 : Cond.instanceMethod ⟨"CageLift$Reader", "readPlaces", "()Z"⟩ ∈ aj_TB := aj_memL (aj_t3 (List.mem_of_getElem? (i := 198) (by decide +kernel))) (by decide +kernel)
set_option maxRecDepth 20000 in
theorem wd10 : Cond.selects "CageLift$Reader" ⟨"CageLift$Reader", "readPlaces", "()Z"⟩ ⟨"CageLift$Reader", "readPlaces", "()Z"⟩ ∈ aj_TB := aj_memL (List.mem_append_left _ (List.mem_of_getElem? (i := 10) (by decide +kernel))) (by decide +kernel)
set_option maxRecDepth 20000 in
theorem wd809 : Cond.methodLink "CageLift$Reader" 124 ⟨"java/lang/Math", "max", "(II)I"⟩ ∈ aj_TB := aj_memL (aj_t3 (List.mem_of_getElem? (i := 200) (by decide +kernel))) (by decide +kernel)
set_option maxRecDepth 20000 in
theorem wd810 : Cond.methodLink "CageLift$Reader" 109 ⟨"CageLift$Reader", "readArc", "()Z"⟩ ∈ aj_TB := aj_memL (aj_t3 (List.mem_of_getElem? (i := 201) (by decide +kernel))) (by decide +kernel)
set_option maxRecDepth 20000 in
theorem wd813 : Cond.code ⟨"CageLift$Reader", "readArc", "()Z"⟩ prog_9_method_8_code 4 (Option.some FieldType.boolean) ∈ aj_TB := aj_memL (aj_t3 (List.mem_of_getElem? (i := 204) (by decide +kernel))) (by decide +kernel)
set_option maxRecDepth 20000 in
theorem wd812 : Cond.instanceMethod ⟨"CageLift$Reader", "readArc", "()Z"⟩ ∈ aj_TB := aj_memL (aj_t3 (List.mem_of_getElem? (i := 203) (by decide +kernel))) (by decide +kernel)
set_option maxRecDepth 20000 in
theorem wd11 : Cond.selects "CageLift$Reader" ⟨"CageLift$Reader", "readArc", "()Z"⟩ ⟨"CageLift$Reader", "readArc", "()Z"⟩ ∈ aj_TB := aj_memL (List.mem_append_left _ (List.mem_of_getElem? (i := 11) (by decide +kernel))) (by decide +kernel)
set_option maxRecDepth 20000 in
theorem wd814 : Cond.methodLink "CageLift$Reader" 136 ⟨"CageLift$Plan", "addArc", "(IIIZ)V"⟩ ∈ aj_TB := aj_memL (aj_t3 (List.mem_of_getElem? (i := 205) (by decide +kernel))) (by decide +kernel)
set_option maxRecDepth 20000 in
theorem wd817 : Cond.code ⟨"CageLift$Plan", "addArc", "(IIIZ)V"⟩ prog_8_method_4_code 5 (Option.none : Option FieldType) ∈ aj_TB := aj_memL (aj_t3 (List.mem_of_getElem? (i := 208) (by decide +kernel))) (by decide +kernel)
set_option maxRecDepth 20000 in
theorem wd815 : Cond.instanceMethod ⟨"CageLift$Plan", "addArc", "(IIIZ)V"⟩ ∈ aj_TB := aj_memL (aj_t3 (List.mem_of_getElem? (i := 206) (by decide +kernel))) (by decide +kernel)
set_option maxRecDepth 20000 in
theorem wd816 : Cond.selects "CageLift$Plan" ⟨"CageLift$Plan", "addArc", "(IIIZ)V"⟩ ⟨"CageLift$Plan", "addArc", "(IIIZ)V"⟩ ∈ aj_TB := aj_memL (aj_t3 (List.mem_of_getElem? (i := 207) (by decide +kernel))) (by decide +kernel)
set_option maxRecDepth 20000 in
theorem wd818 : Cond.methodLink "CageLift$Reader" 112 ⟨"CageLift$Reader", "readHalf", "()Z"⟩ ∈ aj_TB := aj_memL (aj_t3 (List.mem_of_getElem? (i := 209) (by decide +kernel))) (by decide +kernel)
set_option maxRecDepth 20000 in
theorem wd821 : Cond.code ⟨"CageLift$Reader", "readHalf", "()Z"⟩ prog_9_method_9_code 3 (Option.some FieldType.boolean) ∈ aj_TB := aj_memL (aj_t3 (List.mem_of_getElem? (i := 212) (by decide +kernel))) (by decide +kernel)
set_option maxRecDepth 20000 in
theorem wd820 : Cond.instanceMethod ⟨"CageLift$Reader", "readHalf", "()Z"⟩ ∈ aj_TB := aj_memL (aj_t3 (List.mem_of_getElem? (i := 211) (by decide +kernel))) (by decide +kernel)
set_option maxRecDepth 20000 in
theorem wd12 : Cond.selects "CageLift$Reader" ⟨"CageLift$Reader", "readHalf", "()Z"⟩ ⟨"CageLift$Reader", "readHalf", "()Z"⟩ ∈ aj_TB := aj_memL (List.mem_append_left _ (List.mem_of_getElem? (i := 12) (by decide +kernel))) (by decide +kernel)
set_option maxRecDepth 20000 in
theorem wd822 : Cond.methodLink "CageLift$Reader" 140 ⟨"CageLift$Group", "has", "(I)Z"⟩ ∈ aj_TB := aj_memL (aj_t3 (List.mem_of_getElem? (i := 213) (by decide +kernel))) (by decide +kernel)
set_option maxRecDepth 20000 in
theorem wd823 : Cond.methodLink "CageLift$Reader" 115 ⟨"CageLift$Reader", "readKeeps", "()Z"⟩ ∈ aj_TB := aj_memL (aj_t3 (List.mem_of_getElem? (i := 214) (by decide +kernel))) (by decide +kernel)
set_option maxRecDepth 20000 in
theorem wd826 : Cond.code ⟨"CageLift$Reader", "readKeeps", "()Z"⟩ prog_9_method_10_code 2 (Option.some FieldType.boolean) ∈ aj_TB := aj_memL (aj_t3 (List.mem_of_getElem? (i := 217) (by decide +kernel))) (by decide +kernel)
set_option maxRecDepth 20000 in
theorem wd825 : Cond.instanceMethod ⟨"CageLift$Reader", "readKeeps", "()Z"⟩ ∈ aj_TB := aj_memL (aj_t3 (List.mem_of_getElem? (i := 216) (by decide +kernel))) (by decide +kernel)
set_option maxRecDepth 20000 in
theorem wd13 : Cond.selects "CageLift$Reader" ⟨"CageLift$Reader", "readKeeps", "()Z"⟩ ⟨"CageLift$Reader", "readKeeps", "()Z"⟩ ∈ aj_TB := aj_memL (List.mem_append_left _ (List.mem_of_getElem? (i := 13) (by decide +kernel))) (by decide +kernel)
set_option maxRecDepth 20000 in
theorem wd827 : Cond.methodLink "CageLift$Reader" 154 ⟨"CageLift$Reader", "readTruth", "(I)Z"⟩ ∈ aj_TB := aj_memL (aj_t3 (List.mem_of_getElem? (i := 218) (by decide +kernel))) (by decide +kernel)
set_option maxRecDepth 20000 in
theorem wd830 : Cond.code ⟨"CageLift$Reader", "readTruth", "(I)Z"⟩ prog_9_method_12_code 3 (Option.some FieldType.boolean) ∈ aj_TB := aj_memL (aj_t3 (List.mem_of_getElem? (i := 221) (by decide +kernel))) (by decide +kernel)
set_option maxRecDepth 20000 in
theorem wd829 : Cond.instanceMethod ⟨"CageLift$Reader", "readTruth", "(I)Z"⟩ ∈ aj_TB := aj_memL (aj_t3 (List.mem_of_getElem? (i := 220) (by decide +kernel))) (by decide +kernel)
set_option maxRecDepth 20000 in
theorem wd14 : Cond.selects "CageLift$Reader" ⟨"CageLift$Reader", "readTruth", "(I)Z"⟩ ⟨"CageLift$Reader", "readTruth", "(I)Z"⟩ ∈ aj_TB := aj_memL (List.mem_append_left _ (List.mem_of_getElem? (i := 14) (by decide +kernel))) (by decide +kernel)
set_option maxRecDepth 20000 in
theorem wd831 : Cond.methodLink "CageLift$Reader" 172 ⟨"CageLift$Reader", "readBoth", "(I)Z"⟩ ∈ aj_TB := aj_memL (aj_t3 (List.mem_of_getElem? (i := 222) (by decide +kernel))) (by decide +kernel)
set_option maxRecDepth 20000 in
theorem wd834 : Cond.code ⟨"CageLift$Reader", "readBoth", "(I)Z"⟩ prog_9_method_13_code 3 (Option.some FieldType.boolean) ∈ aj_TB := aj_memL (aj_t3 (List.mem_of_getElem? (i := 225) (by decide +kernel))) (by decide +kernel)
set_option maxRecDepth 20000 in
theorem wd833 : Cond.instanceMethod ⟨"CageLift$Reader", "readBoth", "(I)Z"⟩ ∈ aj_TB := aj_memL (aj_t3 (List.mem_of_getElem? (i := 224) (by decide +kernel))) (by decide +kernel)
set_option maxRecDepth 20000 in
theorem wd15 : Cond.selects "CageLift$Reader" ⟨"CageLift$Reader", "readBoth", "(I)Z"⟩ ⟨"CageLift$Reader", "readBoth", "(I)Z"⟩ ∈ aj_TB := aj_memL (List.mem_append_left _ (List.mem_of_getElem? (i := 15) (by decide +kernel))) (by decide +kernel)
set_option maxRecDepth 20000 in
theorem wd835 : Cond.methodLink "CageLift$Reader" 178 ⟨"CageLift$Reader", "readUnit", "(I)Z"⟩ ∈ aj_TB := aj_memL (aj_t3 (List.mem_of_getElem? (i := 226) (by decide +kernel))) (by decide +kernel)
set_option maxRecDepth 20000 in
theorem wd838 : Cond.code ⟨"CageLift$Reader", "readUnit", "(I)Z"⟩ prog_9_method_14_code 3 (Option.some FieldType.boolean) ∈ aj_TB := aj_memL (aj_t3 (List.mem_of_getElem? (i := 229) (by decide +kernel))) (by decide +kernel)
set_option maxRecDepth 20000 in
theorem wd837 : Cond.instanceMethod ⟨"CageLift$Reader", "readUnit", "(I)Z"⟩ ∈ aj_TB := aj_memL (aj_t3 (List.mem_of_getElem? (i := 228) (by decide +kernel))) (by decide +kernel)
set_option maxRecDepth 20000 in
theorem wd16 : Cond.selects "CageLift$Reader" ⟨"CageLift$Reader", "readUnit", "(I)Z"⟩ ⟨"CageLift$Reader", "readUnit", "(I)Z"⟩ ∈ aj_TB := aj_memL (List.mem_append_left _ (List.mem_of_getElem? (i := 16) (by decide +kernel))) (by decide +kernel)
