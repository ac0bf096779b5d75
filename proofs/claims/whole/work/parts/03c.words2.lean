set_option maxRecDepth 20000 in
theorem wd1245 : Cond.methodLink "CageLift$Rings" 100 ⟨"CageLift$Rings", "knowClosings", "(I)V"⟩ ∈ aj_TB := aj_memL (aj_t5 (List.mem_of_getElem? (i := 156) (by decide +kernel))) (by decide +kernel)
set_option maxRecDepth 20000 in
theorem wd1248 : Cond.code ⟨"CageLift$Rings", "knowClosings", "(I)V"⟩ prog_10_method_11_code 6 (Option.none : Option FieldType) ∈ aj_TB := aj_memL (aj_t5 (List.mem_of_getElem? (i := 159) (by decide +kernel))) (by decide +kernel)
set_option maxRecDepth 20000 in
theorem wd1247 : Cond.instanceMethod ⟨"CageLift$Rings", "knowClosings", "(I)V"⟩ ∈ aj_TB := aj_memL (aj_t5 (List.mem_of_getElem? (i := 158) (by decide +kernel))) (by decide +kernel)
set_option maxRecDepth 20000 in
theorem wd40 : Cond.selects "CageLift$Rings" ⟨"CageLift$Rings", "knowClosings", "(I)V"⟩ ⟨"CageLift$Rings", "knowClosings", "(I)V"⟩ ∈ aj_TB := aj_memL (List.mem_append_left _ (List.mem_of_getElem? (i := 40) (by decide +kernel))) (by decide +kernel)
set_option maxRecDepth 20000 in
theorem wd1249 : Cond.methodLink "CageLift$Rings" 104 ⟨"CageLift$Rings", "waysOn", "(III)J"⟩ ∈ aj_TB := aj_memL (aj_t5 (List.mem_of_getElem? (i := 160) (by decide +kernel))) (by decide +kernel)
set_option maxRecDepth 20000 in
theorem wd1252 : Cond.code ⟨"CageLift$Rings", "waysOn", "(III)J"⟩ prog_10_method_12_code 8 (Option.some FieldType.long) ∈ aj_TB := aj_memL (aj_t5 (List.mem_of_getElem? (i := 163) (by decide +kernel))) (by decide +kernel)
set_option maxRecDepth 20000 in
theorem wd1251 : Cond.instanceMethod ⟨"CageLift$Rings", "waysOn", "(III)J"⟩ ∈ aj_TB := aj_memL (aj_t5 (List.mem_of_getElem? (i := 162) (by decide +kernel))) (by decide +kernel)
set_option maxRecDepth 20000 in
theorem wd41 : Cond.selects "CageLift$Rings" ⟨"CageLift$Rings", "waysOn", "(III)J"⟩ ⟨"CageLift$Rings", "waysOn", "(III)J"⟩ ∈ aj_TB := aj_memL (List.mem_append_left _ (List.mem_of_getElem? (i := 41) (by decide +kernel))) (by decide +kernel)
set_option maxRecDepth 20000 in
theorem wd1253 : Cond.methodLink "CageLift$Rings" 129 ⟨"CageLift$Rings", "waysToClose", "(II)J"⟩ ∈ aj_TB := aj_memL (aj_t5 (List.mem_of_getElem? (i := 164) (by decide +kernel))) (by decide +kernel)
set_option maxRecDepth 20000 in
theorem wd1256 : Cond.code ⟨"CageLift$Rings", "waysToClose", "(II)J"⟩ prog_10_method_13_code 6 (Option.some FieldType.long) ∈ aj_TB := aj_memL (aj_t5 (List.mem_of_getElem? (i := 167) (by decide +kernel))) (by decide +kernel)
set_option maxRecDepth 20000 in
theorem wd1255 : Cond.instanceMethod ⟨"CageLift$Rings", "waysToClose", "(II)J"⟩ ∈ aj_TB := aj_memL (aj_t5 (List.mem_of_getElem? (i := 166) (by decide +kernel))) (by decide +kernel)
set_option maxRecDepth 20000 in
theorem wd42 : Cond.selects "CageLift$Rings" ⟨"CageLift$Rings", "waysToClose", "(II)J"⟩ ⟨"CageLift$Rings", "waysToClose", "(II)J"⟩ ∈ aj_TB := aj_memL (List.mem_append_left _ (List.mem_of_getElem? (i := 42) (by decide +kernel))) (by decide +kernel)
set_option maxRecDepth 20000 in
theorem wd1258 : Cond.methodLink "CageLiftLaw" 125 ⟨"CageLift", "through", "(I)I"⟩ ∈ aj_TB := aj_memL (aj_t5 (List.mem_of_getElem? (i := 169) (by decide +kernel))) (by decide +kernel)
set_option maxRecDepth 20000 in
theorem wd1261 : Cond.code ⟨"CageLift", "through", "(I)I"⟩ prog_1_method_29_code 3 (Option.some FieldType.int) ∈ aj_TB := aj_memL (aj_t5 (List.mem_of_getElem? (i := 172) (by decide +kernel))) (by decide +kernel)
set_option maxRecDepth 20000 in
theorem wd1259 : Cond.instanceMethod ⟨"CageLift", "through", "(I)I"⟩ ∈ aj_TB := aj_memL (aj_t5 (List.mem_of_getElem? (i := 170) (by decide +kernel))) (by decide +kernel)
set_option maxRecDepth 20000 in
theorem wd1260 : Cond.selects "CageLift" ⟨"CageLift", "through", "(I)I"⟩ ⟨"CageLift", "through", "(I)I"⟩ ∈ aj_TB := aj_memL (aj_t5 (List.mem_of_getElem? (i := 171) (by decide +kernel))) (by decide +kernel)
set_option maxRecDepth 20000 in
theorem wd1262 : Cond.methodLink "CageLift" 282 ⟨"CageLift$Network", "shortestThrough", "(I)I"⟩ ∈ aj_TB := aj_memL (aj_t5 (List.mem_of_getElem? (i := 173) (by decide +kernel))) (by decide +kernel)
set_option maxRecDepth 20000 in
theorem wd1265 : Cond.code ⟨"CageLift$Network", "shortestThrough", "(I)I"⟩ prog_7_method_19_code 7 (Option.some FieldType.int) ∈ aj_TB := aj_memL (aj_t5 (List.mem_of_getElem? (i := 176) (by decide +kernel))) (by decide +kernel)
set_option maxRecDepth 20000 in
theorem wd1263 : Cond.instanceMethod ⟨"CageLift$Network", "shortestThrough", "(I)I"⟩ ∈ aj_TB := aj_memL (aj_t5 (List.mem_of_getElem? (i := 174) (by decide +kernel))) (by decide +kernel)
set_option maxRecDepth 20000 in
theorem wd1264 : Cond.selects "CageLift$Network" ⟨"CageLift$Network", "shortestThrough", "(I)I"⟩ ⟨"CageLift$Network", "shortestThrough", "(I)I"⟩ ∈ aj_TB := aj_memL (aj_t5 (List.mem_of_getElem? (i := 175) (by decide +kernel))) (by decide +kernel)
set_option maxRecDepth 20000 in
theorem wd1266 : Cond.methodLink "CageLiftLaw" 129 ⟨"CageLift", "bound", "(II)J"⟩ ∈ aj_TB := aj_memL (aj_t5 (List.mem_of_getElem? (i := 177) (by decide +kernel))) (by decide +kernel)
set_option maxRecDepth 20000 in
theorem wd1269 : Cond.code ⟨"CageLift", "bound", "(II)J"⟩ prog_1_method_30_code 3 (Option.some FieldType.long) ∈ aj_TB := aj_memL (aj_t5 (List.mem_of_getElem? (i := 180) (by decide +kernel))) (by decide +kernel)
set_option maxRecDepth 20000 in
theorem wd1267 : Cond.instanceMethod ⟨"CageLift", "bound", "(II)J"⟩ ∈ aj_TB := aj_memL (aj_t5 (List.mem_of_getElem? (i := 178) (by decide +kernel))) (by decide +kernel)
set_option maxRecDepth 20000 in
theorem wd1268 : Cond.selects "CageLift" ⟨"CageLift", "bound", "(II)J"⟩ ⟨"CageLift", "bound", "(II)J"⟩ ∈ aj_TB := aj_memL (aj_t5 (List.mem_of_getElem? (i := 179) (by decide +kernel))) (by decide +kernel)
set_option maxRecDepth 20000 in
theorem wd1270 : Cond.methodLink "CageLift" 285 ⟨"CageLift", "isBounded", "(II)Z"⟩ ∈ aj_TB := aj_memL (aj_t5 (List.mem_of_getElem? (i := 181) (by decide +kernel))) (by decide +kernel)
set_option maxRecDepth 20000 in
theorem wd1272 : Cond.code ⟨"CageLift", "isBounded", "(II)Z"⟩ prog_1_method_59_code 2 (Option.some FieldType.boolean) ∈ aj_TB := aj_memL (aj_t5 (List.mem_of_getElem? (i := 183) (by decide +kernel))) (by decide +kernel)
set_option maxRecDepth 20000 in
theorem wd1271 : Cond.static ⟨"CageLift", "isBounded", "(II)Z"⟩ ∈ aj_TB := aj_memL (aj_t5 (List.mem_of_getElem? (i := 182) (by decide +kernel))) (by decide +kernel)
set_option maxRecDepth 20000 in
theorem wd1273 : Cond.methodLink "CageLift" 289 ⟨"CageLift", "treeBound", "(II)J"⟩ ∈ aj_TB := aj_memL (aj_t5 (List.mem_of_getElem? (i := 184) (by decide +kernel))) (by decide +kernel)
set_option maxRecDepth 20000 in
theorem wd1275 : Cond.code ⟨"CageLift", "treeBound", "(II)J"⟩ prog_1_method_60_code 8 (Option.some FieldType.long) ∈ aj_TB := aj_memL (aj_t5 (List.mem_of_getElem? (i := 186) (by decide +kernel))) (by decide +kernel)
set_option maxRecDepth 20000 in
theorem wd1274 : Cond.static ⟨"CageLift", "treeBound", "(II)J"⟩ ∈ aj_TB := aj_memL (aj_t5 (List.mem_of_getElem? (i := 185) (by decide +kernel))) (by decide +kernel)
set_option maxRecDepth 20000 in
theorem wd1278 : Cond.methodLink "CageLiftLaw" 134 ⟨"CageLift", "excess", "()J"⟩ ∈ aj_TB := aj_memL (aj_t5 (List.mem_of_getElem? (i := 189) (by decide +kernel))) (by decide +kernel)
set_option maxRecDepth 20000 in
theorem wd1281 : Cond.code ⟨"CageLift", "excess", "()J"⟩ prog_1_method_31_code 4 (Option.some FieldType.long) ∈ aj_TB := aj_memL (aj_t5 (List.mem_of_getElem? (i := 192) (by decide +kernel))) (by decide +kernel)
set_option maxRecDepth 20000 in
theorem wd1279 : Cond.instanceMethod ⟨"CageLift", "excess", "()J"⟩ ∈ aj_TB := aj_memL (aj_t5 (List.mem_of_getElem? (i := 190) (by decide +kernel))) (by decide +kernel)
set_option maxRecDepth 20000 in
theorem wd1280 : Cond.selects "CageLift" ⟨"CageLift", "excess", "()J"⟩ ⟨"CageLift", "excess", "()J"⟩ ∈ aj_TB := aj_memL (aj_t5 (List.mem_of_getElem? (i := 191) (by decide +kernel))) (by decide +kernel)
set_option maxRecDepth 20000 in
theorem wd1283 : Cond.methodLink "CageLiftLaw" 139 ⟨"CageLift", "light", "(II)I"⟩ ∈ aj_TB := aj_memL (aj_t5 (List.mem_of_getElem? (i := 194) (by decide +kernel))) (by decide +kernel)
set_option maxRecDepth 20000 in
theorem wd1286 : Cond.code ⟨"CageLift", "light", "(II)I"⟩ prog_1_method_32_code 4 (Option.some FieldType.int) ∈ aj_TB := aj_memL (aj_t5 (List.mem_of_getElem? (i := 197) (by decide +kernel))) (by decide +kernel)
set_option maxRecDepth 20000 in
theorem wd1284 : Cond.instanceMethod ⟨"CageLift", "light", "(II)I"⟩ ∈ aj_TB := aj_memL (aj_t5 (List.mem_of_getElem? (i := 195) (by decide +kernel))) (by decide +kernel)
set_option maxRecDepth 20000 in
theorem wd1285 : Cond.selects "CageLift" ⟨"CageLift", "light", "(II)I"⟩ ⟨"CageLift", "light", "(II)I"⟩ ∈ aj_TB := aj_memL (aj_t5 (List.mem_of_getElem? (i := 196) (by decide +kernel))) (by decide +kernel)
set_option maxRecDepth 20000 in
theorem wd1287 : Cond.methodLink "CageLift" 300 ⟨"CageLift$Network", "weighLinks", "(LCageLift$Plan;I)V"⟩ ∈ aj_TB := aj_memL (aj_t5 (List.mem_of_getElem? (i := 198) (by decide +kernel))) (by decide +kernel)
set_option maxRecDepth 20000 in
theorem wd1290 : Cond.code ⟨"CageLift$Network", "weighLinks", "(LCageLift$Plan;I)V"⟩ prog_7_method_20_code 4 (Option.none : Option FieldType) ∈ aj_TB := aj_memL (aj_t5 (List.mem_of_getElem? (i := 201) (by decide +kernel))) (by decide +kernel)
set_option maxRecDepth 20000 in
theorem wd1288 : Cond.instanceMethod ⟨"CageLift$Network", "weighLinks", "(LCageLift$Plan;I)V"⟩ ∈ aj_TB := aj_memL (aj_t5 (List.mem_of_getElem? (i := 199) (by decide +kernel))) (by decide +kernel)
set_option maxRecDepth 20000 in
theorem wd1289 : Cond.selects "CageLift$Network" ⟨"CageLift$Network", "weighLinks", "(LCageLift$Plan;I)V"⟩ ⟨"CageLift$Network", "weighLinks", "(LCageLift$Plan;I)V"⟩ ∈ aj_TB := aj_memL (aj_t5 (List.mem_of_getElem? (i := 200) (by decide +kernel))) (by decide +kernel)
set_option maxRecDepth 20000 in
theorem wd1291 : Cond.methodLink "CageLift$Network" 158 ⟨"CageLift$Plan", "weightOf", "(III)I"⟩ ∈ aj_TB := aj_memL (aj_t5 (List.mem_of_getElem? (i := 202) (by decide +kernel))) (by decide +kernel)
set_option maxRecDepth 20000 in
theorem wd1294 : Cond.code ⟨"CageLift$Plan", "weightOf", "(III)I"⟩ prog_8_method_9_code 5 (Option.some FieldType.int) ∈ aj_TB := aj_memL (aj_t5 (List.mem_of_getElem? (i := 205) (by decide +kernel))) (by decide +kernel)
set_option maxRecDepth 20000 in
theorem wd1292 : Cond.instanceMethod ⟨"CageLift$Plan", "weightOf", "(III)I"⟩ ∈ aj_TB := aj_memL (aj_t5 (List.mem_of_getElem? (i := 203) (by decide +kernel))) (by decide +kernel)
set_option maxRecDepth 20000 in
theorem wd1293 : Cond.selects "CageLift$Plan" ⟨"CageLift$Plan", "weightOf", "(III)I"⟩ ⟨"CageLift$Plan", "weightOf", "(III)I"⟩ ∈ aj_TB := aj_memL (aj_t5 (List.mem_of_getElem? (i := 204) (by decide +kernel))) (by decide +kernel)
set_option maxRecDepth 20000 in
theorem wd1295 : Cond.methodLink "CageLift$Plan" 109 ⟨"java/lang/Math", "min", "(II)I"⟩ ∈ aj_TB := aj_memL (aj_t5 (List.mem_of_getElem? (i := 206) (by decide +kernel))) (by decide +kernel)
set_option maxRecDepth 20000 in
theorem wd1296 : Cond.methodLink "CageLift$Plan" 115 ⟨"java/lang/Math", "max", "(II)I"⟩ ∈ aj_TB := aj_memL (aj_t5 (List.mem_of_getElem? (i := 207) (by decide +kernel))) (by decide +kernel)
set_option maxRecDepth 20000 in
theorem wd1297 : Cond.methodLink "CageLift" 304 ⟨"CageLift$Network", "lightFrom", "(I)V"⟩ ∈ aj_TB := aj_memL (aj_t5 (List.mem_of_getElem? (i := 208) (by decide +kernel))) (by decide +kernel)
set_option maxRecDepth 20000 in
theorem wd1300 : Cond.code ⟨"CageLift$Network", "lightFrom", "(I)V"⟩ prog_7_method_21_code 7 (Option.none : Option FieldType) ∈ aj_TB := aj_memL (aj_t5 (List.mem_of_getElem? (i := 211) (by decide +kernel))) (by decide +kernel)
set_option maxRecDepth 20000 in
theorem wd1298 : Cond.instanceMethod ⟨"CageLift$Network", "lightFrom", "(I)V"⟩ ∈ aj_TB := aj_memL (aj_t5 (List.mem_of_getElem? (i := 209) (by decide +kernel))) (by decide +kernel)
set_option maxRecDepth 20000 in
theorem wd1299 : Cond.selects "CageLift$Network" ⟨"CageLift$Network", "lightFrom", "(I)V"⟩ ⟨"CageLift$Network", "lightFrom", "(I)V"⟩ ∈ aj_TB := aj_memL (aj_t5 (List.mem_of_getElem? (i := 210) (by decide +kernel))) (by decide +kernel)
set_option maxRecDepth 20000 in
theorem wd1301 : Cond.methodLink "CageLift$Network" 162 ⟨"CageLift$Network", "lightestUnseen", "()I"⟩ ∈ aj_TB := aj_memL (aj_t5 (List.mem_of_getElem? (i := 212) (by decide +kernel))) (by decide +kernel)
set_option maxRecDepth 20000 in
theorem wd1304 : Cond.code ⟨"CageLift$Network", "lightestUnseen", "()I"⟩ prog_7_method_22_code 4 (Option.some FieldType.int) ∈ aj_TB := aj_memL (aj_t5 (List.mem_of_getElem? (i := 215) (by decide +kernel))) (by decide +kernel)
set_option maxRecDepth 20000 in
theorem wd1303 : Cond.instanceMethod ⟨"CageLift$Network", "lightestUnseen", "()I"⟩ ∈ aj_TB := aj_memL (aj_t5 (List.mem_of_getElem? (i := 214) (by decide +kernel))) (by decide +kernel)
set_option maxRecDepth 20000 in
theorem wd43 : Cond.selects "CageLift$Network" ⟨"CageLift$Network", "lightestUnseen", "()I"⟩ ⟨"CageLift$Network", "lightestUnseen", "()I"⟩ ∈ aj_TB := aj_memL (List.mem_append_left _ (List.mem_of_getElem? (i := 43) (by decide +kernel))) (by decide +kernel)
set_option maxRecDepth 20000 in
theorem wd1305 : Cond.methodLink "CageLiftLaw" 143 ⟨"CageLift", "lightest", "()I"⟩ ∈ aj_TB := aj_memL (aj_t5 (List.mem_of_getElem? (i := 216) (by decide +kernel))) (by decide +kernel)
set_option maxRecDepth 20000 in
theorem wd1308 : Cond.code ⟨"CageLift", "lightest", "()I"⟩ prog_1_method_33_code 2 (Option.some FieldType.int) ∈ aj_TB := aj_memL (aj_t5 (List.mem_of_getElem? (i := 219) (by decide +kernel))) (by decide +kernel)
set_option maxRecDepth 20000 in
theorem wd1306 : Cond.instanceMethod ⟨"CageLift", "lightest", "()I"⟩ ∈ aj_TB := aj_memL (aj_t5 (List.mem_of_getElem? (i := 217) (by decide +kernel))) (by decide +kernel)
set_option maxRecDepth 20000 in
theorem wd1307 : Cond.selects "CageLift" ⟨"CageLift", "lightest", "()I"⟩ ⟨"CageLift", "lightest", "()I"⟩ ∈ aj_TB := aj_memL (aj_t5 (List.mem_of_getElem? (i := 218) (by decide +kernel))) (by decide +kernel)
set_option maxRecDepth 20000 in
theorem wd1309 : Cond.methodLink "CageLift" 310 ⟨"CageLift$Network", "lightestRing", "()I"⟩ ∈ aj_TB := aj_memL (aj_t5 (List.mem_of_getElem? (i := 220) (by decide +kernel))) (by decide +kernel)
set_option maxRecDepth 20000 in
theorem wd1312 : Cond.code ⟨"CageLift$Network", "lightestRing", "()I"⟩ prog_7_method_23_code 6 (Option.some FieldType.int) ∈ aj_TB := aj_memL (aj_t5 (List.mem_of_getElem? (i := 223) (by decide +kernel))) (by decide +kernel)
set_option maxRecDepth 20000 in
theorem wd1310 : Cond.instanceMethod ⟨"CageLift$Network", "lightestRing", "()I"⟩ ∈ aj_TB := aj_memL (aj_t5 (List.mem_of_getElem? (i := 221) (by decide +kernel))) (by decide +kernel)
set_option maxRecDepth 20000 in
theorem wd1311 : Cond.selects "CageLift$Network" ⟨"CageLift$Network", "lightestRing", "()I"⟩ ⟨"CageLift$Network", "lightestRing", "()I"⟩ ∈ aj_TB := aj_memL (aj_t5 (List.mem_of_getElem? (i := 222) (by decide +kernel))) (by decide +kernel)
set_option maxRecDepth 20000 in
theorem wd1313 : Cond.methodLink "CageLift$Network" 166 ⟨"CageLift$Network", "lightFrom", "(I)V"⟩ ∈ aj_TB := aj_memL (aj_t5 (List.mem_of_getElem? (i := 224) (by decide +kernel))) (by decide +kernel)
set_option maxRecDepth 20000 in
theorem wd1314 : Cond.methodLink "CageLiftLaw" 147 ⟨"CageLift", "walk", "(I)I"⟩ ∈ aj_TB := aj_memL (aj_t5 (List.mem_of_getElem? (i := 225) (by decide +kernel))) (by decide +kernel)
set_option maxRecDepth 20000 in
theorem wd1317 : Cond.code ⟨"CageLift", "walk", "(I)I"⟩ prog_1_method_34_code 3 (Option.some FieldType.int) ∈ aj_TB := aj_memL (aj_t5 (List.mem_of_getElem? (i := 228) (by decide +kernel))) (by decide +kernel)
set_option maxRecDepth 20000 in
theorem wd1315 : Cond.instanceMethod ⟨"CageLift", "walk", "(I)I"⟩ ∈ aj_TB := aj_memL (aj_t5 (List.mem_of_getElem? (i := 226) (by decide +kernel))) (by decide +kernel)
set_option maxRecDepth 20000 in
theorem wd1316 : Cond.selects "CageLift" ⟨"CageLift", "walk", "(I)I"⟩ ⟨"CageLift", "walk", "(I)I"⟩ ∈ aj_TB := aj_memL (aj_t5 (List.mem_of_getElem? (i := 227) (by decide +kernel))) (by decide +kernel)
set_option maxRecDepth 20000 in
theorem wd1318 : Cond.methodLink "CageLift" 313 ⟨"CageLift", "gathered", "(LCageLift$Tray;)I"⟩ ∈ aj_TB := aj_memL (aj_t5 (List.mem_of_getElem? (i := 229) (by decide +kernel))) (by decide +kernel)
set_option maxRecDepth 20000 in
theorem wd1321 : Cond.code ⟨"CageLift", "gathered", "(LCageLift$Tray;)I"⟩ prog_1_method_61_code 8 (Option.some FieldType.int) ∈ aj_TB := aj_memL (aj_t5 (List.mem_of_getElem? (i := 232) (by decide +kernel))) (by decide +kernel)
set_option maxRecDepth 20000 in
theorem wd1320 : Cond.instanceMethod ⟨"CageLift", "gathered", "(LCageLift$Tray;)I"⟩ ∈ aj_TB := aj_memL (aj_t5 (List.mem_of_getElem? (i := 231) (by decide +kernel))) (by decide +kernel)
set_option maxRecDepth 20000 in
theorem wd44 : Cond.selects "CageLift" ⟨"CageLift", "gathered", "(LCageLift$Tray;)I"⟩ ⟨"CageLift", "gathered", "(LCageLift$Tray;)I"⟩ ∈ aj_TB := aj_memL (List.mem_append_left _ (List.mem_of_getElem? (i := 44) (by decide +kernel))) (by decide +kernel)
set_option maxRecDepth 20000 in
theorem wd1322 : Cond.methodLink "CageLift" 320 ⟨"CageLift", "stepBegins", "(J)I"⟩ ∈ aj_TB := aj_memL (aj_t5 (List.mem_of_getElem? (i := 233) (by decide +kernel))) (by decide +kernel)
set_option maxRecDepth 20000 in
theorem wd1325 : Cond.code ⟨"CageLift", "stepBegins", "(J)I"⟩ prog_1_method_62_code 3 (Option.some FieldType.int) ∈ aj_TB := aj_memL (aj_t5 (List.mem_of_getElem? (i := 236) (by decide +kernel))) (by decide +kernel)
set_option maxRecDepth 20000 in
theorem wd1324 : Cond.instanceMethod ⟨"CageLift", "stepBegins", "(J)I"⟩ ∈ aj_TB := aj_memL (aj_t5 (List.mem_of_getElem? (i := 235) (by decide +kernel))) (by decide +kernel)
set_option maxRecDepth 20000 in
theorem wd45 : Cond.selects "CageLift" ⟨"CageLift", "stepBegins", "(J)I"⟩ ⟨"CageLift", "stepBegins", "(J)I"⟩ ∈ aj_TB := aj_memL (List.mem_append_left _ (List.mem_of_getElem? (i := 45) (by decide +kernel))) (by decide +kernel)
set_option maxRecDepth 20000 in
theorem wd1326 : Cond.methodLink "CageLift" 324 ⟨"CageLift", "stepEnds", "(J)I"⟩ ∈ aj_TB := aj_memL (aj_t5 (List.mem_of_getElem? (i := 237) (by decide +kernel))) (by decide +kernel)
set_option maxRecDepth 20000 in
theorem wd1329 : Cond.code ⟨"CageLift", "stepEnds", "(J)I"⟩ prog_1_method_63_code 3 (Option.some FieldType.int) ∈ aj_TB := aj_memL (aj_t6 (List.mem_of_getElem? (i := 0) (by decide +kernel))) (by decide +kernel)
set_option maxRecDepth 20000 in
theorem wd1328 : Cond.instanceMethod ⟨"CageLift", "stepEnds", "(J)I"⟩ ∈ aj_TB := aj_memL (aj_t5 (List.mem_of_getElem? (i := 239) (by decide +kernel))) (by decide +kernel)
set_option maxRecDepth 20000 in
theorem wd46 : Cond.selects "CageLift" ⟨"CageLift", "stepEnds", "(J)I"⟩ ⟨"CageLift", "stepEnds", "(J)I"⟩ ∈ aj_TB := aj_memL (List.mem_append_left _ (List.mem_of_getElem? (i := 46) (by decide +kernel))) (by decide +kernel)
set_option maxRecDepth 20000 in
theorem wd1330 : Cond.methodLink "CageLiftLaw" 151 ⟨"CageLift", "lifted", "(I)I"⟩ ∈ aj_TB := aj_memL (aj_t6 (List.mem_of_getElem? (i := 1) (by decide +kernel))) (by decide +kernel)
set_option maxRecDepth 20000 in
theorem wd1333 : Cond.code ⟨"CageLift", "lifted", "(I)I"⟩ prog_1_method_35_code 6 (Option.some FieldType.int) ∈ aj_TB := aj_memL (aj_t6 (List.mem_of_getElem? (i := 4) (by decide +kernel))) (by decide +kernel)
set_option maxRecDepth 20000 in
theorem wd1331 : Cond.instanceMethod ⟨"CageLift", "lifted", "(I)I"⟩ ∈ aj_TB := aj_memL (aj_t6 (List.mem_of_getElem? (i := 2) (by decide +kernel))) (by decide +kernel)
set_option maxRecDepth 20000 in
theorem wd1332 : Cond.selects "CageLift" ⟨"CageLift", "lifted", "(I)I"⟩ ⟨"CageLift", "lifted", "(I)I"⟩ ∈ aj_TB := aj_memL (aj_t6 (List.mem_of_getElem? (i := 3) (by decide +kernel))) (by decide +kernel)
set_option maxRecDepth 20000 in
theorem wd1334 : Cond.methodLink "CageLift" 317 ⟨"CageLift", "walk", "(I)I"⟩ ∈ aj_TB := aj_memL (aj_t6 (List.mem_of_getElem? (i := 5) (by decide +kernel))) (by decide +kernel)
set_option maxRecDepth 20000 in
theorem wd1335 : Cond.methodLink "CageLiftLaw" 155 ⟨"CageLift", "tune", "(I)I"⟩ ∈ aj_TB := aj_memL (aj_t6 (List.mem_of_getElem? (i := 6) (by decide +kernel))) (by decide +kernel)
set_option maxRecDepth 20000 in
theorem wd1338 : Cond.code ⟨"CageLift", "tune", "(I)I"⟩ prog_1_method_36_code 6 (Option.some FieldType.int) ∈ aj_TB := aj_memL (aj_t6 (List.mem_of_getElem? (i := 9) (by decide +kernel))) (by decide +kernel)
set_option maxRecDepth 20000 in
theorem wd1336 : Cond.instanceMethod ⟨"CageLift", "tune", "(I)I"⟩ ∈ aj_TB := aj_memL (aj_t6 (List.mem_of_getElem? (i := 7) (by decide +kernel))) (by decide +kernel)
set_option maxRecDepth 20000 in
theorem wd1337 : Cond.selects "CageLift" ⟨"CageLift", "tune", "(I)I"⟩ ⟨"CageLift", "tune", "(I)I"⟩ ∈ aj_TB := aj_memL (aj_t6 (List.mem_of_getElem? (i := 8) (by decide +kernel))) (by decide +kernel)
set_option maxRecDepth 20000 in
theorem wd1339 : Cond.methodLink "CageLift" 328 ⟨"CageLift$Plan", "whyNotBy", "(II)I"⟩ ∈ aj_TB := aj_memL (aj_t6 (List.mem_of_getElem? (i := 10) (by decide +kernel))) (by decide +kernel)
set_option maxRecDepth 20000 in
theorem wd1340 : Cond.methodLink "CageLift" 331 ⟨"CageLift", "ringBy", "(II)I"⟩ ∈ aj_TB := aj_memL (aj_t6 (List.mem_of_getElem? (i := 11) (by decide +kernel))) (by decide +kernel)
set_option maxRecDepth 20000 in
theorem wd1343 : Cond.code ⟨"CageLift", "ringBy", "(II)I"⟩ prog_1_method_64_code 3 (Option.some FieldType.int) ∈ aj_TB := aj_memL (aj_t6 (List.mem_of_getElem? (i := 14) (by decide +kernel))) (by decide +kernel)
set_option maxRecDepth 20000 in
theorem wd1342 : Cond.instanceMethod ⟨"CageLift", "ringBy", "(II)I"⟩ ∈ aj_TB := aj_memL (aj_t6 (List.mem_of_getElem? (i := 13) (by decide +kernel))) (by decide +kernel)
set_option maxRecDepth 20000 in
theorem wd47 : Cond.selects "CageLift" ⟨"CageLift", "ringBy", "(II)I"⟩ ⟨"CageLift", "ringBy", "(II)I"⟩ ∈ aj_TB := aj_memL (List.mem_append_left _ (List.mem_of_getElem? (i := 47) (by decide +kernel))) (by decide +kernel)
set_option maxRecDepth 20000 in
theorem wd1344 : Cond.methodLink "CageLiftLaw" 159 ⟨"CageLift", "tuned", "(I)I"⟩ ∈ aj_TB := aj_memL (aj_t6 (List.mem_of_getElem? (i := 15) (by decide +kernel))) (by decide +kernel)
set_option maxRecDepth 20000 in
theorem wd1347 : Cond.code ⟨"CageLift", "tuned", "(I)I"⟩ prog_1_method_37_code 3 (Option.some FieldType.int) ∈ aj_TB := aj_memL (aj_t6 (List.mem_of_getElem? (i := 18) (by decide +kernel))) (by decide +kernel)
set_option maxRecDepth 20000 in
theorem wd1345 : Cond.instanceMethod ⟨"CageLift", "tuned", "(I)I"⟩ ∈ aj_TB := aj_memL (aj_t6 (List.mem_of_getElem? (i := 16) (by decide +kernel))) (by decide +kernel)
set_option maxRecDepth 20000 in
theorem wd1346 : Cond.selects "CageLift" ⟨"CageLift", "tuned", "(I)I"⟩ ⟨"CageLift", "tuned", "(I)I"⟩ ∈ aj_TB := aj_memL (aj_t6 (List.mem_of_getElem? (i := 17) (by decide +kernel))) (by decide +kernel)
set_option maxRecDepth 20000 in
theorem wd1348 : Cond.methodLink "CageLift" 334 ⟨"CageLift", "tune", "(I)I"⟩ ∈ aj_TB := aj_memL (aj_t6 (List.mem_of_getElem? (i := 19) (by decide +kernel))) (by decide +kernel)
set_option maxRecDepth 20000 in
theorem wd1349 : Cond.methodLink "CageLiftLaw" 163 ⟨"CageLift", "search", "(IIII)I"⟩ ∈ aj_TB := aj_memL (aj_t6 (List.mem_of_getElem? (i := 20) (by decide +kernel))) (by decide +kernel)
set_option maxRecDepth 20000 in
theorem wd1352 : Cond.code ⟨"CageLift", "search", "(IIII)I"⟩ prog_1_method_38_code 5 (Option.some FieldType.int) ∈ aj_TB := aj_memL (aj_t6 (List.mem_of_getElem? (i := 23) (by decide +kernel))) (by decide +kernel)
set_option maxRecDepth 20000 in
theorem wd1350 : Cond.instanceMethod ⟨"CageLift", "search", "(IIII)I"⟩ ∈ aj_TB := aj_memL (aj_t6 (List.mem_of_getElem? (i := 21) (by decide +kernel))) (by decide +kernel)
set_option maxRecDepth 20000 in
theorem wd1351 : Cond.selects "CageLift" ⟨"CageLift", "search", "(IIII)I"⟩ ⟨"CageLift", "search", "(IIII)I"⟩ ∈ aj_TB := aj_memL (aj_t6 (List.mem_of_getElem? (i := 22) (by decide +kernel))) (by decide +kernel)
set_option maxRecDepth 20000 in
theorem wd1353 : Cond.methodLink "CageLift" 337 ⟨"CageLift$Hunt", "canBe", "(III)Z"⟩ ∈ aj_TB := aj_memL (aj_t6 (List.mem_of_getElem? (i := 24) (by decide +kernel))) (by decide +kernel)
set_option maxRecDepth 20000 in
theorem wd139 : Cond.initialized "CageLift$Hunt" ∈ aj_TB := aj_memL (aj_t1 (List.mem_of_getElem? (i := 10) (by decide +kernel))) (by decide +kernel)
set_option maxRecDepth 20000 in
theorem wd1355 : Cond.code ⟨"CageLift$Hunt", "canBe", "(III)Z"⟩ prog_4_method_2_code 3 (Option.some FieldType.boolean) ∈ aj_TB := aj_memL (aj_t6 (List.mem_of_getElem? (i := 26) (by decide +kernel))) (by decide +kernel)
set_option maxRecDepth 20000 in
theorem wd1354 : Cond.static ⟨"CageLift$Hunt", "canBe", "(III)Z"⟩ ∈ aj_TB := aj_memL (aj_t6 (List.mem_of_getElem? (i := 25) (by decide +kernel))) (by decide +kernel)
set_option maxRecDepth 20000 in
theorem wd1356 : Cond.methodLink "CageLift" 341 ⟨"CageLift$Hunt", "run", "(III)V"⟩ ∈ aj_TB := aj_memL (aj_t6 (List.mem_of_getElem? (i := 27) (by decide +kernel))) (by decide +kernel)
set_option maxRecDepth 20000 in
theorem wd1359 : Cond.code ⟨"CageLift$Hunt", "run", "(III)V"⟩ prog_4_method_3_code 4 (Option.none : Option FieldType) ∈ aj_TB := aj_memL (aj_t6 (List.mem_of_getElem? (i := 30) (by decide +kernel))) (by decide +kernel)
set_option maxRecDepth 20000 in
theorem wd1357 : Cond.instanceMethod ⟨"CageLift$Hunt", "run", "(III)V"⟩ ∈ aj_TB := aj_memL (aj_t6 (List.mem_of_getElem? (i := 28) (by decide +kernel))) (by decide +kernel)
set_option maxRecDepth 20000 in
theorem wd1358 : Cond.selects "CageLift$Hunt" ⟨"CageLift$Hunt", "run", "(III)V"⟩ ⟨"CageLift$Hunt", "run", "(III)V"⟩ ∈ aj_TB := aj_memL (aj_t6 (List.mem_of_getElem? (i := 29) (by decide +kernel))) (by decide +kernel)
set_option maxRecDepth 20000 in
theorem wd1360 : Cond.methodLink "CageLift$Hunt" 37 ⟨"CageLift$Hunt", "canBe", "(III)Z"⟩ ∈ aj_TB := aj_memL (aj_t6 (List.mem_of_getElem? (i := 31) (by decide +kernel))) (by decide +kernel)
set_option maxRecDepth 20000 in
theorem wd1361 : Cond.methodLink "CageLift$Hunt" 41 ⟨"java/util/Arrays", "fill", "([II)V"⟩ ∈ aj_TB := aj_memL (aj_t6 (List.mem_of_getElem? (i := 32) (by decide +kernel))) (by decide +kernel)
set_option maxRecDepth 20000 in
theorem wd1362 : Cond.methodLink "CageLift$Hunt" 47 ⟨"CageLift$Hunt", "makeStep", "(I)V"⟩ ∈ aj_TB := aj_memL (aj_t6 (List.mem_of_getElem? (i := 33) (by decide +kernel))) (by decide +kernel)
set_option maxRecDepth 20000 in
theorem wd1365 : Cond.code ⟨"CageLift$Hunt", "makeStep", "(I)V"⟩ prog_4_method_4_code 6 (Option.none : Option FieldType) ∈ aj_TB := aj_memL (aj_t6 (List.mem_of_getElem? (i := 36) (by decide +kernel))) (by decide +kernel)
set_option maxRecDepth 20000 in
theorem wd1364 : Cond.instanceMethod ⟨"CageLift$Hunt", "makeStep", "(I)V"⟩ ∈ aj_TB := aj_memL (aj_t6 (List.mem_of_getElem? (i := 35) (by decide +kernel))) (by decide +kernel)
set_option maxRecDepth 20000 in
theorem wd48 : Cond.selects "CageLift$Hunt" ⟨"CageLift$Hunt", "makeStep", "(I)V"⟩ ⟨"CageLift$Hunt", "makeStep", "(I)V"⟩ ∈ aj_TB := aj_memL (List.mem_append_left _ (List.mem_of_getElem? (i := 48) (by decide +kernel))) (by decide +kernel)
set_option maxRecDepth 20000 in
theorem wd1366 : Cond.methodLink "CageLift$Hunt" 51 ⟨"CageLift$Hunt", "leastUnfilled", "()I"⟩ ∈ aj_TB := aj_memL (aj_t6 (List.mem_of_getElem? (i := 37) (by decide +kernel))) (by decide +kernel)
set_option maxRecDepth 20000 in
theorem wd1369 : Cond.code ⟨"CageLift$Hunt", "leastUnfilled", "()I"⟩ prog_4_method_6_code 2 (Option.some FieldType.int) ∈ aj_TB := aj_memL (aj_t6 (List.mem_of_getElem? (i := 40) (by decide +kernel))) (by decide +kernel)
set_option maxRecDepth 20000 in
theorem wd1368 : Cond.instanceMethod ⟨"CageLift$Hunt", "leastUnfilled", "()I"⟩ ∈ aj_TB := aj_memL (aj_t6 (List.mem_of_getElem? (i := 39) (by decide +kernel))) (by decide +kernel)
set_option maxRecDepth 20000 in
theorem wd49 : Cond.selects "CageLift$Hunt" ⟨"CageLift$Hunt", "leastUnfilled", "()I"⟩ ⟨"CageLift$Hunt", "leastUnfilled", "()I"⟩ ∈ aj_TB := aj_memL (List.mem_append_left _ (List.mem_of_getElem? (i := 49) (by decide +kernel))) (by decide +kernel)
set_option maxRecDepth 20000 in
theorem wd1370 : Cond.methodLink "CageLift$Hunt" 64 ⟨"CageLift$Hunt", "isUnfilled", "(I)Z"⟩ ∈ aj_TB := aj_memL (aj_t6 (List.mem_of_getElem? (i := 41) (by decide +kernel))) (by decide +kernel)
set_option maxRecDepth 20000 in
theorem wd1373 : Cond.code ⟨"CageLift$Hunt", "isUnfilled", "(I)Z"⟩ prog_4_method_5_code 2 (Option.some FieldType.boolean) ∈ aj_TB := aj_memL (aj_t6 (List.mem_of_getElem? (i := 44) (by decide +kernel))) (by decide +kernel)
set_option maxRecDepth 20000 in
theorem wd1372 : Cond.instanceMethod ⟨"CageLift$Hunt", "isUnfilled", "(I)Z"⟩ ∈ aj_TB := aj_memL (aj_t6 (List.mem_of_getElem? (i := 43) (by decide +kernel))) (by decide +kernel)
set_option maxRecDepth 20000 in
theorem wd50 : Cond.selects "CageLift$Hunt" ⟨"CageLift$Hunt", "isUnfilled", "(I)Z"⟩ ⟨"CageLift$Hunt", "isUnfilled", "(I)Z"⟩ ∈ aj_TB := aj_memL (List.mem_append_left _ (List.mem_of_getElem? (i := 50) (by decide +kernel))) (by decide +kernel)
set_option maxRecDepth 20000 in
theorem wd1374 : Cond.methodLink "CageLift$Hunt" 59 ⟨"java/lang/Integer", "bitCount", "(I)I"⟩ ∈ aj_TB := aj_memL (aj_t6 (List.mem_of_getElem? (i := 45) (by decide +kernel))) (by decide +kernel)
set_option maxRecDepth 20000 in
theorem wd151 : Cond.initialized "java/lang/Integer" ∈ aj_TB := aj_memL (aj_t1 (List.mem_of_getElem? (i := 22) (by decide +kernel))) (by decide +kernel)
set_option maxRecDepth 20000 in
theorem wd1376 : Cond.code ⟨"java/lang/Integer", "bitCount", "(I)I"⟩ prog_16_method_49_code 1 (Option.some FieldType.int) ∈ aj_TB := aj_memL (aj_t6 (List.mem_of_getElem? (i := 47) (by decide +kernel))) (by decide +kernel)
set_option maxRecDepth 20000 in
theorem wd1375 : Cond.static ⟨"java/lang/Integer", "bitCount", "(I)I"⟩ ∈ aj_TB := aj_memL (aj_t6 (List.mem_of_getElem? (i := 46) (by decide +kernel))) (by decide +kernel)
set_option maxRecDepth 20000 in
theorem wd1380 : Cond.methodLink "CageLift$Hunt" 55 ⟨"CageLift$Hunt", "partnersOf", "(I)I"⟩ ∈ aj_TB := aj_memL (aj_t6 (List.mem_of_getElem? (i := 51) (by decide +kernel))) (by decide +kernel)
set_option maxRecDepth 20000 in
theorem wd1383 : Cond.code ⟨"CageLift$Hunt", "partnersOf", "(I)I"⟩ prog_4_method_7_code 8 (Option.some FieldType.int) ∈ aj_TB := aj_memL (aj_t6 (List.mem_of_getElem? (i := 54) (by decide +kernel))) (by decide +kernel)
set_option maxRecDepth 20000 in
theorem wd1382 : Cond.instanceMethod ⟨"CageLift$Hunt", "partnersOf", "(I)I"⟩ ∈ aj_TB := aj_memL (aj_t6 (List.mem_of_getElem? (i := 53) (by decide +kernel))) (by decide +kernel)
set_option maxRecDepth 20000 in
theorem wd51 : Cond.selects "CageLift$Hunt" ⟨"CageLift$Hunt", "partnersOf", "(I)I"⟩ ⟨"CageLift$Hunt", "partnersOf", "(I)I"⟩ ∈ aj_TB := aj_memL (List.mem_append_left _ (List.mem_of_getElem? (i := 51) (by decide +kernel))) (by decide +kernel)
set_option maxRecDepth 20000 in
theorem wd1384 : Cond.methodLink "CageLift$Hunt" 68 ⟨"CageLift$Hunt", "tooNear", "(I)I"⟩ ∈ aj_TB := aj_memL (aj_t6 (List.mem_of_getElem? (i := 55) (by decide +kernel))) (by decide +kernel)
set_option maxRecDepth 20000 in
theorem wd1387 : Cond.code ⟨"CageLift$Hunt", "tooNear", "(I)I"⟩ prog_4_method_8_code 6 (Option.some FieldType.int) ∈ aj_TB := aj_memL (aj_t6 (List.mem_of_getElem? (i := 58) (by decide +kernel))) (by decide +kernel)
set_option maxRecDepth 20000 in
theorem wd1386 : Cond.instanceMethod ⟨"CageLift$Hunt", "tooNear", "(I)I"⟩ ∈ aj_TB := aj_memL (aj_t6 (List.mem_of_getElem? (i := 57) (by decide +kernel))) (by decide +kernel)
set_option maxRecDepth 20000 in
theorem wd52 : Cond.selects "CageLift$Hunt" ⟨"CageLift$Hunt", "tooNear", "(I)I"⟩ ⟨"CageLift$Hunt", "tooNear", "(I)I"⟩ ∈ aj_TB := aj_memL (List.mem_append_left _ (List.mem_of_getElem? (i := 52) (by decide +kernel))) (by decide +kernel)
set_option maxRecDepth 20000 in
theorem wd1388 : Cond.methodLink "CageLiftLaw" 168 ⟨"CageLift", "found", "(IIIII)I"⟩ ∈ aj_TB := aj_memL (aj_t6 (List.mem_of_getElem? (i := 59) (by decide +kernel))) (by decide +kernel)
set_option maxRecDepth 20000 in
theorem wd1391 : Cond.code ⟨"CageLift", "found", "(IIIII)I"⟩ prog_1_method_39_code 6 (Option.some FieldType.int) ∈ aj_TB := aj_memL (aj_t6 (List.mem_of_getElem? (i := 62) (by decide +kernel))) (by decide +kernel)
set_option maxRecDepth 20000 in
theorem wd1389 : Cond.instanceMethod ⟨"CageLift", "found", "(IIIII)I"⟩ ∈ aj_TB := aj_memL (aj_t6 (List.mem_of_getElem? (i := 60) (by decide +kernel))) (by decide +kernel)
set_option maxRecDepth 20000 in
theorem wd1390 : Cond.selects "CageLift" ⟨"CageLift", "found", "(IIIII)I"⟩ ⟨"CageLift", "found", "(IIIII)I"⟩ ∈ aj_TB := aj_memL (aj_t6 (List.mem_of_getElem? (i := 61) (by decide +kernel))) (by decide +kernel)
set_option maxRecDepth 20000 in
theorem wd1392 : Cond.methodLink "CageLiftLaw" 172 ⟨"CageLift", "twists", "(I)I"⟩ ∈ aj_TB := aj_memL (aj_t6 (List.mem_of_getElem? (i := 63) (by decide +kernel))) (by decide +kernel)
set_option maxRecDepth 20000 in
theorem wd1395 : Cond.code ⟨"CageLift", "twists", "(I)I"⟩ prog_1_method_40_code 6 (Option.some FieldType.int) ∈ aj_TB := aj_memL (aj_t6 (List.mem_of_getElem? (i := 66) (by decide +kernel))) (by decide +kernel)
set_option maxRecDepth 20000 in
theorem wd1393 : Cond.instanceMethod ⟨"CageLift", "twists", "(I)I"⟩ ∈ aj_TB := aj_memL (aj_t6 (List.mem_of_getElem? (i := 64) (by decide +kernel))) (by decide +kernel)
set_option maxRecDepth 20000 in
theorem wd1394 : Cond.selects "CageLift" ⟨"CageLift", "twists", "(I)I"⟩ ⟨"CageLift", "twists", "(I)I"⟩ ∈ aj_TB := aj_memL (aj_t6 (List.mem_of_getElem? (i := 65) (by decide +kernel))) (by decide +kernel)
set_option maxRecDepth 20000 in
theorem wd1396 : Cond.methodLink "CageLift" 357 ⟨"CageLift", "isWeighing", "(J)Z"⟩ ∈ aj_TB := aj_memL (aj_t6 (List.mem_of_getElem? (i := 67) (by decide +kernel))) (by decide +kernel)
set_option maxRecDepth 20000 in
theorem wd1399 : Cond.code ⟨"CageLift", "isWeighing", "(J)Z"⟩ prog_1_method_65_code 3 (Option.some FieldType.boolean) ∈ aj_TB := aj_memL (aj_t6 (List.mem_of_getElem? (i := 70) (by decide +kernel))) (by decide +kernel)
set_option maxRecDepth 20000 in
theorem wd1398 : Cond.instanceMethod ⟨"CageLift", "isWeighing", "(J)Z"⟩ ∈ aj_TB := aj_memL (aj_t6 (List.mem_of_getElem? (i := 69) (by decide +kernel))) (by decide +kernel)
set_option maxRecDepth 20000 in
theorem wd53 : Cond.selects "CageLift" ⟨"CageLift", "isWeighing", "(J)Z"⟩ ⟨"CageLift", "isWeighing", "(J)Z"⟩ ∈ aj_TB := aj_memL (List.mem_append_left _ (List.mem_of_getElem? (i := 53) (by decide +kernel))) (by decide +kernel)
set_option maxRecDepth 20000 in
theorem wd1402 : Cond.methodLink "CageLift" 361 ⟨"CageLift", "allWeighSo", "(LCageLift$Tray;I)Z"⟩ ∈ aj_TB := aj_memL (aj_t6 (List.mem_of_getElem? (i := 73) (by decide +kernel))) (by decide +kernel)
set_option maxRecDepth 20000 in
theorem wd1405 : Cond.code ⟨"CageLift", "allWeighSo", "(LCageLift$Tray;I)Z"⟩ prog_1_method_66_code 5 (Option.some FieldType.boolean) ∈ aj_TB := aj_memL (aj_t6 (List.mem_of_getElem? (i := 76) (by decide +kernel))) (by decide +kernel)
set_option maxRecDepth 20000 in
theorem wd1404 : Cond.instanceMethod ⟨"CageLift", "allWeighSo", "(LCageLift$Tray;I)Z"⟩ ∈ aj_TB := aj_memL (aj_t6 (List.mem_of_getElem? (i := 75) (by decide +kernel))) (by decide +kernel)
set_option maxRecDepth 20000 in
theorem wd54 : Cond.selects "CageLift" ⟨"CageLift", "allWeighSo", "(LCageLift$Tray;I)Z"⟩ ⟨"CageLift", "allWeighSo", "(LCageLift$Tray;I)Z"⟩ ∈ aj_TB := aj_memL (List.mem_append_left _ (List.mem_of_getElem? (i := 54) (by decide +kernel))) (by decide +kernel)
set_option maxRecDepth 20000 in
theorem wd1406 : Cond.methodLink "CageLift" 428 ⟨"CageLift$Plan", "weightOf", "(III)I"⟩ ∈ aj_TB := aj_memL (aj_t6 (List.mem_of_getElem? (i := 77) (by decide +kernel))) (by decide +kernel)
set_option maxRecDepth 20000 in
theorem wd1407 : Cond.methodLink "CageLiftLaw" 176 ⟨"CageLift", "weigh", "(I)I"⟩ ∈ aj_TB := aj_memL (aj_t6 (List.mem_of_getElem? (i := 78) (by decide +kernel))) (by decide +kernel)
set_option maxRecDepth 20000 in
theorem wd1410 : Cond.code ⟨"CageLift", "weigh", "(I)I"⟩ prog_1_method_41_code 8 (Option.some FieldType.int) ∈ aj_TB := aj_memL (aj_t6 (List.mem_of_getElem? (i := 81) (by decide +kernel))) (by decide +kernel)
set_option maxRecDepth 20000 in
theorem wd1408 : Cond.instanceMethod ⟨"CageLift", "weigh", "(I)I"⟩ ∈ aj_TB := aj_memL (aj_t6 (List.mem_of_getElem? (i := 79) (by decide +kernel))) (by decide +kernel)
set_option maxRecDepth 20000 in
theorem wd1409 : Cond.selects "CageLift" ⟨"CageLift", "weigh", "(I)I"⟩ ⟨"CageLift", "weigh", "(I)I"⟩ ∈ aj_TB := aj_memL (aj_t6 (List.mem_of_getElem? (i := 80) (by decide +kernel))) (by decide +kernel)
set_option maxRecDepth 20000 in
theorem wd1411 : Cond.methodLink "CageLift" 365 ⟨"CageLift", "twists", "(I)I"⟩ ∈ aj_TB := aj_memL (aj_t6 (List.mem_of_getElem? (i := 82) (by decide +kernel))) (by decide +kernel)
set_option maxRecDepth 20000 in
theorem wd1412 : Cond.methodLink "CageLift" 371 ⟨"CageLift", "mostAlike", "(III)I"⟩ ∈ aj_TB := aj_memL (aj_t6 (List.mem_of_getElem? (i := 83) (by decide +kernel))) (by decide +kernel)
set_option maxRecDepth 20000 in
theorem wd1415 : Cond.code ⟨"CageLift", "mostAlike", "(III)I"⟩ prog_1_method_67_code 8 (Option.some FieldType.int) ∈ aj_TB := aj_memL (aj_t6 (List.mem_of_getElem? (i := 86) (by decide +kernel))) (by decide +kernel)
set_option maxRecDepth 20000 in
theorem wd1414 : Cond.instanceMethod ⟨"CageLift", "mostAlike", "(III)I"⟩ ∈ aj_TB := aj_memL (aj_t6 (List.mem_of_getElem? (i := 85) (by decide +kernel))) (by decide +kernel)
set_option maxRecDepth 20000 in
theorem wd55 : Cond.selects "CageLift" ⟨"CageLift", "mostAlike", "(III)I"⟩ ⟨"CageLift", "mostAlike", "(III)I"⟩ ∈ aj_TB := aj_memL (List.mem_append_left _ (List.mem_of_getElem? (i := 55) (by decide +kernel))) (by decide +kernel)
set_option maxRecDepth 20000 in
theorem wd1416 : Cond.methodLink "CageLift" 431 ⟨"java/lang/Math", "max", "(II)I"⟩ ∈ aj_TB := aj_memL (aj_t6 (List.mem_of_getElem? (i := 87) (by decide +kernel))) (by decide +kernel)
set_option maxRecDepth 20000 in
theorem wd1417 : Cond.methodLink "CageLiftLaw" 180 ⟨"CageLift", "chance", "(III)I"⟩ ∈ aj_TB := aj_memL (aj_t6 (List.mem_of_getElem? (i := 88) (by decide +kernel))) (by decide +kernel)
set_option maxRecDepth 20000 in
theorem wd1420 : Cond.code ⟨"CageLift", "chance", "(III)I"⟩ prog_1_method_42_code 4 (Option.some FieldType.int) ∈ aj_TB := aj_memL (aj_t6 (List.mem_of_getElem? (i := 91) (by decide +kernel))) (by decide +kernel)
set_option maxRecDepth 20000 in
theorem wd1418 : Cond.instanceMethod ⟨"CageLift", "chance", "(III)I"⟩ ∈ aj_TB := aj_memL (aj_t6 (List.mem_of_getElem? (i := 89) (by decide +kernel))) (by decide +kernel)
set_option maxRecDepth 20000 in
theorem wd1419 : Cond.selects "CageLift" ⟨"CageLift", "chance", "(III)I"⟩ ⟨"CageLift", "chance", "(III)I"⟩ ∈ aj_TB := aj_memL (aj_t6 (List.mem_of_getElem? (i := 90) (by decide +kernel))) (by decide +kernel)
set_option maxRecDepth 20000 in
theorem wd1421 : Cond.methodLink "CageLift" 375 ⟨"CageLift", "drawn", "(II)I"⟩ ∈ aj_TB := aj_memL (aj_t6 (List.mem_of_getElem? (i := 92) (by decide +kernel))) (by decide +kernel)
set_option maxRecDepth 20000 in
theorem wd1424 : Cond.code ⟨"CageLift", "drawn", "(II)I"⟩ prog_1_method_68_code 7 (Option.some FieldType.int) ∈ aj_TB := aj_memL (aj_t6 (List.mem_of_getElem? (i := 95) (by decide +kernel))) (by decide +kernel)
set_option maxRecDepth 20000 in
theorem wd1423 : Cond.instanceMethod ⟨"CageLift", "drawn", "(II)I"⟩ ∈ aj_TB := aj_memL (aj_t6 (List.mem_of_getElem? (i := 94) (by decide +kernel))) (by decide +kernel)
set_option maxRecDepth 20000 in
theorem wd56 : Cond.selects "CageLift" ⟨"CageLift", "drawn", "(II)I"⟩ ⟨"CageLift", "drawn", "(II)I"⟩ ∈ aj_TB := aj_memL (List.mem_append_left _ (List.mem_of_getElem? (i := 56) (by decide +kernel))) (by decide +kernel)
set_option maxRecDepth 20000 in
theorem wd1425 : Cond.methodLink "CageLift" 434 ⟨"CageLift", "worth", "(I)I"⟩ ∈ aj_TB := aj_memL (aj_t6 (List.mem_of_getElem? (i := 96) (by decide +kernel))) (by decide +kernel)
set_option maxRecDepth 20000 in
theorem wd1428 : Cond.code ⟨"CageLift", "worth", "(I)I"⟩ prog_1_method_70_code 3 (Option.some FieldType.int) ∈ aj_TB := aj_memL (aj_t6 (List.mem_of_getElem? (i := 99) (by decide +kernel))) (by decide +kernel)
set_option maxRecDepth 20000 in
theorem wd1427 : Cond.instanceMethod ⟨"CageLift", "worth", "(I)I"⟩ ∈ aj_TB := aj_memL (aj_t6 (List.mem_of_getElem? (i := 98) (by decide +kernel))) (by decide +kernel)
set_option maxRecDepth 20000 in
theorem wd57 : Cond.selects "CageLift" ⟨"CageLift", "worth", "(I)I"⟩ ⟨"CageLift", "worth", "(I)I"⟩ ∈ aj_TB := aj_memL (List.mem_append_left _ (List.mem_of_getElem? (i := 57) (by decide +kernel))) (by decide +kernel)
set_option maxRecDepth 20000 in
theorem wd1429 : Cond.methodLink "CageLift" 437 ⟨"CageLift", "drawLot", "(I)V"⟩ ∈ aj_TB := aj_memL (aj_t6 (List.mem_of_getElem? (i := 100) (by decide +kernel))) (by decide +kernel)
set_option maxRecDepth 20000 in
theorem wd1432 : Cond.code ⟨"CageLift", "drawLot", "(I)V"⟩ prog_1_method_69_code 2 (Option.none : Option FieldType) ∈ aj_TB := aj_memL (aj_t6 (List.mem_of_getElem? (i := 103) (by decide +kernel))) (by decide +kernel)
set_option maxRecDepth 20000 in
theorem wd1431 : Cond.instanceMethod ⟨"CageLift", "drawLot", "(I)V"⟩ ∈ aj_TB := aj_memL (aj_t6 (List.mem_of_getElem? (i := 102) (by decide +kernel))) (by decide +kernel)
set_option maxRecDepth 20000 in
theorem wd58 : Cond.selects "CageLift" ⟨"CageLift", "drawLot", "(I)V"⟩ ⟨"CageLift", "drawLot", "(I)V"⟩ ∈ aj_TB := aj_memL (List.mem_append_left _ (List.mem_of_getElem? (i := 58) (by decide +kernel))) (by decide +kernel)
set_option maxRecDepth 20000 in
theorem wd1433 : Cond.methodLink "CageLift" 378 ⟨"CageLift", "lowest", "(III)I"⟩ ∈ aj_TB := aj_memL (aj_t6 (List.mem_of_getElem? (i := 104) (by decide +kernel))) (by decide +kernel)
set_option maxRecDepth 20000 in
theorem wd1435 : Cond.code ⟨"CageLift", "lowest", "(III)I"⟩ prog_1_method_71_code 8 (Option.some FieldType.int) ∈ aj_TB := aj_memL (aj_t6 (List.mem_of_getElem? (i := 106) (by decide +kernel))) (by decide +kernel)
set_option maxRecDepth 20000 in
theorem wd1434 : Cond.static ⟨"CageLift", "lowest", "(III)I"⟩ ∈ aj_TB := aj_memL (aj_t6 (List.mem_of_getElem? (i := 105) (by decide +kernel))) (by decide +kernel)
set_option maxRecDepth 20000 in
theorem wd1436 : Cond.methodLink "CageLiftLaw" 185 ⟨"CageLift", "mean", "(II)I"⟩ ∈ aj_TB := aj_memL (aj_t6 (List.mem_of_getElem? (i := 107) (by decide +kernel))) (by decide +kernel)
set_option maxRecDepth 20000 in
theorem wd1439 : Cond.code ⟨"CageLift", "mean", "(II)I"⟩ prog_1_method_43_code 3 (Option.some FieldType.int) ∈ aj_TB := aj_memL (aj_t6 (List.mem_of_getElem? (i := 110) (by decide +kernel))) (by decide +kernel)
set_option maxRecDepth 20000 in
theorem wd1437 : Cond.instanceMethod ⟨"CageLift", "mean", "(II)I"⟩ ∈ aj_TB := aj_memL (aj_t6 (List.mem_of_getElem? (i := 108) (by decide +kernel))) (by decide +kernel)
set_option maxRecDepth 20000 in
theorem wd1438 : Cond.selects "CageLift" ⟨"CageLift", "mean", "(II)I"⟩ ⟨"CageLift", "mean", "(II)I"⟩ ∈ aj_TB := aj_memL (aj_t6 (List.mem_of_getElem? (i := 109) (by decide +kernel))) (by decide +kernel)
set_option maxRecDepth 20000 in
theorem wd1440 : Cond.methodLink "CageLiftLaw" 189 ⟨"CageLift", "numbers", "(III)I"⟩ ∈ aj_TB := aj_memL (aj_t6 (List.mem_of_getElem? (i := 111) (by decide +kernel))) (by decide +kernel)
set_option maxRecDepth 20000 in
theorem wd1443 : Cond.code ⟨"CageLift", "numbers", "(III)I"⟩ prog_1_method_44_code 4 (Option.some FieldType.int) ∈ aj_TB := aj_memL (aj_t6 (List.mem_of_getElem? (i := 114) (by decide +kernel))) (by decide +kernel)
set_option maxRecDepth 20000 in
theorem wd1441 : Cond.instanceMethod ⟨"CageLift", "numbers", "(III)I"⟩ ∈ aj_TB := aj_memL (aj_t6 (List.mem_of_getElem? (i := 112) (by decide +kernel))) (by decide +kernel)
set_option maxRecDepth 20000 in
theorem wd1442 : Cond.selects "CageLift" ⟨"CageLift", "numbers", "(III)I"⟩ ⟨"CageLift", "numbers", "(III)I"⟩ ∈ aj_TB := aj_memL (aj_t6 (List.mem_of_getElem? (i := 113) (by decide +kernel))) (by decide +kernel)
set_option maxRecDepth 20000 in
theorem wd1444 : Cond.methodLink "CageLift" 381 ⟨"CageLift$Tray", "lay", "(II)V"⟩ ∈ aj_TB := aj_memL (aj_t6 (List.mem_of_getElem? (i := 115) (by decide +kernel))) (by decide +kernel)
set_option maxRecDepth 20000 in
theorem wd1447 : Cond.code ⟨"CageLift$Tray", "lay", "(II)V"⟩ prog_12_method_3_code 3 (Option.none : Option FieldType) ∈ aj_TB := aj_memL (aj_t6 (List.mem_of_getElem? (i := 118) (by decide +kernel))) (by decide +kernel)
set_option maxRecDepth 20000 in
theorem wd1445 : Cond.instanceMethod ⟨"CageLift$Tray", "lay", "(II)V"⟩ ∈ aj_TB := aj_memL (aj_t6 (List.mem_of_getElem? (i := 116) (by decide +kernel))) (by decide +kernel)
set_option maxRecDepth 20000 in
theorem wd1446 : Cond.selects "CageLift$Tray" ⟨"CageLift$Tray", "lay", "(II)V"⟩ ⟨"CageLift$Tray", "lay", "(II)V"⟩ ∈ aj_TB := aj_memL (aj_t6 (List.mem_of_getElem? (i := 117) (by decide +kernel))) (by decide +kernel)
set_option maxRecDepth 20000 in
theorem wd1448 : Cond.methodLink "CageLift$Tray" 22 ⟨"java/util/Arrays", "fill", "([JJ)V"⟩ ∈ aj_TB := aj_memL (aj_t6 (List.mem_of_getElem? (i := 119) (by decide +kernel))) (by decide +kernel)
set_option maxRecDepth 20000 in
theorem wd1450 : Cond.code ⟨"java/util/Arrays", "fill", "([JJ)V"⟩ prog_22_method_101_code 5 (Option.none : Option FieldType) ∈ aj_TB := aj_memL (aj_t6 (List.mem_of_getElem? (i := 121) (by decide +kernel))) (by decide +kernel)
set_option maxRecDepth 20000 in
theorem wd1449 : Cond.static ⟨"java/util/Arrays", "fill", "([JJ)V"⟩ ∈ aj_TB := aj_memL (aj_t6 (List.mem_of_getElem? (i := 120) (by decide +kernel))) (by decide +kernel)
set_option maxRecDepth 20000 in
theorem wd1451 : Cond.methodLink "CageLiftLaw" 195 ⟨"CageLift", "write", "(IIJ)J"⟩ ∈ aj_TB := aj_memL (aj_t6 (List.mem_of_getElem? (i := 122) (by decide +kernel))) (by decide +kernel)
set_option maxRecDepth 20000 in
theorem wd1454 : Cond.code ⟨"CageLift", "write", "(IIJ)J"⟩ prog_1_method_45_code 7 (Option.some FieldType.long) ∈ aj_TB := aj_memL (aj_t6 (List.mem_of_getElem? (i := 125) (by decide +kernel))) (by decide +kernel)
set_option maxRecDepth 20000 in
theorem wd1452 : Cond.instanceMethod ⟨"CageLift", "write", "(IIJ)J"⟩ ∈ aj_TB := aj_memL (aj_t6 (List.mem_of_getElem? (i := 123) (by decide +kernel))) (by decide +kernel)
set_option maxRecDepth 20000 in
theorem wd1453 : Cond.selects "CageLift" ⟨"CageLift", "write", "(IIJ)J"⟩ ⟨"CageLift", "write", "(IIJ)J"⟩ ∈ aj_TB := aj_memL (aj_t6 (List.mem_of_getElem? (i := 124) (by decide +kernel))) (by decide +kernel)
set_option maxRecDepth 20000 in
theorem wd1456 : Cond.methodLink "CageLift" 387 ⟨"CageLift$Tray", "trimmed", "(J)J"⟩ ∈ aj_TB := aj_memL (aj_t6 (List.mem_of_getElem? (i := 127) (by decide +kernel))) (by decide +kernel)
set_option maxRecDepth 20000 in
theorem wd1459 : Cond.code ⟨"CageLift$Tray", "trimmed", "(J)J"⟩ prog_12_method_4_code 3 (Option.some FieldType.long) ∈ aj_TB := aj_memL (aj_t6 (List.mem_of_getElem? (i := 130) (by decide +kernel))) (by decide +kernel)
set_option maxRecDepth 20000 in
theorem wd1457 : Cond.instanceMethod ⟨"CageLift$Tray", "trimmed", "(J)J"⟩ ∈ aj_TB := aj_memL (aj_t6 (List.mem_of_getElem? (i := 128) (by decide +kernel))) (by decide +kernel)
set_option maxRecDepth 20000 in
theorem wd1458 : Cond.selects "CageLift$Tray" ⟨"CageLift$Tray", "trimmed", "(J)J"⟩ ⟨"CageLift$Tray", "trimmed", "(J)J"⟩ ∈ aj_TB := aj_memL (aj_t6 (List.mem_of_getElem? (i := 129) (by decide +kernel))) (by decide +kernel)
set_option maxRecDepth 20000 in
theorem wd1460 : Cond.methodLink "CageLiftLaw" 200 ⟨"CageLift", "lists", "(I)I"⟩ ∈ aj_TB := aj_memL (aj_t6 (List.mem_of_getElem? (i := 131) (by decide +kernel))) (by decide +kernel)
set_option maxRecDepth 20000 in
theorem wd1463 : Cond.code ⟨"CageLift", "lists", "(I)I"⟩ prog_1_method_46_code 7 (Option.some FieldType.int) ∈ aj_TB := aj_memL (aj_t6 (List.mem_of_getElem? (i := 134) (by decide +kernel))) (by decide +kernel)
set_option maxRecDepth 20000 in
theorem wd1461 : Cond.instanceMethod ⟨"CageLift", "lists", "(I)I"⟩ ∈ aj_TB := aj_memL (aj_t6 (List.mem_of_getElem? (i := 132) (by decide +kernel))) (by decide +kernel)
set_option maxRecDepth 20000 in
theorem wd1462 : Cond.selects "CageLift" ⟨"CageLift", "lists", "(I)I"⟩ ⟨"CageLift", "lists", "(I)I"⟩ ∈ aj_TB := aj_memL (aj_t6 (List.mem_of_getElem? (i := 133) (by decide +kernel))) (by decide +kernel)
set_option maxRecDepth 20000 in
theorem wd1464 : Cond.methodLink "CageLift" 391 ⟨"java/lang/Math", "min", "(II)I"⟩ ∈ aj_TB := aj_memL (aj_t6 (List.mem_of_getElem? (i := 135) (by decide +kernel))) (by decide +kernel)
set_option maxRecDepth 20000 in
theorem wd1465 : Cond.methodLink "CageLiftLaw" 204 ⟨"CageLift", "image", "(I)I"⟩ ∈ aj_TB := aj_memL (aj_t6 (List.mem_of_getElem? (i := 136) (by decide +kernel))) (by decide +kernel)
set_option maxRecDepth 20000 in
theorem wd1468 : Cond.code ⟨"CageLift", "image", "(I)I"⟩ prog_1_method_47_code 2 (Option.some FieldType.int) ∈ aj_TB := aj_memL (aj_t6 (List.mem_of_getElem? (i := 139) (by decide +kernel))) (by decide +kernel)
set_option maxRecDepth 20000 in
theorem wd1466 : Cond.instanceMethod ⟨"CageLift", "image", "(I)I"⟩ ∈ aj_TB := aj_memL (aj_t6 (List.mem_of_getElem? (i := 137) (by decide +kernel))) (by decide +kernel)
set_option maxRecDepth 20000 in
theorem wd1467 : Cond.selects "CageLift" ⟨"CageLift", "image", "(I)I"⟩ ⟨"CageLift", "image", "(I)I"⟩ ∈ aj_TB := aj_memL (aj_t6 (List.mem_of_getElem? (i := 138) (by decide +kernel))) (by decide +kernel)
set_option maxRecDepth 20000 in
theorem wd1469 : Cond.methodLink "CageLift" 396 ⟨"CageLift$Image", "take", "(LCageLift$Plan;LCageLift$Setting;)V"⟩ ∈ aj_TB := aj_memL (aj_t6 (List.mem_of_getElem? (i := 140) (by decide +kernel))) (by decide +kernel)
set_option maxRecDepth 20000 in
theorem wd140 : Cond.initialized "CageLift$Image" ∈ aj_TB := aj_memL (aj_t1 (List.mem_of_getElem? (i := 11) (by decide +kernel))) (by decide +kernel)
set_option maxRecDepth 20000 in
theorem wd1472 : Cond.code ⟨"CageLift$Image", "take", "(LCageLift$Plan;LCageLift$Setting;)V"⟩ prog_5_method_2_code 3 (Option.none : Option FieldType) ∈ aj_TB := aj_memL (aj_t6 (List.mem_of_getElem? (i := 143) (by decide +kernel))) (by decide +kernel)
set_option maxRecDepth 20000 in
theorem wd1470 : Cond.instanceMethod ⟨"CageLift$Image", "take", "(LCageLift$Plan;LCageLift$Setting;)V"⟩ ∈ aj_TB := aj_memL (aj_t6 (List.mem_of_getElem? (i := 141) (by decide +kernel))) (by decide +kernel)
set_option maxRecDepth 20000 in
theorem wd1471 : Cond.selects "CageLift$Image" ⟨"CageLift$Image", "take", "(LCageLift$Plan;LCageLift$Setting;)V"⟩ ⟨"CageLift$Image", "take", "(LCageLift$Plan;LCageLift$Setting;)V"⟩ ∈ aj_TB := aj_memL (aj_t6 (List.mem_of_getElem? (i := 142) (by decide +kernel))) (by decide +kernel)
set_option maxRecDepth 20000 in
theorem wd1473 : Cond.methodLink "CageLift$Image" 27 ⟨"CageLift$Plan", "copyFrom", "(LCageLift$Plan;)V"⟩ ∈ aj_TB := aj_memL (aj_t6 (List.mem_of_getElem? (i := 144) (by decide +kernel))) (by decide +kernel)
set_option maxRecDepth 20000 in
theorem wd1474 : Cond.methodLink "CageLift$Image" 31 ⟨"CageLift$Setting", "copyFrom", "(LCageLift$Setting;)V"⟩ ∈ aj_TB := aj_memL (aj_t6 (List.mem_of_getElem? (i := 145) (by decide +kernel))) (by decide +kernel)
set_option maxRecDepth 20000 in
theorem wd1475 : Cond.methodLink "CageLiftLaw" 208 ⟨"CageLift", "restore", "(I)I"⟩ ∈ aj_TB := aj_memL (aj_t6 (List.mem_of_getElem? (i := 146) (by decide +kernel))) (by decide +kernel)
set_option maxRecDepth 20000 in
theorem wd1478 : Cond.code ⟨"CageLift", "restore", "(I)I"⟩ prog_1_method_48_code 2 (Option.some FieldType.int) ∈ aj_TB := aj_memL (aj_t6 (List.mem_of_getElem? (i := 149) (by decide +kernel))) (by decide +kernel)
set_option maxRecDepth 20000 in
theorem wd1476 : Cond.instanceMethod ⟨"CageLift", "restore", "(I)I"⟩ ∈ aj_TB := aj_memL (aj_t6 (List.mem_of_getElem? (i := 147) (by decide +kernel))) (by decide +kernel)
set_option maxRecDepth 20000 in
theorem wd1477 : Cond.selects "CageLift" ⟨"CageLift", "restore", "(I)I"⟩ ⟨"CageLift", "restore", "(I)I"⟩ ∈ aj_TB := aj_memL (aj_t6 (List.mem_of_getElem? (i := 148) (by decide +kernel))) (by decide +kernel)
set_option maxRecDepth 20000 in
theorem wd1479 : Cond.methodLink "CageLift" 402 ⟨"CageLift$Image", "giveBack", "(LCageLift$Plan;LCageLift$Setting;)V"⟩ ∈ aj_TB := aj_memL (aj_t6 (List.mem_of_getElem? (i := 150) (by decide +kernel))) (by decide +kernel)
set_option maxRecDepth 20000 in
theorem wd1482 : Cond.code ⟨"CageLift$Image", "giveBack", "(LCageLift$Plan;LCageLift$Setting;)V"⟩ prog_5_method_3_code 3 (Option.none : Option FieldType) ∈ aj_TB := aj_memL (aj_t6 (List.mem_of_getElem? (i := 153) (by decide +kernel))) (by decide +kernel)
set_option maxRecDepth 20000 in
theorem wd1480 : Cond.instanceMethod ⟨"CageLift$Image", "giveBack", "(LCageLift$Plan;LCageLift$Setting;)V"⟩ ∈ aj_TB := aj_memL (aj_t6 (List.mem_of_getElem? (i := 151) (by decide +kernel))) (by decide +kernel)
set_option maxRecDepth 20000 in
theorem wd1481 : Cond.selects "CageLift$Image" ⟨"CageLift$Image", "giveBack", "(LCageLift$Plan;LCageLift$Setting;)V"⟩ ⟨"CageLift$Image", "giveBack", "(LCageLift$Plan;LCageLift$Setting;)V"⟩ ∈ aj_TB := aj_memL (aj_t6 (List.mem_of_getElem? (i := 152) (by decide +kernel))) (by decide +kernel)
set_option maxRecDepth 20000 in
theorem wd1483 : Cond.methodLink "CageLiftLaw" 212 ⟨"CageLift", "count", "(I)I"⟩ ∈ aj_TB := aj_memL (aj_t6 (List.mem_of_getElem? (i := 154) (by decide +kernel))) (by decide +kernel)
set_option maxRecDepth 20000 in
theorem wd1486 : Cond.code ⟨"CageLift", "count", "(I)I"⟩ prog_1_method_49_code 2 (Option.some FieldType.int) ∈ aj_TB := aj_memL (aj_t6 (List.mem_of_getElem? (i := 157) (by decide +kernel))) (by decide +kernel)
set_option maxRecDepth 20000 in
theorem wd1484 : Cond.instanceMethod ⟨"CageLift", "count", "(I)I"⟩ ∈ aj_TB := aj_memL (aj_t6 (List.mem_of_getElem? (i := 155) (by decide +kernel))) (by decide +kernel)
set_option maxRecDepth 20000 in
theorem wd1485 : Cond.selects "CageLift" ⟨"CageLift", "count", "(I)I"⟩ ⟨"CageLift", "count", "(I)I"⟩ ∈ aj_TB := aj_memL (aj_t6 (List.mem_of_getElem? (i := 156) (by decide +kernel))) (by decide +kernel)
set_option maxRecDepth 20000 in
theorem wd1493 : Cond.methodLink "CageLiftModel" 88 ⟨"CageLiftModel", "plain", "([I)V"⟩ ∈ aj_TB := aj_memL (aj_t6 (List.mem_of_getElem? (i := 164) (by decide +kernel))) (by decide +kernel)
set_option maxRecDepth 20000 in
theorem wd142 : Cond.initialized "CageLiftModel" ∈ aj_TB := aj_memL (aj_t1 (List.mem_of_getElem? (i := 13) (by decide +kernel))) (by decide +kernel)
set_option maxRecDepth 20000 in
theorem wd1495 : Cond.code ⟨"CageLiftModel", "plain", "([I)V"⟩ prog_14_method_4_code 2 (Option.none : Option FieldType) ∈ aj_TB := aj_memL (aj_t6 (List.mem_of_getElem? (i := 166) (by decide +kernel))) (by decide +kernel)
set_option maxRecDepth 20000 in
theorem wd1494 : Cond.static ⟨"CageLiftModel", "plain", "([I)V"⟩ ∈ aj_TB := aj_memL (aj_t6 (List.mem_of_getElem? (i := 165) (by decide +kernel))) (by decide +kernel)
set_option maxRecDepth 20000 in
theorem wd1496 : Cond.fieldLink "CageLiftModel" 1 "CageLiftModel" "thrown" "I" ∈ aj_TB := aj_memL (aj_t6 (List.mem_of_getElem? (i := 167) (by decide +kernel))) (by decide +kernel)
set_option maxRecDepth 20000 in
theorem wd1497 : Cond.fieldLink "CageLiftModel" 13 "CageLiftModel" "all" "[I" ∈ aj_TB := aj_memL (aj_t6 (List.mem_of_getElem? (i := 168) (by decide +kernel))) (by decide +kernel)
set_option maxRecDepth 20000 in
theorem wd1498 : Cond.fieldLink "CageLiftModel" 17 "CageLiftModel" "hasImage" "[Z" ∈ aj_TB := aj_memL (aj_t6 (List.mem_of_getElem? (i := 169) (by decide +kernel))) (by decide +kernel)
set_option maxRecDepth 20000 in
theorem wd1499 : Cond.fieldLink "CageLiftModel" 21 "CageLiftModel" "tape" "[I" ∈ aj_TB := aj_memL (aj_t6 (List.mem_of_getElem? (i := 170) (by decide +kernel))) (by decide +kernel)
set_option maxRecDepth 20000 in
theorem wd1500 : Cond.fieldLink "CageLiftModel" 24 "CageLiftModel" "fresh" "[I" ∈ aj_TB := aj_memL (aj_t6 (List.mem_of_getElem? (i := 171) (by decide +kernel))) (by decide +kernel)
set_option maxRecDepth 20000 in
theorem wd1501 : Cond.fieldLink "CageLiftModel" 92 "CageLiftModel" "taped" "I" ∈ aj_TB := aj_memL (aj_t6 (List.mem_of_getElem? (i := 172) (by decide +kernel))) (by decide +kernel)
set_option maxRecDepth 20000 in
theorem wd1502 : Cond.fieldLink "CageLiftModel" 110 "CageLiftModel" "at" "I" ∈ aj_TB := aj_memL (aj_t6 (List.mem_of_getElem? (i := 173) (by decide +kernel))) (by decide +kernel)
set_option maxRecDepth 20000 in
theorem wd1503 : Cond.fieldLink "CageLiftModel" 113 "CageLiftModel" "behind" "I" ∈ aj_TB := aj_memL (aj_t6 (List.mem_of_getElem? (i := 174) (by decide +kernel))) (by decide +kernel)
set_option maxRecDepth 20000 in
theorem wd1504 : Cond.fieldLink "CageLiftModel" 95 "CageLiftModel" "size" "I" ∈ aj_TB := aj_memL (aj_t6 (List.mem_of_getElem? (i := 175) (by decide +kernel))) (by decide +kernel)
set_option maxRecDepth 20000 in
theorem wd1505 : Cond.fieldLink "CageLiftModel" 120 "CageLiftModel" "kind" "I" ∈ aj_TB := aj_memL (aj_t6 (List.mem_of_getElem? (i := 176) (by decide +kernel))) (by decide +kernel)
set_option maxRecDepth 20000 in
theorem wd1506 : Cond.fieldLink "CageLiftModel" 133 "CageLiftModel" "number" "I" ∈ aj_TB := aj_memL (aj_t6 (List.mem_of_getElem? (i := 177) (by decide +kernel))) (by decide +kernel)
set_option maxRecDepth 20000 in
theorem wd1507 : Cond.fieldLink "CageLiftModel" 138 "CageLiftModel" "wrong" "I" ∈ aj_TB := aj_memL (aj_t6 (List.mem_of_getElem? (i := 178) (by decide +kernel))) (by decide +kernel)
set_option maxRecDepth 20000 in
theorem wd1508 : Cond.fieldLink "CageLiftModel" 141 "CageLiftModel" "wrongAt" "I" ∈ aj_TB := aj_memL (aj_t6 (List.mem_of_getElem? (i := 179) (by decide +kernel))) (by decide +kernel)
set_option maxRecDepth 20000 in
theorem wd1509 : Cond.fieldLink "CageLiftModel" 243 "CageLiftModel" "faultKind" "I" ∈ aj_TB := aj_memL (aj_t6 (List.mem_of_getElem? (i := 180) (by decide +kernel))) (by decide +kernel)
set_option maxRecDepth 20000 in
theorem wd1510 : Cond.fieldLink "CageLiftModel" 27 "CageLiftModel" "faultPlace" "I" ∈ aj_TB := aj_memL (aj_t6 (List.mem_of_getElem? (i := 181) (by decide +kernel))) (by decide +kernel)
set_option maxRecDepth 20000 in
theorem wd1511 : Cond.fieldLink "CageLiftModel" 221 "CageLiftModel" "arePlaces" "Z" ∈ aj_TB := aj_memL (aj_t6 (List.mem_of_getElem? (i := 182) (by decide +kernel))) (by decide +kernel)
set_option maxRecDepth 20000 in
theorem wd1512 : Cond.fieldLink "CageLiftModel" 30 "CageLiftModel" "reckoned" "[I" ∈ aj_TB := aj_memL (aj_t6 (List.mem_of_getElem? (i := 183) (by decide +kernel))) (by decide +kernel)
set_option maxRecDepth 20000 in
theorem wd1513 : Cond.fieldLink "CageLiftModel" 33 "CageLiftModel" "words" "[I" ∈ aj_TB := aj_memL (aj_t6 (List.mem_of_getElem? (i := 184) (by decide +kernel))) (by decide +kernel)
set_option maxRecDepth 20000 in
theorem wd1514 : Cond.fieldLink "CageLiftModel" 36 "CageLiftModel" "linkOne" "[I" ∈ aj_TB := aj_memL (aj_t6 (List.mem_of_getElem? (i := 185) (by decide +kernel))) (by decide +kernel)
set_option maxRecDepth 20000 in
theorem wd1515 : Cond.fieldLink "CageLiftModel" 39 "CageLiftModel" "linkOther" "[I" ∈ aj_TB := aj_memL (aj_t6 (List.mem_of_getElem? (i := 186) (by decide +kernel))) (by decide +kernel)
set_option maxRecDepth 20000 in
theorem wd1516 : Cond.fieldLink "CageLiftModel" 42 "CageLiftModel" "linkWeight" "[I" ∈ aj_TB := aj_memL (aj_t6 (List.mem_of_getElem? (i := 187) (by decide +kernel))) (by decide +kernel)
set_option maxRecDepth 20000 in
theorem wd1517 : Cond.fieldLink "CageLiftModel" 45 "CageLiftModel" "joined" "[I" ∈ aj_TB := aj_memL (aj_t6 (List.mem_of_getElem? (i := 188) (by decide +kernel))) (by decide +kernel)
set_option maxRecDepth 20000 in
theorem wd1518 : Cond.fieldLink "CageLiftModel" 265 "CageLiftModel" "linkMany" "I" ∈ aj_TB := aj_memL (aj_t6 (List.mem_of_getElem? (i := 189) (by decide +kernel))) (by decide +kernel)
set_option maxRecDepth 20000 in
theorem wd1519 : Cond.fieldLink "CageLiftModel" 271 "CageLiftModel" "nodeMany" "I" ∈ aj_TB := aj_memL (aj_t6 (List.mem_of_getElem? (i := 190) (by decide +kernel))) (by decide +kernel)
set_option maxRecDepth 20000 in
theorem wd1520 : Cond.fieldLink "CageLiftModel" 48 "CageLiftModel" "farOf" "[I" ∈ aj_TB := aj_memL (aj_t6 (List.mem_of_getElem? (i := 191) (by decide +kernel))) (by decide +kernel)
set_option maxRecDepth 20000 in
theorem wd1521 : Cond.fieldLink "CageLiftModel" 51 "CageLiftModel" "rootLink" "[I" ∈ aj_TB := aj_memL (aj_t6 (List.mem_of_getElem? (i := 192) (by decide +kernel))) (by decide +kernel)
set_option maxRecDepth 20000 in
theorem wd1522 : Cond.fieldLink "CageLiftModel" 54 "CageLiftModel" "row" "[I" ∈ aj_TB := aj_memL (aj_t6 (List.mem_of_getElem? (i := 193) (by decide +kernel))) (by decide +kernel)
set_option maxRecDepth 20000 in
theorem wd1523 : Cond.fieldLink "CageLiftModel" 57 "CageLiftModel" "was" "[I" ∈ aj_TB := aj_memL (aj_t6 (List.mem_of_getElem? (i := 194) (by decide +kernel))) (by decide +kernel)
set_option maxRecDepth 20000 in
theorem wd1524 : Cond.fieldLink "CageLiftModel" 318 "CageLiftModel" "toldWhy" "I" ∈ aj_TB := aj_memL (aj_t6 (List.mem_of_getElem? (i := 195) (by decide +kernel))) (by decide +kernel)
set_option maxRecDepth 20000 in
theorem wd1525 : Cond.fieldLink "CageLiftModel" 349 "CageLiftModel" "x" "I" ∈ aj_TB := aj_memL (aj_t6 (List.mem_of_getElem? (i := 196) (by decide +kernel))) (by decide +kernel)
set_option maxRecDepth 20000 in
theorem wd1526 : Cond.fieldLink "CageLiftModel" 60 "CageLiftModel" "ringOf" "[I" ∈ aj_TB := aj_memL (aj_t6 (List.mem_of_getElem? (i := 197) (by decide +kernel))) (by decide +kernel)
set_option maxRecDepth 20000 in
theorem wd1527 : Cond.fieldLink "CageLiftModel" 63 "CageLiftModel" "light1" "[I" ∈ aj_TB := aj_memL (aj_t6 (List.mem_of_getElem? (i := 198) (by decide +kernel))) (by decide +kernel)
set_option maxRecDepth 20000 in
theorem wd1528 : Cond.fieldLink "CageLiftModel" 66 "CageLiftModel" "isSettled" "[Z" ∈ aj_TB := aj_memL (aj_t6 (List.mem_of_getElem? (i := 199) (by decide +kernel))) (by decide +kernel)
set_option maxRecDepth 20000 in
theorem wd1529 : Cond.fieldLink "CageLiftModel" 419 "CageLiftModel" "tunedGirth" "I" ∈ aj_TB := aj_memL (aj_t6 (List.mem_of_getElem? (i := 200) (by decide +kernel))) (by decide +kernel)
set_option maxRecDepth 20000 in
theorem wd1530 : Cond.fieldLink "CageLiftModel" 69 "CageLiftModel" "near" "[I" ∈ aj_TB := aj_memL (aj_t6 (List.mem_of_getElem? (i := 201) (by decide +kernel))) (by decide +kernel)
set_option maxRecDepth 20000 in
theorem wd1531 : Cond.fieldLink "CageLiftModel" 72 "CageLiftModel" "shutOut" "[I" ∈ aj_TB := aj_memL (aj_t6 (List.mem_of_getElem? (i := 202) (by decide +kernel))) (by decide +kernel)
set_option maxRecDepth 20000 in
theorem wd1532 : Cond.fieldLink "CageLiftModel" 437 "CageLiftModel" "wantDegree" "I" ∈ aj_TB := aj_memL (aj_t6 (List.mem_of_getElem? (i := 203) (by decide +kernel))) (by decide +kernel)
set_option maxRecDepth 20000 in
theorem wd1533 : Cond.fieldLink "CageLiftModel" 428 "CageLiftModel" "wantGirth" "I" ∈ aj_TB := aj_memL (aj_t6 (List.mem_of_getElem? (i := 204) (by decide +kernel))) (by decide +kernel)
set_option maxRecDepth 20000 in
theorem wd1534 : Cond.fieldLink "CageLiftModel" 425 "CageLiftModel" "wantNodes" "I" ∈ aj_TB := aj_memL (aj_t6 (List.mem_of_getElem? (i := 205) (by decide +kernel))) (by decide +kernel)
set_option maxRecDepth 20000 in
theorem wd1535 : Cond.fieldLink "CageLiftModel" 440 "CageLiftModel" "stepMany" "I" ∈ aj_TB := aj_memL (aj_t6 (List.mem_of_getElem? (i := 206) (by decide +kernel))) (by decide +kernel)
set_option maxRecDepth 20000 in
theorem wd1536 : Cond.fieldLink "CageLiftModel" 452 "CageLiftModel" "shutMany" "I" ∈ aj_TB := aj_memL (aj_t6 (List.mem_of_getElem? (i := 207) (by decide +kernel))) (by decide +kernel)
set_option maxRecDepth 20000 in
theorem wd1537 : Cond.fieldLink "CageLiftModel" 75 "CageLiftModel" "weightBy" "[I" ∈ aj_TB := aj_memL (aj_t6 (List.mem_of_getElem? (i := 208) (by decide +kernel))) (by decide +kernel)
set_option maxRecDepth 20000 in
theorem wd1538 : Cond.fieldLink "CageLiftModel" 477 "CageLiftModel" "safeSum" "J" ∈ aj_TB := aj_memL (aj_t6 (List.mem_of_getElem? (i := 209) (by decide +kernel))) (by decide +kernel)
set_option maxRecDepth 20000 in
theorem wd1539 : Cond.fieldLink "CageLiftModel" 481 "CageLiftModel" "lengthSum" "J" ∈ aj_TB := aj_memL (aj_t6 (List.mem_of_getElem? (i := 210) (by decide +kernel))) (by decide +kernel)
set_option maxRecDepth 20000 in
theorem wd1540 : Cond.fieldLink "CageLiftModel" 78 "CageLiftModel" "rowSort" "[I" ∈ aj_TB := aj_memL (aj_t6 (List.mem_of_getElem? (i := 211) (by decide +kernel))) (by decide +kernel)
set_option maxRecDepth 20000 in
theorem wd1541 : Cond.fieldLink "CageLiftModel" 81 "CageLiftModel" "rowMany" "[I" ∈ aj_TB := aj_memL (aj_t6 (List.mem_of_getElem? (i := 212) (by decide +kernel))) (by decide +kernel)
set_option maxRecDepth 20000 in
theorem wd1542 : Cond.fieldLink "CageLiftModel" 84 "CageLiftModel" "numbers" "[J" ∈ aj_TB := aj_memL (aj_t6 (List.mem_of_getElem? (i := 213) (by decide +kernel))) (by decide +kernel)
set_option maxRecDepth 20000 in
theorem wd1639 : Cond.methodLink "CageLiftLaw" 17 ⟨"CageLiftModel", "feed", "(IIIII)I"⟩ ∈ aj_TB := aj_memL (aj_t7 (List.mem_of_getElem? (i := 70) (by decide +kernel))) (by decide +kernel)
set_option maxRecDepth 20000 in
theorem wd1642 : Cond.code ⟨"CageLiftModel", "feed", "(IIIII)I"⟩ prog_14_method_5_code 8 (Option.some FieldType.int) ∈ aj_TB := aj_memL (aj_t7 (List.mem_of_getElem? (i := 73) (by decide +kernel))) (by decide +kernel)
set_option maxRecDepth 20000 in
theorem wd1640 : Cond.instanceMethod ⟨"CageLiftModel", "feed", "(IIIII)I"⟩ ∈ aj_TB := aj_memL (aj_t7 (List.mem_of_getElem? (i := 71) (by decide +kernel))) (by decide +kernel)
set_option maxRecDepth 20000 in
theorem wd1641 : Cond.selects "CageLiftModel" ⟨"CageLiftModel", "feed", "(IIIII)I"⟩ ⟨"CageLiftModel", "feed", "(IIIII)I"⟩ ∈ aj_TB := aj_memL (aj_t7 (List.mem_of_getElem? (i := 72) (by decide +kernel))) (by decide +kernel)
set_option maxRecDepth 20000 in
theorem wd1643 : Cond.methodLink "CageLiftLaw" 35 ⟨"CageLiftModel", "product", "(II)I"⟩ ∈ aj_TB := aj_memL (aj_t7 (List.mem_of_getElem? (i := 74) (by decide +kernel))) (by decide +kernel)
set_option maxRecDepth 20000 in
theorem wd1646 : Cond.code ⟨"CageLiftModel", "product", "(II)I"⟩ prog_14_method_33_code 3 (Option.some FieldType.int) ∈ aj_TB := aj_memL (aj_t7 (List.mem_of_getElem? (i := 77) (by decide +kernel))) (by decide +kernel)
set_option maxRecDepth 20000 in
theorem wd1644 : Cond.instanceMethod ⟨"CageLiftModel", "product", "(II)I"⟩ ∈ aj_TB := aj_memL (aj_t7 (List.mem_of_getElem? (i := 75) (by decide +kernel))) (by decide +kernel)
set_option maxRecDepth 20000 in
theorem wd1645 : Cond.selects "CageLiftModel" ⟨"CageLiftModel", "product", "(II)I"⟩ ⟨"CageLiftModel", "product", "(II)I"⟩ ∈ aj_TB := aj_memL (aj_t7 (List.mem_of_getElem? (i := 76) (by decide +kernel))) (by decide +kernel)
set_option maxRecDepth 20000 in
theorem wd1647 : Cond.methodLink "CageLiftModel" 205 ⟨"CageLiftModel", "isMember", "(J)Z"⟩ ∈ aj_TB := aj_memL (aj_t7 (List.mem_of_getElem? (i := 78) (by decide +kernel))) (by decide +kernel)
set_option maxRecDepth 20000 in
theorem wd1650 : Cond.code ⟨"CageLiftModel", "isMember", "(J)Z"⟩ prog_14_method_32_code 3 (Option.some FieldType.boolean) ∈ aj_TB := aj_memL (aj_t7 (List.mem_of_getElem? (i := 81) (by decide +kernel))) (by decide +kernel)
set_option maxRecDepth 20000 in
theorem wd1649 : Cond.instanceMethod ⟨"CageLiftModel", "isMember", "(J)Z"⟩ ∈ aj_TB := aj_memL (aj_t7 (List.mem_of_getElem? (i := 80) (by decide +kernel))) (by decide +kernel)
set_option maxRecDepth 20000 in
theorem wd59 : Cond.selects "CageLiftModel" ⟨"CageLiftModel", "isMember", "(J)Z"⟩ ⟨"CageLiftModel", "isMember", "(J)Z"⟩ ∈ aj_TB := aj_memL (List.mem_append_left _ (List.mem_of_getElem? (i := 59) (by decide +kernel))) (by decide +kernel)
set_option maxRecDepth 20000 in
theorem wd1651 : Cond.methodLink "CageLiftModel" 154 ⟨"CageLiftModel", "within", "(JJJ)Z"⟩ ∈ aj_TB := aj_memL (aj_t7 (List.mem_of_getElem? (i := 82) (by decide +kernel))) (by decide +kernel)
set_option maxRecDepth 20000 in
theorem wd1653 : Cond.code ⟨"CageLiftModel", "within", "(JJJ)Z"⟩ prog_14_method_2_code 6 (Option.some FieldType.boolean) ∈ aj_TB := aj_memL (aj_t7 (List.mem_of_getElem? (i := 84) (by decide +kernel))) (by decide +kernel)
set_option maxRecDepth 20000 in
theorem wd1652 : Cond.static ⟨"CageLiftModel", "within", "(JJJ)Z"⟩ ∈ aj_TB := aj_memL (aj_t7 (List.mem_of_getElem? (i := 83) (by decide +kernel))) (by decide +kernel)
set_option maxRecDepth 20000 in
theorem wd1654 : Cond.methodLink "CageLiftModel" 202 ⟨"CageLiftModel", "timesNow", "(II)I"⟩ ∈ aj_TB := aj_memL (aj_t7 (List.mem_of_getElem? (i := 85) (by decide +kernel))) (by decide +kernel)
set_option maxRecDepth 20000 in
theorem wd1657 : Cond.code ⟨"CageLiftModel", "timesNow", "(II)I"⟩ prog_14_method_30_code 3 (Option.some FieldType.int) ∈ aj_TB := aj_memL (aj_t7 (List.mem_of_getElem? (i := 88) (by decide +kernel))) (by decide +kernel)
set_option maxRecDepth 20000 in
theorem wd1656 : Cond.instanceMethod ⟨"CageLiftModel", "timesNow", "(II)I"⟩ ∈ aj_TB := aj_memL (aj_t7 (List.mem_of_getElem? (i := 87) (by decide +kernel))) (by decide +kernel)
set_option maxRecDepth 20000 in
theorem wd60 : Cond.selects "CageLiftModel" ⟨"CageLiftModel", "timesNow", "(II)I"⟩ ⟨"CageLiftModel", "timesNow", "(II)I"⟩ ∈ aj_TB := aj_memL (List.mem_append_left _ (List.mem_of_getElem? (i := 60) (by decide +kernel))) (by decide +kernel)
set_option maxRecDepth 20000 in
theorem wd1658 : Cond.methodLink "CageLiftModel" 198 ⟨"CageLiftModel", "times", "([III)I"⟩ ∈ aj_TB := aj_memL (aj_t7 (List.mem_of_getElem? (i := 89) (by decide +kernel))) (by decide +kernel)
set_option maxRecDepth 20000 in
theorem wd1660 : Cond.code ⟨"CageLiftModel", "times", "([III)I"⟩ prog_14_method_27_code 5 (Option.some FieldType.int) ∈ aj_TB := aj_memL (aj_t7 (List.mem_of_getElem? (i := 91) (by decide +kernel))) (by decide +kernel)
set_option maxRecDepth 20000 in
theorem wd1659 : Cond.static ⟨"CageLiftModel", "times", "([III)I"⟩ ∈ aj_TB := aj_memL (aj_t7 (List.mem_of_getElem? (i := 90) (by decide +kernel))) (by decide +kernel)
set_option maxRecDepth 20000 in
theorem wd1661 : Cond.methodLink "CageLiftModel" 191 ⟨"CageLiftModel", "timesUnits", "(II)I"⟩ ∈ aj_TB := aj_memL (aj_t7 (List.mem_of_getElem? (i := 92) (by decide +kernel))) (by decide +kernel)
set_option maxRecDepth 20000 in
theorem wd1663 : Cond.code ⟨"CageLiftModel", "timesUnits", "(II)I"⟩ prog_14_method_28_code 6 (Option.some FieldType.int) ∈ aj_TB := aj_memL (aj_t7 (List.mem_of_getElem? (i := 94) (by decide +kernel))) (by decide +kernel)
set_option maxRecDepth 20000 in
theorem wd1662 : Cond.static ⟨"CageLiftModel", "timesUnits", "(II)I"⟩ ∈ aj_TB := aj_memL (aj_t7 (List.mem_of_getElem? (i := 93) (by decide +kernel))) (by decide +kernel)
set_option maxRecDepth 20000 in
theorem wd1664 : Cond.methodLink "CageLiftModel" 195 ⟨"CageLiftModel", "restOf", "(II)I"⟩ ∈ aj_TB := aj_memL (aj_t7 (List.mem_of_getElem? (i := 95) (by decide +kernel))) (by decide +kernel)
set_option maxRecDepth 20000 in
theorem wd1666 : Cond.code ⟨"CageLiftModel", "restOf", "(II)I"⟩ prog_14_method_26_code 3 (Option.some FieldType.int) ∈ aj_TB := aj_memL (aj_t7 (List.mem_of_getElem? (i := 97) (by decide +kernel))) (by decide +kernel)
set_option maxRecDepth 20000 in
theorem wd1665 : Cond.static ⟨"CageLiftModel", "restOf", "(II)I"⟩ ∈ aj_TB := aj_memL (aj_t7 (List.mem_of_getElem? (i := 96) (by decide +kernel))) (by decide +kernel)
set_option maxRecDepth 20000 in
theorem wd1667 : Cond.methodLink "CageLiftLaw" 39 ⟨"CageLiftModel", "inverse", "(I)I"⟩ ∈ aj_TB := aj_memL (aj_t7 (List.mem_of_getElem? (i := 98) (by decide +kernel))) (by decide +kernel)
set_option maxRecDepth 20000 in
theorem wd1670 : Cond.code ⟨"CageLiftModel", "inverse", "(I)I"⟩ prog_14_method_34_code 2 (Option.some FieldType.int) ∈ aj_TB := aj_memL (aj_t7 (List.mem_of_getElem? (i := 101) (by decide +kernel))) (by decide +kernel)
set_option maxRecDepth 20000 in
theorem wd1668 : Cond.instanceMethod ⟨"CageLiftModel", "inverse", "(I)I"⟩ ∈ aj_TB := aj_memL (aj_t7 (List.mem_of_getElem? (i := 99) (by decide +kernel))) (by decide +kernel)
set_option maxRecDepth 20000 in
theorem wd1669 : Cond.selects "CageLiftModel" ⟨"CageLiftModel", "inverse", "(I)I"⟩ ⟨"CageLiftModel", "inverse", "(I)I"⟩ ∈ aj_TB := aj_memL (aj_t7 (List.mem_of_getElem? (i := 100) (by decide +kernel))) (by decide +kernel)
set_option maxRecDepth 20000 in
theorem wd1671 : Cond.methodLink "CageLiftModel" 209 ⟨"CageLiftModel", "inverseOf", "(I)I"⟩ ∈ aj_TB := aj_memL (aj_t7 (List.mem_of_getElem? (i := 102) (by decide +kernel))) (by decide +kernel)
set_option maxRecDepth 20000 in
theorem wd1674 : Cond.code ⟨"CageLiftModel", "inverseOf", "(I)I"⟩ prog_14_method_31_code 3 (Option.some FieldType.int) ∈ aj_TB := aj_memL (aj_t7 (List.mem_of_getElem? (i := 105) (by decide +kernel))) (by decide +kernel)
set_option maxRecDepth 20000 in
theorem wd1673 : Cond.instanceMethod ⟨"CageLiftModel", "inverseOf", "(I)I"⟩ ∈ aj_TB := aj_memL (aj_t7 (List.mem_of_getElem? (i := 104) (by decide +kernel))) (by decide +kernel)
set_option maxRecDepth 20000 in
theorem wd61 : Cond.selects "CageLiftModel" ⟨"CageLiftModel", "inverseOf", "(I)I"⟩ ⟨"CageLiftModel", "inverseOf", "(I)I"⟩ ∈ aj_TB := aj_memL (List.mem_append_left _ (List.mem_of_getElem? (i := 61) (by decide +kernel))) (by decide +kernel)
set_option maxRecDepth 20000 in
theorem wd1675 : Cond.methodLink "CageLiftLaw" 43 ⟨"CageLiftModel", "orderOf", "(I)I"⟩ ∈ aj_TB := aj_memL (aj_t7 (List.mem_of_getElem? (i := 106) (by decide +kernel))) (by decide +kernel)
set_option maxRecDepth 20000 in
theorem wd1678 : Cond.code ⟨"CageLiftModel", "orderOf", "(I)I"⟩ prog_14_method_35_code 2 (Option.some FieldType.int) ∈ aj_TB := aj_memL (aj_t7 (List.mem_of_getElem? (i := 109) (by decide +kernel))) (by decide +kernel)
set_option maxRecDepth 20000 in
theorem wd1676 : Cond.instanceMethod ⟨"CageLiftModel", "orderOf", "(I)I"⟩ ∈ aj_TB := aj_memL (aj_t7 (List.mem_of_getElem? (i := 107) (by decide +kernel))) (by decide +kernel)
set_option maxRecDepth 20000 in
theorem wd1677 : Cond.selects "CageLiftModel" ⟨"CageLiftModel", "orderOf", "(I)I"⟩ ⟨"CageLiftModel", "orderOf", "(I)I"⟩ ∈ aj_TB := aj_memL (aj_t7 (List.mem_of_getElem? (i := 108) (by decide +kernel))) (by decide +kernel)
set_option maxRecDepth 20000 in
theorem wd1679 : Cond.methodLink "CageLiftModel" 212 ⟨"CageLiftModel", "ordersOf", "([II)I"⟩ ∈ aj_TB := aj_memL (aj_t7 (List.mem_of_getElem? (i := 110) (by decide +kernel))) (by decide +kernel)
set_option maxRecDepth 20000 in
theorem wd1681 : Cond.code ⟨"CageLiftModel", "ordersOf", "([II)I"⟩ prog_14_method_29_code 4 (Option.some FieldType.int) ∈ aj_TB := aj_memL (aj_t7 (List.mem_of_getElem? (i := 112) (by decide +kernel))) (by decide +kernel)
set_option maxRecDepth 20000 in
theorem wd1680 : Cond.static ⟨"CageLiftModel", "ordersOf", "([II)I"⟩ ∈ aj_TB := aj_memL (aj_t7 (List.mem_of_getElem? (i := 111) (by decide +kernel))) (by decide +kernel)
set_option maxRecDepth 20000 in
theorem wd1682 : Cond.methodLink "CageLiftLaw" 48 ⟨"CageLiftModel", "centre", "()I"⟩ ∈ aj_TB := aj_memL (aj_t7 (List.mem_of_getElem? (i := 113) (by decide +kernel))) (by decide +kernel)
set_option maxRecDepth 20000 in
theorem wd1685 : Cond.code ⟨"CageLiftModel", "centre", "()I"⟩ prog_14_method_36_code 5 (Option.some FieldType.int) ∈ aj_TB := aj_memL (aj_t7 (List.mem_of_getElem? (i := 116) (by decide +kernel))) (by decide +kernel)
set_option maxRecDepth 20000 in
theorem wd1683 : Cond.instanceMethod ⟨"CageLiftModel", "centre", "()I"⟩ ∈ aj_TB := aj_memL (aj_t7 (List.mem_of_getElem? (i := 114) (by decide +kernel))) (by decide +kernel)
set_option maxRecDepth 20000 in
theorem wd1684 : Cond.selects "CageLiftModel" ⟨"CageLiftModel", "centre", "()I"⟩ ⟨"CageLiftModel", "centre", "()I"⟩ ∈ aj_TB := aj_memL (aj_t7 (List.mem_of_getElem? (i := 115) (by decide +kernel))) (by decide +kernel)
set_option maxRecDepth 20000 in
theorem wd1686 : Cond.methodLink "CageLiftLaw" 22 ⟨"CageLiftModel", "works", "(I)I"⟩ ∈ aj_TB := aj_memL (aj_t7 (List.mem_of_getElem? (i := 117) (by decide +kernel))) (by decide +kernel)
set_option maxRecDepth 20000 in
theorem wd1689 : Cond.code ⟨"CageLiftModel", "works", "(I)I"⟩ prog_14_method_43_code 3 (Option.some FieldType.int) ∈ aj_TB := aj_memL (aj_t7 (List.mem_of_getElem? (i := 120) (by decide +kernel))) (by decide +kernel)
set_option maxRecDepth 20000 in
theorem wd1687 : Cond.instanceMethod ⟨"CageLiftModel", "works", "(I)I"⟩ ∈ aj_TB := aj_memL (aj_t7 (List.mem_of_getElem? (i := 118) (by decide +kernel))) (by decide +kernel)
set_option maxRecDepth 20000 in
theorem wd1688 : Cond.selects "CageLiftModel" ⟨"CageLiftModel", "works", "(I)I"⟩ ⟨"CageLiftModel", "works", "(I)I"⟩ ∈ aj_TB := aj_memL (aj_t7 (List.mem_of_getElem? (i := 119) (by decide +kernel))) (by decide +kernel)
set_option maxRecDepth 20000 in
theorem wd1690 : Cond.methodLink "CageLiftModel" 147 ⟨"CageLiftModel", "next", "()V"⟩ ∈ aj_TB := aj_memL (aj_t7 (List.mem_of_getElem? (i := 121) (by decide +kernel))) (by decide +kernel)
set_option maxRecDepth 20000 in
theorem wd1693 : Cond.code ⟨"CageLiftModel", "next", "()V"⟩ prog_14_method_10_code 2 (Option.none : Option FieldType) ∈ aj_TB := aj_memL (aj_t7 (List.mem_of_getElem? (i := 124) (by decide +kernel))) (by decide +kernel)
set_option maxRecDepth 20000 in
theorem wd1692 : Cond.instanceMethod ⟨"CageLiftModel", "next", "()V"⟩ ∈ aj_TB := aj_memL (aj_t7 (List.mem_of_getElem? (i := 123) (by decide +kernel))) (by decide +kernel)
set_option maxRecDepth 20000 in
theorem wd62 : Cond.selects "CageLiftModel" ⟨"CageLiftModel", "next", "()V"⟩ ⟨"CageLiftModel", "next", "()V"⟩ ∈ aj_TB := aj_memL (List.mem_append_left _ (List.mem_of_getElem? (i := 62) (by decide +kernel))) (by decide +kernel)
set_option maxRecDepth 20000 in
theorem wd1694 : Cond.methodLink "CageLiftModel" 116 ⟨"CageLiftModel", "see", "(I)I"⟩ ∈ aj_TB := aj_memL (aj_t7 (List.mem_of_getElem? (i := 125) (by decide +kernel))) (by decide +kernel)
set_option maxRecDepth 20000 in
theorem wd1697 : Cond.code ⟨"CageLiftModel", "see", "(I)I"⟩ prog_14_method_6_code 2 (Option.some FieldType.int) ∈ aj_TB := aj_memL (aj_t7 (List.mem_of_getElem? (i := 128) (by decide +kernel))) (by decide +kernel)
set_option maxRecDepth 20000 in
theorem wd1696 : Cond.instanceMethod ⟨"CageLiftModel", "see", "(I)I"⟩ ∈ aj_TB := aj_memL (aj_t7 (List.mem_of_getElem? (i := 127) (by decide +kernel))) (by decide +kernel)
set_option maxRecDepth 20000 in
theorem wd63 : Cond.selects "CageLiftModel" ⟨"CageLiftModel", "see", "(I)I"⟩ ⟨"CageLiftModel", "see", "(I)I"⟩ ∈ aj_TB := aj_memL (List.mem_append_left _ (List.mem_of_getElem? (i := 63) (by decide +kernel))) (by decide +kernel)
set_option maxRecDepth 20000 in
theorem wd1698 : Cond.methodLink "CageLiftModel" 123 ⟨"CageLiftModel", "isSmall", "(I)Z"⟩ ∈ aj_TB := aj_memL (aj_t7 (List.mem_of_getElem? (i := 129) (by decide +kernel))) (by decide +kernel)
set_option maxRecDepth 20000 in
theorem wd1700 : Cond.code ⟨"CageLiftModel", "isSmall", "(I)Z"⟩ prog_14_method_7_code 1 (Option.some FieldType.boolean) ∈ aj_TB := aj_memL (aj_t7 (List.mem_of_getElem? (i := 131) (by decide +kernel))) (by decide +kernel)
set_option maxRecDepth 20000 in
theorem wd1699 : Cond.static ⟨"CageLiftModel", "isSmall", "(I)Z"⟩ ∈ aj_TB := aj_memL (aj_t7 (List.mem_of_getElem? (i := 130) (by decide +kernel))) (by decide +kernel)
set_option maxRecDepth 20000 in
theorem wd1701 : Cond.methodLink "CageLiftModel" 127 ⟨"CageLiftModel", "keyAt", "()I"⟩ ∈ aj_TB := aj_memL (aj_t7 (List.mem_of_getElem? (i := 132) (by decide +kernel))) (by decide +kernel)
set_option maxRecDepth 20000 in
theorem wd1704 : Cond.code ⟨"CageLiftModel", "keyAt", "()I"⟩ prog_14_method_9_code 4 (Option.some FieldType.int) ∈ aj_TB := aj_memL (aj_t7 (List.mem_of_getElem? (i := 135) (by decide +kernel))) (by decide +kernel)
set_option maxRecDepth 20000 in
theorem wd1703 : Cond.instanceMethod ⟨"CageLiftModel", "keyAt", "()I"⟩ ∈ aj_TB := aj_memL (aj_t7 (List.mem_of_getElem? (i := 134) (by decide +kernel))) (by decide +kernel)
set_option maxRecDepth 20000 in
theorem wd64 : Cond.selects "CageLiftModel" ⟨"CageLiftModel", "keyAt", "()I"⟩ ⟨"CageLiftModel", "keyAt", "()I"⟩ ∈ aj_TB := aj_memL (List.mem_append_left _ (List.mem_of_getElem? (i := 64) (by decide +kernel))) (by decide +kernel)
set_option maxRecDepth 20000 in
theorem wd1706 : Cond.methodLink "CageLiftModel" 100 ⟨"java/lang/String", "length", "()I"⟩ ∈ aj_TB := aj_memL (aj_t7 (List.mem_of_getElem? (i := 137) (by decide +kernel))) (by decide +kernel)
set_option maxRecDepth 20000 in
theorem wd1707 : Cond.methodLink "CageLiftModel" 106 ⟨"java/lang/String", "charAt", "(I)C"⟩ ∈ aj_TB := aj_memL (aj_t7 (List.mem_of_getElem? (i := 138) (by decide +kernel))) (by decide +kernel)
set_option maxRecDepth 20000 in
theorem wd1708 : Cond.methodLink "CageLiftModel" 130 ⟨"CageLiftModel", "isDigit", "(I)Z"⟩ ∈ aj_TB := aj_memL (aj_t7 (List.mem_of_getElem? (i := 139) (by decide +kernel))) (by decide +kernel)
set_option maxRecDepth 20000 in
theorem wd1710 : Cond.code ⟨"CageLiftModel", "isDigit", "(I)Z"⟩ prog_14_method_8_code 1 (Option.some FieldType.boolean) ∈ aj_TB := aj_memL (aj_t7 (List.mem_of_getElem? (i := 141) (by decide +kernel))) (by decide +kernel)
set_option maxRecDepth 20000 in
theorem wd1709 : Cond.static ⟨"CageLiftModel", "isDigit", "(I)Z"⟩ ∈ aj_TB := aj_memL (aj_t7 (List.mem_of_getElem? (i := 140) (by decide +kernel))) (by decide +kernel)
set_option maxRecDepth 20000 in
theorem wd1712 : Cond.methodLink "CageLiftModel" 170 ⟨"CageLiftModel", "eats", "(I)Z"⟩ ∈ aj_TB := aj_memL (aj_t7 (List.mem_of_getElem? (i := 143) (by decide +kernel))) (by decide +kernel)
set_option maxRecDepth 20000 in
theorem wd1715 : Cond.code ⟨"CageLiftModel", "eats", "(I)Z"⟩ prog_14_method_13_code 2 (Option.some FieldType.boolean) ∈ aj_TB := aj_memL (aj_t7 (List.mem_of_getElem? (i := 146) (by decide +kernel))) (by decide +kernel)
set_option maxRecDepth 20000 in
theorem wd1714 : Cond.instanceMethod ⟨"CageLiftModel", "eats", "(I)Z"⟩ ∈ aj_TB := aj_memL (aj_t7 (List.mem_of_getElem? (i := 145) (by decide +kernel))) (by decide +kernel)
set_option maxRecDepth 20000 in
theorem wd65 : Cond.selects "CageLiftModel" ⟨"CageLiftModel", "eats", "(I)Z"⟩ ⟨"CageLiftModel", "eats", "(I)Z"⟩ ∈ aj_TB := aj_memL (List.mem_append_left _ (List.mem_of_getElem? (i := 65) (by decide +kernel))) (by decide +kernel)
set_option maxRecDepth 20000 in
theorem wd1716 : Cond.methodLink "CageLiftModel" 144 ⟨"CageLiftModel", "is", "(I)Z"⟩ ∈ aj_TB := aj_memL (aj_t7 (List.mem_of_getElem? (i := 147) (by decide +kernel))) (by decide +kernel)
set_option maxRecDepth 20000 in
theorem wd1719 : Cond.code ⟨"CageLiftModel", "is", "(I)Z"⟩ prog_14_method_12_code 2 (Option.some FieldType.boolean) ∈ aj_TB := aj_memL (aj_t7 (List.mem_of_getElem? (i := 150) (by decide +kernel))) (by decide +kernel)
set_option maxRecDepth 20000 in
theorem wd1718 : Cond.instanceMethod ⟨"CageLiftModel", "is", "(I)Z"⟩ ∈ aj_TB := aj_memL (aj_t7 (List.mem_of_getElem? (i := 149) (by decide +kernel))) (by decide +kernel)
set_option maxRecDepth 20000 in
theorem wd66 : Cond.selects "CageLiftModel" ⟨"CageLiftModel", "is", "(I)Z"⟩ ⟨"CageLiftModel", "is", "(I)Z"⟩ ∈ aj_TB := aj_memL (List.mem_append_left _ (List.mem_of_getElem? (i := 66) (by decide +kernel))) (by decide +kernel)
set_option maxRecDepth 20000 in
theorem wd1720 : Cond.methodLink "CageLiftModel" 150 ⟨"CageLiftModel", "fails", "(I)V"⟩ ∈ aj_TB := aj_memL (aj_t7 (List.mem_of_getElem? (i := 151) (by decide +kernel))) (by decide +kernel)
set_option maxRecDepth 20000 in
theorem wd1723 : Cond.code ⟨"CageLiftModel", "fails", "(I)V"⟩ prog_14_method_11_code 2 (Option.none : Option FieldType) ∈ aj_TB := aj_memL (aj_t7 (List.mem_of_getElem? (i := 154) (by decide +kernel))) (by decide +kernel)
set_option maxRecDepth 20000 in
theorem wd1722 : Cond.instanceMethod ⟨"CageLiftModel", "fails", "(I)V"⟩ ∈ aj_TB := aj_memL (aj_t7 (List.mem_of_getElem? (i := 153) (by decide +kernel))) (by decide +kernel)
set_option maxRecDepth 20000 in
theorem wd67 : Cond.selects "CageLiftModel" ⟨"CageLiftModel", "fails", "(I)V"⟩ ⟨"CageLiftModel", "fails", "(I)V"⟩ ∈ aj_TB := aj_memL (List.mem_append_left _ (List.mem_of_getElem? (i := 67) (by decide +kernel))) (by decide +kernel)
set_option maxRecDepth 20000 in
theorem wd1724 : Cond.methodLink "CageLiftModel" 234 ⟨"CageLiftModel", "readGroup", "()V"⟩ ∈ aj_TB := aj_memL (aj_t7 (List.mem_of_getElem? (i := 155) (by decide +kernel))) (by decide +kernel)
set_option maxRecDepth 20000 in
theorem wd1727 : Cond.code ⟨"CageLiftModel", "readGroup", "()V"⟩ prog_14_method_37_code 2 (Option.none : Option FieldType) ∈ aj_TB := aj_memL (aj_t7 (List.mem_of_getElem? (i := 158) (by decide +kernel))) (by decide +kernel)
set_option maxRecDepth 20000 in
theorem wd1726 : Cond.instanceMethod ⟨"CageLiftModel", "readGroup", "()V"⟩ ∈ aj_TB := aj_memL (aj_t7 (List.mem_of_getElem? (i := 157) (by decide +kernel))) (by decide +kernel)
set_option maxRecDepth 20000 in
theorem wd68 : Cond.selects "CageLiftModel" ⟨"CageLiftModel", "readGroup", "()V"⟩ ⟨"CageLiftModel", "readGroup", "()V"⟩ ∈ aj_TB := aj_memL (List.mem_append_left _ (List.mem_of_getElem? (i := 68) (by decide +kernel))) (by decide +kernel)
set_option maxRecDepth 20000 in
theorem wd1729 : Cond.methodLink "CageLiftModel" 218 ⟨"CageLiftModel", "takes", "(II)I"⟩ ∈ aj_TB := aj_memL (aj_t7 (List.mem_of_getElem? (i := 160) (by decide +kernel))) (by decide +kernel)
set_option maxRecDepth 20000 in
theorem wd1732 : Cond.code ⟨"CageLiftModel", "takes", "(II)I"⟩ prog_14_method_14_code 4 (Option.some FieldType.int) ∈ aj_TB := aj_memL (aj_t7 (List.mem_of_getElem? (i := 163) (by decide +kernel))) (by decide +kernel)
set_option maxRecDepth 20000 in
theorem wd1731 : Cond.instanceMethod ⟨"CageLiftModel", "takes", "(II)I"⟩ ∈ aj_TB := aj_memL (aj_t7 (List.mem_of_getElem? (i := 162) (by decide +kernel))) (by decide +kernel)
set_option maxRecDepth 20000 in
theorem wd69 : Cond.selects "CageLiftModel" ⟨"CageLiftModel", "takes", "(II)I"⟩ ⟨"CageLiftModel", "takes", "(II)I"⟩ ∈ aj_TB := aj_memL (List.mem_append_left _ (List.mem_of_getElem? (i := 69) (by decide +kernel))) (by decide +kernel)
set_option maxRecDepth 20000 in
theorem wd1733 : Cond.methodLink "CageLiftModel" 237 ⟨"CageLiftModel", "closes", "()V"⟩ ∈ aj_TB := aj_memL (aj_t7 (List.mem_of_getElem? (i := 164) (by decide +kernel))) (by decide +kernel)
set_option maxRecDepth 20000 in
theorem wd1736 : Cond.code ⟨"CageLiftModel", "closes", "()V"⟩ prog_14_method_42_code 1 (Option.none : Option FieldType) ∈ aj_TB := aj_memL (aj_t7 (List.mem_of_getElem? (i := 167) (by decide +kernel))) (by decide +kernel)
set_option maxRecDepth 20000 in
theorem wd1735 : Cond.instanceMethod ⟨"CageLiftModel", "closes", "()V"⟩ ∈ aj_TB := aj_memL (aj_t7 (List.mem_of_getElem? (i := 166) (by decide +kernel))) (by decide +kernel)
set_option maxRecDepth 20000 in
theorem wd70 : Cond.selects "CageLiftModel" ⟨"CageLiftModel", "closes", "()V"⟩ ⟨"CageLiftModel", "closes", "()V"⟩ ∈ aj_TB := aj_memL (List.mem_append_left _ (List.mem_of_getElem? (i := 70) (by decide +kernel))) (by decide +kernel)
set_option maxRecDepth 20000 in
theorem wd1737 : Cond.methodLink "CageLiftModel" 240 ⟨"CageLiftModel", "readLine", "()V"⟩ ∈ aj_TB := aj_memL (aj_t7 (List.mem_of_getElem? (i := 168) (by decide +kernel))) (by decide +kernel)
set_option maxRecDepth 20000 in
theorem wd1740 : Cond.code ⟨"CageLiftModel", "readLine", "()V"⟩ prog_14_method_41_code 1 (Option.none : Option FieldType) ∈ aj_TB := aj_memL (aj_t7 (List.mem_of_getElem? (i := 171) (by decide +kernel))) (by decide +kernel)
set_option maxRecDepth 20000 in
theorem wd1739 : Cond.instanceMethod ⟨"CageLiftModel", "readLine", "()V"⟩ ∈ aj_TB := aj_memL (aj_t7 (List.mem_of_getElem? (i := 170) (by decide +kernel))) (by decide +kernel)
set_option maxRecDepth 20000 in
theorem wd71 : Cond.selects "CageLiftModel" ⟨"CageLiftModel", "readLine", "()V"⟩ ⟨"CageLiftModel", "readLine", "()V"⟩ ∈ aj_TB := aj_memL (List.mem_append_left _ (List.mem_of_getElem? (i := 71) (by decide +kernel))) (by decide +kernel)
set_option maxRecDepth 20000 in
theorem wd1741 : Cond.methodLink "CageLiftModel" 225 ⟨"CageLiftModel", "readPlaces", "()V"⟩ ∈ aj_TB := aj_memL (aj_t7 (List.mem_of_getElem? (i := 172) (by decide +kernel))) (by decide +kernel)
set_option maxRecDepth 20000 in
theorem wd1744 : Cond.code ⟨"CageLiftModel", "readPlaces", "()V"⟩ prog_14_method_38_code 1 (Option.none : Option FieldType) ∈ aj_TB := aj_memL (aj_t7 (List.mem_of_getElem? (i := 175) (by decide +kernel))) (by decide +kernel)
set_option maxRecDepth 20000 in
theorem wd1743 : Cond.instanceMethod ⟨"CageLiftModel", "readPlaces", "()V"⟩ ∈ aj_TB := aj_memL (aj_t7 (List.mem_of_getElem? (i := 174) (by decide +kernel))) (by decide +kernel)
set_option maxRecDepth 20000 in
theorem wd72 : Cond.selects "CageLiftModel" ⟨"CageLiftModel", "readPlaces", "()V"⟩ ⟨"CageLiftModel", "readPlaces", "()V"⟩ ∈ aj_TB := aj_memL (List.mem_append_left _ (List.mem_of_getElem? (i := 72) (by decide +kernel))) (by decide +kernel)
set_option maxRecDepth 20000 in
theorem wd1745 : Cond.methodLink "CageLiftModel" 228 ⟨"CageLiftModel", "readArc", "()V"⟩ ∈ aj_TB := aj_memL (aj_t7 (List.mem_of_getElem? (i := 176) (by decide +kernel))) (by decide +kernel)
set_option maxRecDepth 20000 in
theorem wd1748 : Cond.code ⟨"CageLiftModel", "readArc", "()V"⟩ prog_14_method_39_code 3 (Option.none : Option FieldType) ∈ aj_TB := aj_memL (aj_t7 (List.mem_of_getElem? (i := 179) (by decide +kernel))) (by decide +kernel)
set_option maxRecDepth 20000 in
theorem wd1747 : Cond.instanceMethod ⟨"CageLiftModel", "readArc", "()V"⟩ ∈ aj_TB := aj_memL (aj_t7 (List.mem_of_getElem? (i := 178) (by decide +kernel))) (by decide +kernel)
set_option maxRecDepth 20000 in
theorem wd73 : Cond.selects "CageLiftModel" ⟨"CageLiftModel", "readArc", "()V"⟩ ⟨"CageLiftModel", "readArc", "()V"⟩ ∈ aj_TB := aj_memL (List.mem_append_left _ (List.mem_of_getElem? (i := 73) (by decide +kernel))) (by decide +kernel)
set_option maxRecDepth 20000 in
theorem wd1749 : Cond.methodLink "CageLiftModel" 231 ⟨"CageLiftModel", "readLaw", "(I)V"⟩ ∈ aj_TB := aj_memL (aj_t7 (List.mem_of_getElem? (i := 180) (by decide +kernel))) (by decide +kernel)
set_option maxRecDepth 20000 in
theorem wd1752 : Cond.code ⟨"CageLiftModel", "readLaw", "(I)V"⟩ prog_14_method_40_code 3 (Option.none : Option FieldType) ∈ aj_TB := aj_memL (aj_t7 (List.mem_of_getElem? (i := 183) (by decide +kernel))) (by decide +kernel)
set_option maxRecDepth 20000 in
theorem wd1751 : Cond.instanceMethod ⟨"CageLiftModel", "readLaw", "(I)V"⟩ ∈ aj_TB := aj_memL (aj_t7 (List.mem_of_getElem? (i := 182) (by decide +kernel))) (by decide +kernel)
set_option maxRecDepth 20000 in
theorem wd74 : Cond.selects "CageLiftModel" ⟨"CageLiftModel", "readLaw", "(I)V"⟩ ⟨"CageLiftModel", "readLaw", "(I)V"⟩ ∈ aj_TB := aj_memL (List.mem_append_left _ (List.mem_of_getElem? (i := 74) (by decide +kernel))) (by decide +kernel)
set_option maxRecDepth 20000 in
theorem wd1753 : Cond.methodLink "CageLiftModel" 167 ⟨"CageLiftModel", "readSum", "(I)V"⟩ ∈ aj_TB := aj_memL (aj_t7 (List.mem_of_getElem? (i := 184) (by decide +kernel))) (by decide +kernel)
set_option maxRecDepth 20000 in
theorem wd1756 : Cond.code ⟨"CageLiftModel", "readSum", "(I)V"⟩ prog_14_method_22_code 3 (Option.none : Option FieldType) ∈ aj_TB := aj_memL (aj_t7 (List.mem_of_getElem? (i := 187) (by decide +kernel))) (by decide +kernel)
set_option maxRecDepth 20000 in
theorem wd1755 : Cond.instanceMethod ⟨"CageLiftModel", "readSum", "(I)V"⟩ ∈ aj_TB := aj_memL (aj_t7 (List.mem_of_getElem? (i := 186) (by decide +kernel))) (by decide +kernel)
