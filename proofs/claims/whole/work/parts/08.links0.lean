set_option maxRecDepth 20000 in
theorem cfX0 : aj_CF 0 RX0 TX0 tyX0 := ⟨rfl, aj_ws_of [190, 192, 194, 196] (by decide +kernel) (by decide +kernel), tyX0_ok, nmX0, by unfold aj_kd; decide +kernel⟩
set_option maxRecDepth 20000 in
theorem cfX1 : aj_CF 1 RX1 TX1 tyX1 := ⟨rfl, aj_ws_of [371, 373, 375] (by decide +kernel) (by decide +kernel), tyX1_ok, nmX1, by unfold aj_kd; decide +kernel⟩
set_option maxRecDepth 20000 in
theorem cfX2 : aj_CF 2 RX2 TX2 tyX2 := ⟨rfl, aj_ws_of [513, 515, 517, 519, 521, 523, 525, 527] (by decide +kernel) (by decide +kernel), tyX2_ok, nmX2, by unfold aj_kd; decide +kernel⟩
set_option maxRecDepth 20000 in
theorem cfX3 : aj_CF 3 RX3 TX3 tyX3 := ⟨rfl, aj_ws_of [543, 545, 547] (by decide +kernel) (by decide +kernel), tyX3_ok, nmX3, by unfold aj_kd; decide +kernel⟩
set_option maxRecDepth 20000 in
theorem cfX4 : aj_CF 4 RX4 TX4 tyX4 := ⟨rfl, aj_ws_of [223, 225, 227, 229, 231, 233, 235] (by decide +kernel) (by decide +kernel), tyX4_ok, nmX4, by unfold aj_kd; decide +kernel⟩
set_option maxRecDepth 20000 in
theorem cfX5 : aj_CF 5 RX5 TX5 tyX5 := ⟨rfl, aj_ws_of [423, 425, 427, 429, 431, 433, 435, 437, 439, 441, 443, 445, 447, 449, 451, 453, 455] (by decide +kernel) (by decide +kernel), tyX5_ok, nmX5, by unfold aj_kd; decide +kernel⟩
set_option maxRecDepth 20000 in
theorem cfX6 : aj_CF 6 RX6 TX6 tyX6 := ⟨rfl, aj_ws_of [272, 274, 276, 278, 280, 282, 284, 286, 288, 290, 292, 294] (by decide +kernel) (by decide +kernel), tyX6_ok, nmX6, by unfold aj_kd; decide +kernel⟩
set_option maxRecDepth 20000 in
theorem cfX7 : aj_CF 7 RX7 TX7 tyX7 := ⟨rfl, aj_ws_of [312, 314, 316, 318, 320, 322, 324, 326, 328, 330, 332] (by decide +kernel) (by decide +kernel), tyX7_ok, nmX7, by unfold aj_kd; decide +kernel⟩
set_option maxRecDepth 20000 in
theorem cfX8 : aj_CF 8 RX8 TX8 tyX8 := ⟨rfl, aj_ws_of [472, 474, 476, 478, 480, 482, 484, 486, 488, 490] (by decide +kernel) (by decide +kernel), tyX8_ok, nmX8, by unfold aj_kd; decide +kernel⟩
set_option maxRecDepth 20000 in
theorem cfX9 : aj_CF 9 RX9 TX9 tyX9 := ⟨rfl, aj_ws_of [351, 353, 355] (by decide +kernel) (by decide +kernel), tyX9_ok, nmX9, by unfold aj_kd; decide +kernel⟩
set_option maxRecDepth 20000 in
theorem cfX10 : aj_CF 10 RX10 TX10 tyX10 := ⟨rfl, aj_ws_of [560, 562, 564] (by decide +kernel) (by decide +kernel), tyX10_ok, nmX10, by unfold aj_kd; decide +kernel⟩
set_option maxRecDepth 20000 in
theorem cfX11 : aj_CF 11 RX11 TX11 tyX11 := ⟨rfl, aj_ws_of [581, 583, 585, 587, 589, 591, 593, 595, 597, 599, 601, 603, 605] (by decide +kernel) (by decide +kernel), tyX11_ok, nmX11, by unfold aj_kd; decide +kernel⟩
set_option maxRecDepth 20000 in
theorem cfX12 : aj_CF 12 RX12 TX12 tyX12 := ⟨rfl, aj_ws_of [1543, 1545, 1547, 1549, 1551, 1553, 1555, 1557, 1559, 1561, 1563, 1565, 1567, 1569, 1571, 1573, 1575, 1577, 1579, 1581, 1583, 1585, 1587, 1589, 1591, 1593, 1595, 1597, 1599, 1601, 1603, 1605, 1607, 1609, 1611, 1613, 1615, 1617, 1619, 1621, 1623, 1625, 1627, 1629, 1631, 1633, 1635] (by decide +kernel) (by decide +kernel), tyX12_ok, nmX12, by unfold aj_kd; decide +kernel⟩
set_option maxRecDepth 20000 in
theorem flX0_9 : aj_FL RX0 9 0 0 := ⟨_, _, _, cfX0, by decide, aj_mem 178 (by decide +kernel) (by decide +kernel)⟩
set_option maxRecDepth 20000 in
theorem fpX0_9 : aj_FP RX0 9 0 0 := ⟨_, _, _, cfX0, by decide, aj_mem 178 (by decide +kernel) (by decide +kernel), rfl⟩
set_option maxRecDepth 20000 in
theorem flX5_72 : aj_FL RX5 72 0 0 := ⟨_, _, _, cfX0, by decide, aj_mem 179 (by decide +kernel) (by decide +kernel)⟩
set_option maxRecDepth 20000 in
theorem fpX5_72 : aj_FP RX5 72 0 0 := ⟨_, _, _, cfX0, by decide, aj_mem 179 (by decide +kernel) (by decide +kernel), rfl⟩
set_option maxRecDepth 20000 in
theorem flX6_96 : aj_FL RX6 96 0 0 := ⟨_, _, _, cfX0, by decide, aj_mem 180 (by decide +kernel) (by decide +kernel)⟩
set_option maxRecDepth 20000 in
theorem fpX6_96 : aj_FP RX6 96 0 0 := ⟨_, _, _, cfX0, by decide, aj_mem 180 (by decide +kernel) (by decide +kernel), rfl⟩
set_option maxRecDepth 20000 in
theorem flX7_133 : aj_FL RX7 133 0 0 := ⟨_, _, _, cfX0, by decide, aj_mem 181 (by decide +kernel) (by decide +kernel)⟩
set_option maxRecDepth 20000 in
theorem fpX7_133 : aj_FP RX7 133 0 0 := ⟨_, _, _, cfX0, by decide, aj_mem 181 (by decide +kernel) (by decide +kernel), rfl⟩
set_option maxRecDepth 20000 in
theorem flX11_327 : aj_FL RX11 327 0 0 := ⟨_, _, _, cfX0, by decide, aj_mem 182 (by decide +kernel) (by decide +kernel)⟩
set_option maxRecDepth 20000 in
theorem fpX11_327 : aj_FP RX11 327 0 0 := ⟨_, _, _, cfX0, by decide, aj_mem 182 (by decide +kernel) (by decide +kernel), rfl⟩
set_option maxRecDepth 20000 in
theorem flX0_15 : aj_FL RX0 15 0 1 := ⟨_, _, _, cfX0, by decide, aj_mem 183 (by decide +kernel) (by decide +kernel)⟩
set_option maxRecDepth 20000 in
theorem flX0_19 : aj_FL RX0 19 0 2 := ⟨_, _, _, cfX0, by decide, aj_mem 184 (by decide +kernel) (by decide +kernel)⟩
set_option maxRecDepth 20000 in
theorem flX11_149 : aj_FL RX11 149 0 2 := ⟨_, _, _, cfX0, by decide, aj_mem 185 (by decide +kernel) (by decide +kernel)⟩
set_option maxRecDepth 20000 in
theorem flX0_22 : aj_FL RX0 22 0 3 := ⟨_, _, _, cfX0, by decide, aj_mem 186 (by decide +kernel) (by decide +kernel)⟩
set_option maxRecDepth 20000 in
theorem flX6_87 : aj_FL RX6 87 0 3 := ⟨_, _, _, cfX0, by decide, aj_mem 187 (by decide +kernel) (by decide +kernel)⟩
set_option maxRecDepth 20000 in
theorem flX11_152 : aj_FL RX11 152 0 3 := ⟨_, _, _, cfX0, by decide, aj_mem 188 (by decide +kernel) (by decide +kernel)⟩
set_option maxRecDepth 20000 in
theorem flX7_143 : aj_FL RX7 143 0 3 := ⟨_, _, _, cfX0, by decide, aj_mem 189 (by decide +kernel) (by decide +kernel)⟩
set_option maxRecDepth 20000 in
theorem flX4_9 : aj_FL RX4 9 4 0 := ⟨_, _, _, cfX4, by decide, aj_mem 207 (by decide +kernel) (by decide +kernel)⟩
set_option maxRecDepth 20000 in
theorem flX4_15 : aj_FL RX4 15 4 1 := ⟨_, _, _, cfX4, by decide, aj_mem 208 (by decide +kernel) (by decide +kernel)⟩
set_option maxRecDepth 20000 in
theorem fpX4_15 : aj_FP RX4 15 4 1 := ⟨_, _, _, cfX4, by decide, aj_mem 208 (by decide +kernel) (by decide +kernel), rfl⟩
set_option maxRecDepth 20000 in
theorem flX7_151 : aj_FL RX7 151 4 1 := ⟨_, _, _, cfX4, by decide, aj_mem 209 (by decide +kernel) (by decide +kernel)⟩
set_option maxRecDepth 20000 in
theorem fpX7_151 : aj_FP RX7 151 4 1 := ⟨_, _, _, cfX4, by decide, aj_mem 209 (by decide +kernel) (by decide +kernel), rfl⟩
set_option maxRecDepth 20000 in
theorem flX4_19 : aj_FL RX4 19 4 2 := ⟨_, _, _, cfX4, by decide, aj_mem 210 (by decide +kernel) (by decide +kernel)⟩
set_option maxRecDepth 20000 in
theorem fpX4_19 : aj_FP RX4 19 4 2 := ⟨_, _, _, cfX4, by decide, aj_mem 210 (by decide +kernel) (by decide +kernel), rfl⟩
set_option maxRecDepth 20000 in
theorem flX6_93 : aj_FL RX6 93 4 2 := ⟨_, _, _, cfX4, by decide, aj_mem 211 (by decide +kernel) (by decide +kernel)⟩
set_option maxRecDepth 20000 in
theorem fpX6_93 : aj_FP RX6 93 4 2 := ⟨_, _, _, cfX4, by decide, aj_mem 211 (by decide +kernel) (by decide +kernel), rfl⟩
set_option maxRecDepth 20000 in
theorem flX7_157 : aj_FL RX7 157 4 2 := ⟨_, _, _, cfX4, by decide, aj_mem 212 (by decide +kernel) (by decide +kernel)⟩
set_option maxRecDepth 20000 in
theorem fpX7_157 : aj_FP RX7 157 4 2 := ⟨_, _, _, cfX4, by decide, aj_mem 212 (by decide +kernel) (by decide +kernel), rfl⟩
set_option maxRecDepth 20000 in
theorem flX4_22 : aj_FL RX4 22 4 3 := ⟨_, _, _, cfX4, by decide, aj_mem 213 (by decide +kernel) (by decide +kernel)⟩
set_option maxRecDepth 20000 in
theorem fpX4_22 : aj_FP RX4 22 4 3 := ⟨_, _, _, cfX4, by decide, aj_mem 213 (by decide +kernel) (by decide +kernel), rfl⟩
set_option maxRecDepth 20000 in
theorem flX6_90 : aj_FL RX6 90 4 3 := ⟨_, _, _, cfX4, by decide, aj_mem 214 (by decide +kernel) (by decide +kernel)⟩
set_option maxRecDepth 20000 in
theorem fpX6_90 : aj_FP RX6 90 4 3 := ⟨_, _, _, cfX4, by decide, aj_mem 214 (by decide +kernel) (by decide +kernel), rfl⟩
set_option maxRecDepth 20000 in
theorem flX7_160 : aj_FL RX7 160 4 3 := ⟨_, _, _, cfX4, by decide, aj_mem 215 (by decide +kernel) (by decide +kernel)⟩
set_option maxRecDepth 20000 in
theorem fpX7_160 : aj_FP RX7 160 4 3 := ⟨_, _, _, cfX4, by decide, aj_mem 215 (by decide +kernel) (by decide +kernel), rfl⟩
set_option maxRecDepth 20000 in
theorem flX4_25 : aj_FL RX4 25 4 4 := ⟨_, _, _, cfX4, by decide, aj_mem 216 (by decide +kernel) (by decide +kernel)⟩
set_option maxRecDepth 20000 in
theorem fpX4_25 : aj_FP RX4 25 4 4 := ⟨_, _, _, cfX4, by decide, aj_mem 216 (by decide +kernel) (by decide +kernel), rfl⟩
set_option maxRecDepth 20000 in
theorem flX6_106 : aj_FL RX6 106 4 4 := ⟨_, _, _, cfX4, by decide, aj_mem 217 (by decide +kernel) (by decide +kernel)⟩
set_option maxRecDepth 20000 in
theorem fpX6_106 : aj_FP RX6 106 4 4 := ⟨_, _, _, cfX4, by decide, aj_mem 217 (by decide +kernel) (by decide +kernel), rfl⟩
set_option maxRecDepth 20000 in
theorem flX7_166 : aj_FL RX7 166 4 4 := ⟨_, _, _, cfX4, by decide, aj_mem 218 (by decide +kernel) (by decide +kernel)⟩
set_option maxRecDepth 20000 in
theorem fpX7_166 : aj_FP RX7 166 4 4 := ⟨_, _, _, cfX4, by decide, aj_mem 218 (by decide +kernel) (by decide +kernel), rfl⟩
set_option maxRecDepth 20000 in
theorem flX4_28 : aj_FL RX4 28 4 5 := ⟨_, _, _, cfX4, by decide, aj_mem 219 (by decide +kernel) (by decide +kernel)⟩
set_option maxRecDepth 20000 in
theorem fpX4_28 : aj_FP RX4 28 4 5 := ⟨_, _, _, cfX4, by decide, aj_mem 219 (by decide +kernel) (by decide +kernel), rfl⟩
set_option maxRecDepth 20000 in
theorem flX6_103 : aj_FL RX6 103 4 5 := ⟨_, _, _, cfX4, by decide, aj_mem 220 (by decide +kernel) (by decide +kernel)⟩
set_option maxRecDepth 20000 in
theorem fpX6_103 : aj_FP RX6 103 4 5 := ⟨_, _, _, cfX4, by decide, aj_mem 220 (by decide +kernel) (by decide +kernel), rfl⟩
set_option maxRecDepth 20000 in
theorem flX7_169 : aj_FL RX7 169 4 5 := ⟨_, _, _, cfX4, by decide, aj_mem 221 (by decide +kernel) (by decide +kernel)⟩
set_option maxRecDepth 20000 in
theorem fpX7_169 : aj_FP RX7 169 4 5 := ⟨_, _, _, cfX4, by decide, aj_mem 221 (by decide +kernel) (by decide +kernel), rfl⟩
set_option maxRecDepth 20000 in
theorem flX4_31 : aj_FL RX4 31 4 6 := ⟨_, _, _, cfX4, by decide, aj_mem 222 (by decide +kernel) (by decide +kernel)⟩
set_option maxRecDepth 20000 in
theorem flX6_12 : aj_FL RX6 12 6 0 := ⟨_, _, _, cfX6, by decide, aj_mem 238 (by decide +kernel) (by decide +kernel)⟩
set_option maxRecDepth 20000 in
theorem flX5_66 : aj_FL RX5 66 6 0 := ⟨_, _, _, cfX6, by decide, aj_mem 239 (by decide +kernel) (by decide +kernel)⟩
set_option maxRecDepth 20000 in
theorem flX7_89 : aj_FL RX7 89 6 0 := ⟨_, _, _, cfX6, by decide, aj_mem 240 (by decide +kernel) (by decide +kernel)⟩
set_option maxRecDepth 20000 in
theorem flX11_136 : aj_FL RX11 136 6 0 := ⟨_, _, _, cfX6, by decide, aj_mem 241 (by decide +kernel) (by decide +kernel)⟩
set_option maxRecDepth 20000 in
theorem flX6_21 : aj_FL RX6 21 6 1 := ⟨_, _, _, cfX6, by decide, aj_mem 242 (by decide +kernel) (by decide +kernel)⟩
set_option maxRecDepth 20000 in
theorem flX7_147 : aj_FL RX7 147 6 1 := ⟨_, _, _, cfX6, by decide, aj_mem 243 (by decide +kernel) (by decide +kernel)⟩
set_option maxRecDepth 20000 in
theorem flX6_25 : aj_FL RX6 25 6 2 := ⟨_, _, _, cfX6, by decide, aj_mem 244 (by decide +kernel) (by decide +kernel)⟩
set_option maxRecDepth 20000 in
theorem fpX6_25 : aj_FP RX6 25 6 2 := ⟨_, _, _, cfX6, by decide, aj_mem 244 (by decide +kernel) (by decide +kernel), rfl⟩
set_option maxRecDepth 20000 in
theorem flX9_31 : aj_FL RX9 31 6 2 := ⟨_, _, _, cfX6, by decide, aj_mem 245 (by decide +kernel) (by decide +kernel)⟩
set_option maxRecDepth 20000 in
theorem fpX9_31 : aj_FP RX9 31 6 2 := ⟨_, _, _, cfX6, by decide, aj_mem 245 (by decide +kernel) (by decide +kernel), rfl⟩
set_option maxRecDepth 20000 in
theorem flX7_83 : aj_FL RX7 83 6 2 := ⟨_, _, _, cfX6, by decide, aj_mem 246 (by decide +kernel) (by decide +kernel)⟩
set_option maxRecDepth 20000 in
theorem fpX7_83 : aj_FP RX7 83 6 2 := ⟨_, _, _, cfX6, by decide, aj_mem 246 (by decide +kernel) (by decide +kernel), rfl⟩
set_option maxRecDepth 20000 in
theorem flX6_29 : aj_FL RX6 29 6 3 := ⟨_, _, _, cfX6, by decide, aj_mem 247 (by decide +kernel) (by decide +kernel)⟩
set_option maxRecDepth 20000 in
theorem fpX6_29 : aj_FP RX6 29 6 3 := ⟨_, _, _, cfX6, by decide, aj_mem 247 (by decide +kernel) (by decide +kernel), rfl⟩
set_option maxRecDepth 20000 in
theorem flX5_77 : aj_FL RX5 77 6 3 := ⟨_, _, _, cfX6, by decide, aj_mem 248 (by decide +kernel) (by decide +kernel)⟩
set_option maxRecDepth 20000 in
theorem fpX5_77 : aj_FP RX5 77 6 3 := ⟨_, _, _, cfX6, by decide, aj_mem 248 (by decide +kernel) (by decide +kernel), rfl⟩
set_option maxRecDepth 20000 in
theorem flX7_127 : aj_FL RX7 127 6 3 := ⟨_, _, _, cfX6, by decide, aj_mem 249 (by decide +kernel) (by decide +kernel)⟩
set_option maxRecDepth 20000 in
theorem fpX7_127 : aj_FP RX7 127 6 3 := ⟨_, _, _, cfX6, by decide, aj_mem 249 (by decide +kernel) (by decide +kernel), rfl⟩
set_option maxRecDepth 20000 in
theorem flX11_405 : aj_FL RX11 405 6 3 := ⟨_, _, _, cfX6, by decide, aj_mem 250 (by decide +kernel) (by decide +kernel)⟩
set_option maxRecDepth 20000 in
theorem fpX11_405 : aj_FP RX11 405 6 3 := ⟨_, _, _, cfX6, by decide, aj_mem 250 (by decide +kernel) (by decide +kernel), rfl⟩
set_option maxRecDepth 20000 in
theorem flX6_32 : aj_FL RX6 32 6 4 := ⟨_, _, _, cfX6, by decide, aj_mem 251 (by decide +kernel) (by decide +kernel)⟩
set_option maxRecDepth 20000 in
theorem fpX6_32 : aj_FP RX6 32 6 4 := ⟨_, _, _, cfX6, by decide, aj_mem 251 (by decide +kernel) (by decide +kernel), rfl⟩
set_option maxRecDepth 20000 in
theorem flX5_89 : aj_FL RX5 89 6 4 := ⟨_, _, _, cfX6, by decide, aj_mem 252 (by decide +kernel) (by decide +kernel)⟩
set_option maxRecDepth 20000 in
theorem fpX5_89 : aj_FP RX5 89 6 4 := ⟨_, _, _, cfX6, by decide, aj_mem 252 (by decide +kernel) (by decide +kernel), rfl⟩
set_option maxRecDepth 20000 in
theorem flX7_121 : aj_FL RX7 121 6 4 := ⟨_, _, _, cfX6, by decide, aj_mem 253 (by decide +kernel) (by decide +kernel)⟩
set_option maxRecDepth 20000 in
theorem fpX7_121 : aj_FP RX7 121 6 4 := ⟨_, _, _, cfX6, by decide, aj_mem 253 (by decide +kernel) (by decide +kernel), rfl⟩
set_option maxRecDepth 20000 in
theorem flX11_368 : aj_FL RX11 368 6 4 := ⟨_, _, _, cfX6, by decide, aj_mem 254 (by decide +kernel) (by decide +kernel)⟩
set_option maxRecDepth 20000 in
theorem fpX11_368 : aj_FP RX11 368 6 4 := ⟨_, _, _, cfX6, by decide, aj_mem 254 (by decide +kernel) (by decide +kernel), rfl⟩
set_option maxRecDepth 20000 in
theorem flX6_35 : aj_FL RX6 35 6 5 := ⟨_, _, _, cfX6, by decide, aj_mem 255 (by decide +kernel) (by decide +kernel)⟩
set_option maxRecDepth 20000 in
theorem fpX6_35 : aj_FP RX6 35 6 5 := ⟨_, _, _, cfX6, by decide, aj_mem 255 (by decide +kernel) (by decide +kernel), rfl⟩
set_option maxRecDepth 20000 in
theorem flX11_112 : aj_FL RX11 112 6 5 := ⟨_, _, _, cfX6, by decide, aj_mem 256 (by decide +kernel) (by decide +kernel)⟩
set_option maxRecDepth 20000 in
theorem fpX11_112 : aj_FP RX11 112 6 5 := ⟨_, _, _, cfX6, by decide, aj_mem 256 (by decide +kernel) (by decide +kernel), rfl⟩
set_option maxRecDepth 20000 in
theorem flX7_74 : aj_FL RX7 74 6 5 := ⟨_, _, _, cfX6, by decide, aj_mem 257 (by decide +kernel) (by decide +kernel)⟩
set_option maxRecDepth 20000 in
theorem fpX7_74 : aj_FP RX7 74 6 5 := ⟨_, _, _, cfX6, by decide, aj_mem 257 (by decide +kernel) (by decide +kernel), rfl⟩
set_option maxRecDepth 20000 in
theorem flX6_38 : aj_FL RX6 38 6 6 := ⟨_, _, _, cfX6, by decide, aj_mem 258 (by decide +kernel) (by decide +kernel)⟩
set_option maxRecDepth 20000 in
theorem fpX6_38 : aj_FP RX6 38 6 6 := ⟨_, _, _, cfX6, by decide, aj_mem 258 (by decide +kernel) (by decide +kernel), rfl⟩
set_option maxRecDepth 20000 in
theorem flX6_41 : aj_FL RX6 41 6 7 := ⟨_, _, _, cfX6, by decide, aj_mem 259 (by decide +kernel) (by decide +kernel)⟩
set_option maxRecDepth 20000 in
theorem flX5_109 : aj_FL RX5 109 6 7 := ⟨_, _, _, cfX6, by decide, aj_mem 260 (by decide +kernel) (by decide +kernel)⟩
set_option maxRecDepth 20000 in
theorem flX11_121 : aj_FL RX11 121 6 7 := ⟨_, _, _, cfX6, by decide, aj_mem 261 (by decide +kernel) (by decide +kernel)⟩
set_option maxRecDepth 20000 in
theorem flX4_61 : aj_FL RX4 61 6 7 := ⟨_, _, _, cfX6, by decide, aj_mem 262 (by decide +kernel) (by decide +kernel)⟩
set_option maxRecDepth 20000 in
theorem flX6_45 : aj_FL RX6 45 6 8 := ⟨_, _, _, cfX6, by decide, aj_mem 263 (by decide +kernel) (by decide +kernel)⟩
set_option maxRecDepth 20000 in
theorem flX5_112 : aj_FL RX5 112 6 8 := ⟨_, _, _, cfX6, by decide, aj_mem 264 (by decide +kernel) (by decide +kernel)⟩
set_option maxRecDepth 20000 in
theorem flX11_124 : aj_FL RX11 124 6 8 := ⟨_, _, _, cfX6, by decide, aj_mem 265 (by decide +kernel) (by decide +kernel)⟩
set_option maxRecDepth 20000 in
theorem flX4_66 : aj_FL RX4 66 6 8 := ⟨_, _, _, cfX6, by decide, aj_mem 266 (by decide +kernel) (by decide +kernel)⟩
set_option maxRecDepth 20000 in
theorem flX6_48 : aj_FL RX6 48 6 9 := ⟨_, _, _, cfX6, by decide, aj_mem 267 (by decide +kernel) (by decide +kernel)⟩
set_option maxRecDepth 20000 in
theorem flX9_22 : aj_FL RX9 22 6 9 := ⟨_, _, _, cfX6, by decide, aj_mem 268 (by decide +kernel) (by decide +kernel)⟩
set_option maxRecDepth 20000 in
theorem flX6_51 : aj_FL RX6 51 6 10 := ⟨_, _, _, cfX6, by decide, aj_mem 269 (by decide +kernel) (by decide +kernel)⟩
set_option maxRecDepth 20000 in
theorem fpX6_51 : aj_FP RX6 51 6 10 := ⟨_, _, _, cfX6, by decide, aj_mem 269 (by decide +kernel) (by decide +kernel), rfl⟩
set_option maxRecDepth 20000 in
theorem flX6_54 : aj_FL RX6 54 6 11 := ⟨_, _, _, cfX6, by decide, aj_mem 270 (by decide +kernel) (by decide +kernel)⟩
set_option maxRecDepth 20000 in
theorem flX5_106 : aj_FL RX5 106 6 11 := ⟨_, _, _, cfX6, by decide, aj_mem 271 (by decide +kernel) (by decide +kernel)⟩
set_option maxRecDepth 20000 in
theorem flX7_9 : aj_FL RX7 9 7 0 := ⟨_, _, _, cfX7, by decide, aj_mem 297 (by decide +kernel) (by decide +kernel)⟩
set_option maxRecDepth 20000 in
theorem flX7_15 : aj_FL RX7 15 7 1 := ⟨_, _, _, cfX7, by decide, aj_mem 298 (by decide +kernel) (by decide +kernel)⟩
set_option maxRecDepth 20000 in
theorem fpX7_15 : aj_FP RX7 15 7 1 := ⟨_, _, _, cfX7, by decide, aj_mem 298 (by decide +kernel) (by decide +kernel), rfl⟩
set_option maxRecDepth 20000 in
theorem flX11_86 : aj_FL RX11 86 7 1 := ⟨_, _, _, cfX7, by decide, aj_mem 299 (by decide +kernel) (by decide +kernel)⟩
set_option maxRecDepth 20000 in
theorem fpX11_86 : aj_FP RX11 86 7 1 := ⟨_, _, _, cfX7, by decide, aj_mem 299 (by decide +kernel) (by decide +kernel), rfl⟩
set_option maxRecDepth 20000 in
theorem flX7_19 : aj_FL RX7 19 7 2 := ⟨_, _, _, cfX7, by decide, aj_mem 300 (by decide +kernel) (by decide +kernel)⟩
set_option maxRecDepth 20000 in
theorem fpX7_19 : aj_FP RX7 19 7 2 := ⟨_, _, _, cfX7, by decide, aj_mem 300 (by decide +kernel) (by decide +kernel), rfl⟩
set_option maxRecDepth 20000 in
theorem flX7_25 : aj_FL RX7 25 7 3 := ⟨_, _, _, cfX7, by decide, aj_mem 301 (by decide +kernel) (by decide +kernel)⟩
set_option maxRecDepth 20000 in
theorem flX11_101 : aj_FL RX11 101 7 3 := ⟨_, _, _, cfX7, by decide, aj_mem 302 (by decide +kernel) (by decide +kernel)⟩
set_option maxRecDepth 20000 in
theorem flX7_29 : aj_FL RX7 29 7 4 := ⟨_, _, _, cfX7, by decide, aj_mem 303 (by decide +kernel) (by decide +kernel)⟩
set_option maxRecDepth 20000 in
theorem fpX7_29 : aj_FP RX7 29 7 4 := ⟨_, _, _, cfX7, by decide, aj_mem 303 (by decide +kernel) (by decide +kernel), rfl⟩
set_option maxRecDepth 20000 in
theorem flX7_33 : aj_FL RX7 33 7 5 := ⟨_, _, _, cfX7, by decide, aj_mem 304 (by decide +kernel) (by decide +kernel)⟩
set_option maxRecDepth 20000 in
theorem fpX7_33 : aj_FP RX7 33 7 5 := ⟨_, _, _, cfX7, by decide, aj_mem 304 (by decide +kernel) (by decide +kernel), rfl⟩
set_option maxRecDepth 20000 in
theorem flX7_36 : aj_FL RX7 36 7 6 := ⟨_, _, _, cfX7, by decide, aj_mem 305 (by decide +kernel) (by decide +kernel)⟩
set_option maxRecDepth 20000 in
theorem fpX7_36 : aj_FP RX7 36 7 6 := ⟨_, _, _, cfX7, by decide, aj_mem 305 (by decide +kernel) (by decide +kernel), rfl⟩
set_option maxRecDepth 20000 in
theorem flX7_39 : aj_FL RX7 39 7 7 := ⟨_, _, _, cfX7, by decide, aj_mem 306 (by decide +kernel) (by decide +kernel)⟩
set_option maxRecDepth 20000 in
theorem fpX7_39 : aj_FP RX7 39 7 7 := ⟨_, _, _, cfX7, by decide, aj_mem 306 (by decide +kernel) (by decide +kernel), rfl⟩
set_option maxRecDepth 20000 in
theorem flX7_42 : aj_FL RX7 42 7 8 := ⟨_, _, _, cfX7, by decide, aj_mem 307 (by decide +kernel) (by decide +kernel)⟩
set_option maxRecDepth 20000 in
theorem fpX7_42 : aj_FP RX7 42 7 8 := ⟨_, _, _, cfX7, by decide, aj_mem 307 (by decide +kernel) (by decide +kernel), rfl⟩
set_option maxRecDepth 20000 in
theorem flX7_45 : aj_FL RX7 45 7 9 := ⟨_, _, _, cfX7, by decide, aj_mem 308 (by decide +kernel) (by decide +kernel)⟩
set_option maxRecDepth 20000 in
theorem fpX7_45 : aj_FP RX7 45 7 9 := ⟨_, _, _, cfX7, by decide, aj_mem 308 (by decide +kernel) (by decide +kernel), rfl⟩
set_option maxRecDepth 20000 in
theorem flX11_98 : aj_FL RX11 98 7 9 := ⟨_, _, _, cfX7, by decide, aj_mem 309 (by decide +kernel) (by decide +kernel)⟩
set_option maxRecDepth 20000 in
theorem fpX11_98 : aj_FP RX11 98 7 9 := ⟨_, _, _, cfX7, by decide, aj_mem 309 (by decide +kernel) (by decide +kernel), rfl⟩
set_option maxRecDepth 20000 in
theorem flX7_48 : aj_FL RX7 48 7 10 := ⟨_, _, _, cfX7, by decide, aj_mem 310 (by decide +kernel) (by decide +kernel)⟩
set_option maxRecDepth 20000 in
theorem fpX7_48 : aj_FP RX7 48 7 10 := ⟨_, _, _, cfX7, by decide, aj_mem 310 (by decide +kernel) (by decide +kernel), rfl⟩
set_option maxRecDepth 20000 in
theorem flX11_115 : aj_FL RX11 115 7 10 := ⟨_, _, _, cfX7, by decide, aj_mem 311 (by decide +kernel) (by decide +kernel)⟩
set_option maxRecDepth 20000 in
theorem fpX11_115 : aj_FP RX11 115 7 10 := ⟨_, _, _, cfX7, by decide, aj_mem 311 (by decide +kernel) (by decide +kernel), rfl⟩
set_option maxRecDepth 20000 in
theorem flX9_9 : aj_FL RX9 9 9 0 := ⟨_, _, _, cfX9, by decide, aj_mem 343 (by decide +kernel) (by decide +kernel)⟩
set_option maxRecDepth 20000 in
theorem flX5_99 : aj_FL RX5 99 9 0 := ⟨_, _, _, cfX9, by decide, aj_mem 344 (by decide +kernel) (by decide +kernel)⟩
set_option maxRecDepth 20000 in
theorem flX11_127 : aj_FL RX11 127 9 0 := ⟨_, _, _, cfX9, by decide, aj_mem 345 (by decide +kernel) (by decide +kernel)⟩
set_option maxRecDepth 20000 in
theorem flX9_15 : aj_FL RX9 15 9 1 := ⟨_, _, _, cfX9, by decide, aj_mem 346 (by decide +kernel) (by decide +kernel)⟩
set_option maxRecDepth 20000 in
theorem fpX9_15 : aj_FP RX9 15 9 1 := ⟨_, _, _, cfX9, by decide, aj_mem 346 (by decide +kernel) (by decide +kernel), rfl⟩
set_option maxRecDepth 20000 in
theorem flX11_408 : aj_FL RX11 408 9 1 := ⟨_, _, _, cfX9, by decide, aj_mem 347 (by decide +kernel) (by decide +kernel)⟩
set_option maxRecDepth 20000 in
theorem fpX11_408 : aj_FP RX11 408 9 1 := ⟨_, _, _, cfX9, by decide, aj_mem 347 (by decide +kernel) (by decide +kernel), rfl⟩
set_option maxRecDepth 20000 in
theorem flX9_19 : aj_FL RX9 19 9 2 := ⟨_, _, _, cfX9, by decide, aj_mem 348 (by decide +kernel) (by decide +kernel)⟩
set_option maxRecDepth 20000 in
theorem fpX9_19 : aj_FP RX9 19 9 2 := ⟨_, _, _, cfX9, by decide, aj_mem 348 (by decide +kernel) (by decide +kernel), rfl⟩
set_option maxRecDepth 20000 in
theorem flX5_80 : aj_FL RX5 80 9 2 := ⟨_, _, _, cfX9, by decide, aj_mem 349 (by decide +kernel) (by decide +kernel)⟩
set_option maxRecDepth 20000 in
theorem fpX5_80 : aj_FP RX5 80 9 2 := ⟨_, _, _, cfX9, by decide, aj_mem 349 (by decide +kernel) (by decide +kernel), rfl⟩
set_option maxRecDepth 20000 in
theorem flX11_177 : aj_FL RX11 177 9 2 := ⟨_, _, _, cfX9, by decide, aj_mem 350 (by decide +kernel) (by decide +kernel)⟩
set_option maxRecDepth 20000 in
theorem fpX11_177 : aj_FP RX11 177 9 2 := ⟨_, _, _, cfX9, by decide, aj_mem 350 (by decide +kernel) (by decide +kernel), rfl⟩
