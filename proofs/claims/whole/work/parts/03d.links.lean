set_option maxRecDepth 20000 in
theorem cfX0 : aj_CF 0 RX0 TX0 tyX0 := ⟨rfl, aj_ws_of [190, 192, 194, 196] (by decide +kernel) (by decide +kernel), tyX0_ok, nmX0, by unfold aj_kd; decide +kernel⟩
set_option maxRecDepth 20000 in
theorem cfX1 : aj_CF 1 RX1 TX1 tyX1 := ⟨rfl, aj_ws_of [371, 373, 375] (by decide +kernel) (by decide +kernel), tyX1_ok, nmX1, by unfold aj_kd; decide +kernel⟩
set_option maxRecDepth 20000 in
theorem cfX2 : aj_CF 2 RX2 TX2 tyX2 := ⟨rfl, aj_ws_of [513, 515, 517, 519, 521, 523, 525, 527] (by decide +kernel) (by decide +kernel), tyX2_ok, nmX2, by unfold aj_kd; decide +kernel⟩
set_option maxRecDepth 20000 in
theorem cfX3 : aj_CF 3 RX3 TX3 tyX3 := ⟨rfl, aj_ws_of [543, 545, 547] (by decide +kernel) (by decide +kernel), tyX3_ok, nmX3, by unfold aj_kd; decide +kernel⟩
set_option maxRecDepth 20000 in
theorem cfX4 : aj_CF 4 RX4 TX4 tyX4 := ⟨rfl, aj_ws_of [223, 225, 227, 229, 231, 233, 235] (by decide +kernel) (by decide +kernel), tyX4_ok, nmX4, by unfold aj_kd; decide +kernel⟩
set_option maxRecDepth 20000 in
theorem cfX5 : aj_CF 5 RX5 TX5 tyX5 := ⟨rfl, aj_ws_of [423, 425, 427, 429, 431, 433, 435, 437, 439, 441, 443, 445, 447, 449, 451, 453, 455] (by decide +kernel) (by decide +kernel), tyX5_ok, nmX5, by unfold aj_kd; decide +kernel⟩
set_option maxRecDepth 20000 in
theorem cfX6 : aj_CF 6 RX6 TX6 tyX6 := ⟨rfl, aj_ws_of [272, 274, 276, 278, 280, 282, 284, 286, 288, 290, 292, 294] (by decide +kernel) (by decide +kernel), tyX6_ok, nmX6, by unfold aj_kd; decide +kernel⟩
set_option maxRecDepth 20000 in
theorem cfX7 : aj_CF 7 RX7 TX7 tyX7 := ⟨rfl, aj_ws_of [312, 314, 316, 318, 320, 322, 324, 326, 328, 330, 332] (by decide +kernel) (by decide +kernel), tyX7_ok, nmX7, by unfold aj_kd; decide +kernel⟩
set_option maxRecDepth 20000 in
theorem cfX8 : aj_CF 8 RX8 TX8 tyX8 := ⟨rfl, aj_ws_of [472, 474, 476, 478, 480, 482, 484, 486, 488, 490] (by decide +kernel) (by decide +kernel), tyX8_ok, nmX8, by unfold aj_kd; decide +kernel⟩
set_option maxRecDepth 20000 in
theorem cfX9 : aj_CF 9 RX9 TX9 tyX9 := ⟨rfl, aj_ws_of [351, 353, 355] (by decide +kernel) (by decide +kernel), tyX9_ok, nmX9, by unfold aj_kd; decide +kernel⟩
set_option maxRecDepth 20000 in
theorem cfX10 : aj_CF 10 RX10 TX10 tyX10 := ⟨rfl, aj_ws_of [560, 562, 564] (by decide +kernel) (by decide +kernel), tyX10_ok, nmX10, by unfold aj_kd; decide +kernel⟩
set_option maxRecDepth 20000 in
theorem cfX11 : aj_CF 11 RX11 TX11 tyX11 := ⟨rfl, aj_ws_of [581, 583, 585, 587, 589, 591, 593, 595, 597, 599, 601, 603, 605] (by decide +kernel) (by decide +kernel), tyX11_ok, nmX11, by unfold aj_kd; decide +kernel⟩
set_option maxRecDepth 20000 in
theorem cfX12 : aj_CF 12 RX12 TX12 tyX12 := ⟨rfl, aj_ws_of [1543, 1545, 1547, 1549, 1551, 1553, 1555, 1557, 1559, 1561, 1563, 1565, 1567, 1569, 1571, 1573, 1575, 1577, 1579, 1581, 1583, 1585, 1587, 1589, 1591, 1593, 1595, 1597, 1599, 1601, 1603, 1605, 1607, 1609, 1611, 1613, 1615, 1617, 1619, 1621, 1623, 1625, 1627, 1629, 1631, 1633, 1635] (by decide +kernel) (by decide +kernel), tyX12_ok, nmX12, by unfold aj_kd; decide +kernel⟩
set_option maxRecDepth 20000 in
theorem flX0_9 : aj_FL RX0 9 0 0 := ⟨_, _, _, cfX0, by decide, wd178⟩
set_option maxRecDepth 20000 in
theorem fpX0_9 : aj_FP RX0 9 0 0 := ⟨_, _, _, cfX0, by decide, wd178, rfl⟩
set_option maxRecDepth 20000 in
theorem flX5_72 : aj_FL RX5 72 0 0 := ⟨_, _, _, cfX0, by decide, wd179⟩
set_option maxRecDepth 20000 in
theorem fpX5_72 : aj_FP RX5 72 0 0 := ⟨_, _, _, cfX0, by decide, wd179, rfl⟩
set_option maxRecDepth 20000 in
theorem flX6_96 : aj_FL RX6 96 0 0 := ⟨_, _, _, cfX0, by decide, wd180⟩
set_option maxRecDepth 20000 in
theorem fpX6_96 : aj_FP RX6 96 0 0 := ⟨_, _, _, cfX0, by decide, wd180, rfl⟩
set_option maxRecDepth 20000 in
theorem flX7_133 : aj_FL RX7 133 0 0 := ⟨_, _, _, cfX0, by decide, wd181⟩
set_option maxRecDepth 20000 in
theorem fpX7_133 : aj_FP RX7 133 0 0 := ⟨_, _, _, cfX0, by decide, wd181, rfl⟩
set_option maxRecDepth 20000 in
theorem flX11_327 : aj_FL RX11 327 0 0 := ⟨_, _, _, cfX0, by decide, wd182⟩
set_option maxRecDepth 20000 in
theorem fpX11_327 : aj_FP RX11 327 0 0 := ⟨_, _, _, cfX0, by decide, wd182, rfl⟩
set_option maxRecDepth 20000 in
theorem flX0_15 : aj_FL RX0 15 0 1 := ⟨_, _, _, cfX0, by decide, wd183⟩
set_option maxRecDepth 20000 in
theorem flX0_19 : aj_FL RX0 19 0 2 := ⟨_, _, _, cfX0, by decide, wd184⟩
set_option maxRecDepth 20000 in
theorem flX11_149 : aj_FL RX11 149 0 2 := ⟨_, _, _, cfX0, by decide, wd185⟩
set_option maxRecDepth 20000 in
theorem flX0_22 : aj_FL RX0 22 0 3 := ⟨_, _, _, cfX0, by decide, wd186⟩
set_option maxRecDepth 20000 in
theorem flX6_87 : aj_FL RX6 87 0 3 := ⟨_, _, _, cfX0, by decide, wd187⟩
set_option maxRecDepth 20000 in
theorem flX11_152 : aj_FL RX11 152 0 3 := ⟨_, _, _, cfX0, by decide, wd188⟩
set_option maxRecDepth 20000 in
theorem flX7_143 : aj_FL RX7 143 0 3 := ⟨_, _, _, cfX0, by decide, wd189⟩
set_option maxRecDepth 20000 in
theorem flX4_9 : aj_FL RX4 9 4 0 := ⟨_, _, _, cfX4, by decide, wd207⟩
set_option maxRecDepth 20000 in
theorem flX4_15 : aj_FL RX4 15 4 1 := ⟨_, _, _, cfX4, by decide, wd208⟩
set_option maxRecDepth 20000 in
theorem fpX4_15 : aj_FP RX4 15 4 1 := ⟨_, _, _, cfX4, by decide, wd208, rfl⟩
set_option maxRecDepth 20000 in
theorem flX7_151 : aj_FL RX7 151 4 1 := ⟨_, _, _, cfX4, by decide, wd209⟩
set_option maxRecDepth 20000 in
theorem fpX7_151 : aj_FP RX7 151 4 1 := ⟨_, _, _, cfX4, by decide, wd209, rfl⟩
set_option maxRecDepth 20000 in
theorem flX4_19 : aj_FL RX4 19 4 2 := ⟨_, _, _, cfX4, by decide, wd210⟩
set_option maxRecDepth 20000 in
theorem fpX4_19 : aj_FP RX4 19 4 2 := ⟨_, _, _, cfX4, by decide, wd210, rfl⟩
set_option maxRecDepth 20000 in
theorem flX6_93 : aj_FL RX6 93 4 2 := ⟨_, _, _, cfX4, by decide, wd211⟩
set_option maxRecDepth 20000 in
theorem fpX6_93 : aj_FP RX6 93 4 2 := ⟨_, _, _, cfX4, by decide, wd211, rfl⟩
set_option maxRecDepth 20000 in
theorem flX7_157 : aj_FL RX7 157 4 2 := ⟨_, _, _, cfX4, by decide, wd212⟩
set_option maxRecDepth 20000 in
theorem fpX7_157 : aj_FP RX7 157 4 2 := ⟨_, _, _, cfX4, by decide, wd212, rfl⟩
set_option maxRecDepth 20000 in
theorem flX4_22 : aj_FL RX4 22 4 3 := ⟨_, _, _, cfX4, by decide, wd213⟩
set_option maxRecDepth 20000 in
theorem fpX4_22 : aj_FP RX4 22 4 3 := ⟨_, _, _, cfX4, by decide, wd213, rfl⟩
set_option maxRecDepth 20000 in
theorem flX6_90 : aj_FL RX6 90 4 3 := ⟨_, _, _, cfX4, by decide, wd214⟩
set_option maxRecDepth 20000 in
theorem fpX6_90 : aj_FP RX6 90 4 3 := ⟨_, _, _, cfX4, by decide, wd214, rfl⟩
set_option maxRecDepth 20000 in
theorem flX7_160 : aj_FL RX7 160 4 3 := ⟨_, _, _, cfX4, by decide, wd215⟩
set_option maxRecDepth 20000 in
theorem fpX7_160 : aj_FP RX7 160 4 3 := ⟨_, _, _, cfX4, by decide, wd215, rfl⟩
set_option maxRecDepth 20000 in
theorem flX4_25 : aj_FL RX4 25 4 4 := ⟨_, _, _, cfX4, by decide, wd216⟩
set_option maxRecDepth 20000 in
theorem fpX4_25 : aj_FP RX4 25 4 4 := ⟨_, _, _, cfX4, by decide, wd216, rfl⟩
set_option maxRecDepth 20000 in
theorem flX6_106 : aj_FL RX6 106 4 4 := ⟨_, _, _, cfX4, by decide, wd217⟩
set_option maxRecDepth 20000 in
theorem fpX6_106 : aj_FP RX6 106 4 4 := ⟨_, _, _, cfX4, by decide, wd217, rfl⟩
set_option maxRecDepth 20000 in
theorem flX7_166 : aj_FL RX7 166 4 4 := ⟨_, _, _, cfX4, by decide, wd218⟩
set_option maxRecDepth 20000 in
theorem fpX7_166 : aj_FP RX7 166 4 4 := ⟨_, _, _, cfX4, by decide, wd218, rfl⟩
set_option maxRecDepth 20000 in
theorem flX4_28 : aj_FL RX4 28 4 5 := ⟨_, _, _, cfX4, by decide, wd219⟩
set_option maxRecDepth 20000 in
theorem fpX4_28 : aj_FP RX4 28 4 5 := ⟨_, _, _, cfX4, by decide, wd219, rfl⟩
set_option maxRecDepth 20000 in
theorem flX6_103 : aj_FL RX6 103 4 5 := ⟨_, _, _, cfX4, by decide, wd220⟩
set_option maxRecDepth 20000 in
theorem fpX6_103 : aj_FP RX6 103 4 5 := ⟨_, _, _, cfX4, by decide, wd220, rfl⟩
set_option maxRecDepth 20000 in
theorem flX7_169 : aj_FL RX7 169 4 5 := ⟨_, _, _, cfX4, by decide, wd221⟩
set_option maxRecDepth 20000 in
theorem fpX7_169 : aj_FP RX7 169 4 5 := ⟨_, _, _, cfX4, by decide, wd221, rfl⟩
set_option maxRecDepth 20000 in
theorem flX4_31 : aj_FL RX4 31 4 6 := ⟨_, _, _, cfX4, by decide, wd222⟩
set_option maxRecDepth 20000 in
theorem flX6_12 : aj_FL RX6 12 6 0 := ⟨_, _, _, cfX6, by decide, wd238⟩
set_option maxRecDepth 20000 in
theorem flX5_66 : aj_FL RX5 66 6 0 := ⟨_, _, _, cfX6, by decide, wd239⟩
set_option maxRecDepth 20000 in
theorem flX7_89 : aj_FL RX7 89 6 0 := ⟨_, _, _, cfX6, by decide, wd240⟩
set_option maxRecDepth 20000 in
theorem flX11_136 : aj_FL RX11 136 6 0 := ⟨_, _, _, cfX6, by decide, wd241⟩
set_option maxRecDepth 20000 in
theorem flX6_21 : aj_FL RX6 21 6 1 := ⟨_, _, _, cfX6, by decide, wd242⟩
set_option maxRecDepth 20000 in
theorem flX7_147 : aj_FL RX7 147 6 1 := ⟨_, _, _, cfX6, by decide, wd243⟩
set_option maxRecDepth 20000 in
theorem flX6_25 : aj_FL RX6 25 6 2 := ⟨_, _, _, cfX6, by decide, wd244⟩
set_option maxRecDepth 20000 in
theorem fpX6_25 : aj_FP RX6 25 6 2 := ⟨_, _, _, cfX6, by decide, wd244, rfl⟩
set_option maxRecDepth 20000 in
theorem flX9_31 : aj_FL RX9 31 6 2 := ⟨_, _, _, cfX6, by decide, wd245⟩
set_option maxRecDepth 20000 in
theorem fpX9_31 : aj_FP RX9 31 6 2 := ⟨_, _, _, cfX6, by decide, wd245, rfl⟩
set_option maxRecDepth 20000 in
theorem flX7_83 : aj_FL RX7 83 6 2 := ⟨_, _, _, cfX6, by decide, wd246⟩
set_option maxRecDepth 20000 in
theorem fpX7_83 : aj_FP RX7 83 6 2 := ⟨_, _, _, cfX6, by decide, wd246, rfl⟩
set_option maxRecDepth 20000 in
theorem flX6_29 : aj_FL RX6 29 6 3 := ⟨_, _, _, cfX6, by decide, wd247⟩
set_option maxRecDepth 20000 in
theorem fpX6_29 : aj_FP RX6 29 6 3 := ⟨_, _, _, cfX6, by decide, wd247, rfl⟩
set_option maxRecDepth 20000 in
theorem flX5_77 : aj_FL RX5 77 6 3 := ⟨_, _, _, cfX6, by decide, wd248⟩
set_option maxRecDepth 20000 in
theorem fpX5_77 : aj_FP RX5 77 6 3 := ⟨_, _, _, cfX6, by decide, wd248, rfl⟩
set_option maxRecDepth 20000 in
theorem flX7_127 : aj_FL RX7 127 6 3 := ⟨_, _, _, cfX6, by decide, wd249⟩
set_option maxRecDepth 20000 in
theorem fpX7_127 : aj_FP RX7 127 6 3 := ⟨_, _, _, cfX6, by decide, wd249, rfl⟩
set_option maxRecDepth 20000 in
theorem flX11_405 : aj_FL RX11 405 6 3 := ⟨_, _, _, cfX6, by decide, wd250⟩
set_option maxRecDepth 20000 in
theorem fpX11_405 : aj_FP RX11 405 6 3 := ⟨_, _, _, cfX6, by decide, wd250, rfl⟩
set_option maxRecDepth 20000 in
theorem flX6_32 : aj_FL RX6 32 6 4 := ⟨_, _, _, cfX6, by decide, wd251⟩
set_option maxRecDepth 20000 in
theorem fpX6_32 : aj_FP RX6 32 6 4 := ⟨_, _, _, cfX6, by decide, wd251, rfl⟩
set_option maxRecDepth 20000 in
theorem flX5_89 : aj_FL RX5 89 6 4 := ⟨_, _, _, cfX6, by decide, wd252⟩
set_option maxRecDepth 20000 in
theorem fpX5_89 : aj_FP RX5 89 6 4 := ⟨_, _, _, cfX6, by decide, wd252, rfl⟩
set_option maxRecDepth 20000 in
theorem flX7_121 : aj_FL RX7 121 6 4 := ⟨_, _, _, cfX6, by decide, wd253⟩
set_option maxRecDepth 20000 in
theorem fpX7_121 : aj_FP RX7 121 6 4 := ⟨_, _, _, cfX6, by decide, wd253, rfl⟩
set_option maxRecDepth 20000 in
theorem flX11_368 : aj_FL RX11 368 6 4 := ⟨_, _, _, cfX6, by decide, wd254⟩
set_option maxRecDepth 20000 in
theorem fpX11_368 : aj_FP RX11 368 6 4 := ⟨_, _, _, cfX6, by decide, wd254, rfl⟩
set_option maxRecDepth 20000 in
theorem flX6_35 : aj_FL RX6 35 6 5 := ⟨_, _, _, cfX6, by decide, wd255⟩
set_option maxRecDepth 20000 in
theorem fpX6_35 : aj_FP RX6 35 6 5 := ⟨_, _, _, cfX6, by decide, wd255, rfl⟩
set_option maxRecDepth 20000 in
theorem flX11_112 : aj_FL RX11 112 6 5 := ⟨_, _, _, cfX6, by decide, wd256⟩
set_option maxRecDepth 20000 in
theorem fpX11_112 : aj_FP RX11 112 6 5 := ⟨_, _, _, cfX6, by decide, wd256, rfl⟩
set_option maxRecDepth 20000 in
theorem flX7_74 : aj_FL RX7 74 6 5 := ⟨_, _, _, cfX6, by decide, wd257⟩
set_option maxRecDepth 20000 in
theorem fpX7_74 : aj_FP RX7 74 6 5 := ⟨_, _, _, cfX6, by decide, wd257, rfl⟩
set_option maxRecDepth 20000 in
theorem flX6_38 : aj_FL RX6 38 6 6 := ⟨_, _, _, cfX6, by decide, wd258⟩
set_option maxRecDepth 20000 in
theorem fpX6_38 : aj_FP RX6 38 6 6 := ⟨_, _, _, cfX6, by decide, wd258, rfl⟩
set_option maxRecDepth 20000 in
theorem flX6_41 : aj_FL RX6 41 6 7 := ⟨_, _, _, cfX6, by decide, wd259⟩
set_option maxRecDepth 20000 in
theorem flX5_109 : aj_FL RX5 109 6 7 := ⟨_, _, _, cfX6, by decide, wd260⟩
set_option maxRecDepth 20000 in
theorem flX11_121 : aj_FL RX11 121 6 7 := ⟨_, _, _, cfX6, by decide, wd261⟩
set_option maxRecDepth 20000 in
theorem flX4_61 : aj_FL RX4 61 6 7 := ⟨_, _, _, cfX6, by decide, wd262⟩
set_option maxRecDepth 20000 in
theorem flX6_45 : aj_FL RX6 45 6 8 := ⟨_, _, _, cfX6, by decide, wd263⟩
set_option maxRecDepth 20000 in
theorem flX5_112 : aj_FL RX5 112 6 8 := ⟨_, _, _, cfX6, by decide, wd264⟩
set_option maxRecDepth 20000 in
theorem flX11_124 : aj_FL RX11 124 6 8 := ⟨_, _, _, cfX6, by decide, wd265⟩
set_option maxRecDepth 20000 in
theorem flX4_66 : aj_FL RX4 66 6 8 := ⟨_, _, _, cfX6, by decide, wd266⟩
set_option maxRecDepth 20000 in
theorem flX6_48 : aj_FL RX6 48 6 9 := ⟨_, _, _, cfX6, by decide, wd267⟩
set_option maxRecDepth 20000 in
theorem flX9_22 : aj_FL RX9 22 6 9 := ⟨_, _, _, cfX6, by decide, wd268⟩
set_option maxRecDepth 20000 in
theorem flX6_51 : aj_FL RX6 51 6 10 := ⟨_, _, _, cfX6, by decide, wd269⟩
set_option maxRecDepth 20000 in
theorem fpX6_51 : aj_FP RX6 51 6 10 := ⟨_, _, _, cfX6, by decide, wd269, rfl⟩
set_option maxRecDepth 20000 in
theorem flX6_54 : aj_FL RX6 54 6 11 := ⟨_, _, _, cfX6, by decide, wd270⟩
set_option maxRecDepth 20000 in
theorem flX5_106 : aj_FL RX5 106 6 11 := ⟨_, _, _, cfX6, by decide, wd271⟩
set_option maxRecDepth 20000 in
theorem flX7_9 : aj_FL RX7 9 7 0 := ⟨_, _, _, cfX7, by decide, wd297⟩
set_option maxRecDepth 20000 in
theorem flX7_15 : aj_FL RX7 15 7 1 := ⟨_, _, _, cfX7, by decide, wd298⟩
set_option maxRecDepth 20000 in
theorem fpX7_15 : aj_FP RX7 15 7 1 := ⟨_, _, _, cfX7, by decide, wd298, rfl⟩
set_option maxRecDepth 20000 in
theorem flX11_86 : aj_FL RX11 86 7 1 := ⟨_, _, _, cfX7, by decide, wd299⟩
set_option maxRecDepth 20000 in
theorem fpX11_86 : aj_FP RX11 86 7 1 := ⟨_, _, _, cfX7, by decide, wd299, rfl⟩
set_option maxRecDepth 20000 in
theorem flX7_19 : aj_FL RX7 19 7 2 := ⟨_, _, _, cfX7, by decide, wd300⟩
set_option maxRecDepth 20000 in
theorem fpX7_19 : aj_FP RX7 19 7 2 := ⟨_, _, _, cfX7, by decide, wd300, rfl⟩
set_option maxRecDepth 20000 in
theorem flX7_25 : aj_FL RX7 25 7 3 := ⟨_, _, _, cfX7, by decide, wd301⟩
set_option maxRecDepth 20000 in
theorem flX11_101 : aj_FL RX11 101 7 3 := ⟨_, _, _, cfX7, by decide, wd302⟩
set_option maxRecDepth 20000 in
theorem flX7_29 : aj_FL RX7 29 7 4 := ⟨_, _, _, cfX7, by decide, wd303⟩
set_option maxRecDepth 20000 in
theorem fpX7_29 : aj_FP RX7 29 7 4 := ⟨_, _, _, cfX7, by decide, wd303, rfl⟩
set_option maxRecDepth 20000 in
theorem flX7_33 : aj_FL RX7 33 7 5 := ⟨_, _, _, cfX7, by decide, wd304⟩
set_option maxRecDepth 20000 in
theorem fpX7_33 : aj_FP RX7 33 7 5 := ⟨_, _, _, cfX7, by decide, wd304, rfl⟩
set_option maxRecDepth 20000 in
theorem flX7_36 : aj_FL RX7 36 7 6 := ⟨_, _, _, cfX7, by decide, wd305⟩
set_option maxRecDepth 20000 in
theorem fpX7_36 : aj_FP RX7 36 7 6 := ⟨_, _, _, cfX7, by decide, wd305, rfl⟩
set_option maxRecDepth 20000 in
theorem flX7_39 : aj_FL RX7 39 7 7 := ⟨_, _, _, cfX7, by decide, wd306⟩
set_option maxRecDepth 20000 in
theorem fpX7_39 : aj_FP RX7 39 7 7 := ⟨_, _, _, cfX7, by decide, wd306, rfl⟩
set_option maxRecDepth 20000 in
theorem flX7_42 : aj_FL RX7 42 7 8 := ⟨_, _, _, cfX7, by decide, wd307⟩
set_option maxRecDepth 20000 in
theorem fpX7_42 : aj_FP RX7 42 7 8 := ⟨_, _, _, cfX7, by decide, wd307, rfl⟩
set_option maxRecDepth 20000 in
theorem flX7_45 : aj_FL RX7 45 7 9 := ⟨_, _, _, cfX7, by decide, wd308⟩
set_option maxRecDepth 20000 in
theorem fpX7_45 : aj_FP RX7 45 7 9 := ⟨_, _, _, cfX7, by decide, wd308, rfl⟩
set_option maxRecDepth 20000 in
theorem flX11_98 : aj_FL RX11 98 7 9 := ⟨_, _, _, cfX7, by decide, wd309⟩
set_option maxRecDepth 20000 in
theorem fpX11_98 : aj_FP RX11 98 7 9 := ⟨_, _, _, cfX7, by decide, wd309, rfl⟩
set_option maxRecDepth 20000 in
theorem flX7_48 : aj_FL RX7 48 7 10 := ⟨_, _, _, cfX7, by decide, wd310⟩
set_option maxRecDepth 20000 in
theorem fpX7_48 : aj_FP RX7 48 7 10 := ⟨_, _, _, cfX7, by decide, wd310, rfl⟩
set_option maxRecDepth 20000 in
theorem flX11_115 : aj_FL RX11 115 7 10 := ⟨_, _, _, cfX7, by decide, wd311⟩
set_option maxRecDepth 20000 in
theorem fpX11_115 : aj_FP RX11 115 7 10 := ⟨_, _, _, cfX7, by decide, wd311, rfl⟩
set_option maxRecDepth 20000 in
theorem flX9_9 : aj_FL RX9 9 9 0 := ⟨_, _, _, cfX9, by decide, wd343⟩
set_option maxRecDepth 20000 in
theorem flX5_99 : aj_FL RX5 99 9 0 := ⟨_, _, _, cfX9, by decide, wd344⟩
set_option maxRecDepth 20000 in
theorem flX11_127 : aj_FL RX11 127 9 0 := ⟨_, _, _, cfX9, by decide, wd345⟩
set_option maxRecDepth 20000 in
theorem flX9_15 : aj_FL RX9 15 9 1 := ⟨_, _, _, cfX9, by decide, wd346⟩
set_option maxRecDepth 20000 in
theorem fpX9_15 : aj_FP RX9 15 9 1 := ⟨_, _, _, cfX9, by decide, wd346, rfl⟩
set_option maxRecDepth 20000 in
theorem flX11_408 : aj_FL RX11 408 9 1 := ⟨_, _, _, cfX9, by decide, wd347⟩
set_option maxRecDepth 20000 in
theorem fpX11_408 : aj_FP RX11 408 9 1 := ⟨_, _, _, cfX9, by decide, wd347, rfl⟩
set_option maxRecDepth 20000 in
theorem flX9_19 : aj_FL RX9 19 9 2 := ⟨_, _, _, cfX9, by decide, wd348⟩
set_option maxRecDepth 20000 in
theorem fpX9_19 : aj_FP RX9 19 9 2 := ⟨_, _, _, cfX9, by decide, wd348, rfl⟩
set_option maxRecDepth 20000 in
theorem flX5_80 : aj_FL RX5 80 9 2 := ⟨_, _, _, cfX9, by decide, wd349⟩
set_option maxRecDepth 20000 in
theorem fpX5_80 : aj_FP RX5 80 9 2 := ⟨_, _, _, cfX9, by decide, wd349, rfl⟩
set_option maxRecDepth 20000 in
theorem flX11_177 : aj_FL RX11 177 9 2 := ⟨_, _, _, cfX9, by decide, wd350⟩
set_option maxRecDepth 20000 in
theorem fpX11_177 : aj_FP RX11 177 9 2 := ⟨_, _, _, cfX9, by decide, wd350, rfl⟩
set_option maxRecDepth 20000 in
theorem flX1_11 : aj_FL RX1 11 1 0 := ⟨_, _, _, cfX1, by decide, wd367⟩
set_option maxRecDepth 20000 in
theorem flX1_17 : aj_FL RX1 17 1 1 := ⟨_, _, _, cfX1, by decide, wd368⟩
set_option maxRecDepth 20000 in
theorem fpX1_17 : aj_FP RX1 17 1 1 := ⟨_, _, _, cfX1, by decide, wd368, rfl⟩
set_option maxRecDepth 20000 in
theorem flX1_21 : aj_FL RX1 21 1 2 := ⟨_, _, _, cfX1, by decide, wd369⟩
set_option maxRecDepth 20000 in
theorem fpX1_21 : aj_FP RX1 21 1 2 := ⟨_, _, _, cfX1, by decide, wd369, rfl⟩
set_option maxRecDepth 20000 in
theorem flX11_180 : aj_FL RX11 180 1 2 := ⟨_, _, _, cfX1, by decide, wd370⟩
set_option maxRecDepth 20000 in
theorem fpX11_180 : aj_FP RX11 180 1 2 := ⟨_, _, _, cfX1, by decide, wd370, rfl⟩
set_option maxRecDepth 20000 in
theorem flX5_9 : aj_FL RX5 9 5 0 := ⟨_, _, _, cfX5, by decide, wd394⟩
set_option maxRecDepth 20000 in
theorem fpX5_9 : aj_FP RX5 9 5 0 := ⟨_, _, _, cfX5, by decide, wd394, rfl⟩
set_option maxRecDepth 20000 in
theorem flX8_53 : aj_FL RX8 53 5 0 := ⟨_, _, _, cfX5, by decide, wd395⟩
set_option maxRecDepth 20000 in
theorem fpX8_53 : aj_FP RX8 53 5 0 := ⟨_, _, _, cfX5, by decide, wd395, rfl⟩
set_option maxRecDepth 20000 in
theorem flX11_295 : aj_FL RX11 295 5 0 := ⟨_, _, _, cfX5, by decide, wd396⟩
set_option maxRecDepth 20000 in
theorem fpX11_295 : aj_FP RX11 295 5 0 := ⟨_, _, _, cfX5, by decide, wd396, rfl⟩
set_option maxRecDepth 20000 in
theorem flX5_15 : aj_FL RX5 15 5 1 := ⟨_, _, _, cfX5, by decide, wd397⟩
set_option maxRecDepth 20000 in
theorem fpX5_15 : aj_FP RX5 15 5 1 := ⟨_, _, _, cfX5, by decide, wd397, rfl⟩
set_option maxRecDepth 20000 in
theorem flX8_110 : aj_FL RX8 110 5 1 := ⟨_, _, _, cfX5, by decide, wd398⟩
set_option maxRecDepth 20000 in
theorem fpX8_110 : aj_FP RX8 110 5 1 := ⟨_, _, _, cfX5, by decide, wd398, rfl⟩
set_option maxRecDepth 20000 in
theorem flX11_219 : aj_FL RX11 219 5 1 := ⟨_, _, _, cfX5, by decide, wd399⟩
set_option maxRecDepth 20000 in
theorem fpX11_219 : aj_FP RX11 219 5 1 := ⟨_, _, _, cfX5, by decide, wd399, rfl⟩
set_option maxRecDepth 20000 in
theorem flX5_18 : aj_FL RX5 18 5 2 := ⟨_, _, _, cfX5, by decide, wd400⟩
set_option maxRecDepth 20000 in
theorem flX8_113 : aj_FL RX8 113 5 2 := ⟨_, _, _, cfX5, by decide, wd401⟩
set_option maxRecDepth 20000 in
theorem flX5_22 : aj_FL RX5 22 5 3 := ⟨_, _, _, cfX5, by decide, wd402⟩
set_option maxRecDepth 20000 in
theorem flX8_116 : aj_FL RX8 116 5 3 := ⟨_, _, _, cfX5, by decide, wd403⟩
set_option maxRecDepth 20000 in
theorem flX5_25 : aj_FL RX5 25 5 4 := ⟨_, _, _, cfX5, by decide, wd404⟩
set_option maxRecDepth 20000 in
theorem flX5_28 : aj_FL RX5 28 5 5 := ⟨_, _, _, cfX5, by decide, wd405⟩
set_option maxRecDepth 20000 in
theorem flX5_31 : aj_FL RX5 31 5 6 := ⟨_, _, _, cfX5, by decide, wd406⟩
set_option maxRecDepth 20000 in
theorem flX5_34 : aj_FL RX5 34 5 7 := ⟨_, _, _, cfX5, by decide, wd407⟩
set_option maxRecDepth 20000 in
theorem fpX5_34 : aj_FP RX5 34 5 7 := ⟨_, _, _, cfX5, by decide, wd407, rfl⟩
set_option maxRecDepth 20000 in
theorem flX5_38 : aj_FL RX5 38 5 8 := ⟨_, _, _, cfX5, by decide, wd408⟩
set_option maxRecDepth 20000 in
theorem flX8_79 : aj_FL RX8 79 5 8 := ⟨_, _, _, cfX5, by decide, wd409⟩
set_option maxRecDepth 20000 in
theorem flX5_41 : aj_FL RX5 41 5 9 := ⟨_, _, _, cfX5, by decide, wd410⟩
set_option maxRecDepth 20000 in
theorem flX8_82 : aj_FL RX8 82 5 9 := ⟨_, _, _, cfX5, by decide, wd411⟩
set_option maxRecDepth 20000 in
theorem flX5_44 : aj_FL RX5 44 5 10 := ⟨_, _, _, cfX5, by decide, wd412⟩
set_option maxRecDepth 20000 in
theorem flX8_88 : aj_FL RX8 88 5 10 := ⟨_, _, _, cfX5, by decide, wd413⟩
set_option maxRecDepth 20000 in
theorem flX11_257 : aj_FL RX11 257 5 10 := ⟨_, _, _, cfX5, by decide, wd414⟩
set_option maxRecDepth 20000 in
theorem flX5_47 : aj_FL RX5 47 5 11 := ⟨_, _, _, cfX5, by decide, wd415⟩
set_option maxRecDepth 20000 in
theorem flX11_307 : aj_FL RX11 307 5 11 := ⟨_, _, _, cfX5, by decide, wd416⟩
set_option maxRecDepth 20000 in
theorem flX5_50 : aj_FL RX5 50 5 12 := ⟨_, _, _, cfX5, by decide, wd417⟩
set_option maxRecDepth 20000 in
theorem flX5_53 : aj_FL RX5 53 5 13 := ⟨_, _, _, cfX5, by decide, wd418⟩
set_option maxRecDepth 20000 in
theorem flX5_56 : aj_FL RX5 56 5 14 := ⟨_, _, _, cfX5, by decide, wd419⟩
set_option maxRecDepth 20000 in
theorem flX5_59 : aj_FL RX5 59 5 15 := ⟨_, _, _, cfX5, by decide, wd420⟩
set_option maxRecDepth 20000 in
theorem fpX5_59 : aj_FP RX5 59 5 15 := ⟨_, _, _, cfX5, by decide, wd420, rfl⟩
set_option maxRecDepth 20000 in
theorem flX5_63 : aj_FL RX5 63 5 16 := ⟨_, _, _, cfX5, by decide, wd421⟩
set_option maxRecDepth 20000 in
theorem fpX5_63 : aj_FP RX5 63 5 16 := ⟨_, _, _, cfX5, by decide, wd421, rfl⟩
set_option maxRecDepth 20000 in
theorem flX8_64 : aj_FL RX8 64 5 16 := ⟨_, _, _, cfX5, by decide, wd422⟩
set_option maxRecDepth 20000 in
theorem fpX8_64 : aj_FP RX8 64 5 16 := ⟨_, _, _, cfX5, by decide, wd422, rfl⟩
set_option maxRecDepth 20000 in
theorem flX8_9 : aj_FL RX8 9 8 0 := ⟨_, _, _, cfX8, by decide, wd458⟩
set_option maxRecDepth 20000 in
theorem fpX8_9 : aj_FP RX8 9 8 0 := ⟨_, _, _, cfX8, by decide, wd458, rfl⟩
set_option maxRecDepth 20000 in
theorem flX11_418 : aj_FL RX11 418 8 0 := ⟨_, _, _, cfX8, by decide, wd459⟩
set_option maxRecDepth 20000 in
theorem fpX11_418 : aj_FP RX11 418 8 0 := ⟨_, _, _, cfX8, by decide, wd459, rfl⟩
set_option maxRecDepth 20000 in
theorem flX8_15 : aj_FL RX8 15 8 1 := ⟨_, _, _, cfX8, by decide, wd460⟩
set_option maxRecDepth 20000 in
theorem fpX8_15 : aj_FP RX8 15 8 1 := ⟨_, _, _, cfX8, by decide, wd460, rfl⟩
set_option maxRecDepth 20000 in
theorem flX11_273 : aj_FL RX11 273 8 1 := ⟨_, _, _, cfX8, by decide, wd461⟩
set_option maxRecDepth 20000 in
theorem fpX11_273 : aj_FP RX11 273 8 1 := ⟨_, _, _, cfX8, by decide, wd461, rfl⟩
set_option maxRecDepth 20000 in
theorem flX8_19 : aj_FL RX8 19 8 2 := ⟨_, _, _, cfX8, by decide, wd462⟩
set_option maxRecDepth 20000 in
theorem flX11_276 : aj_FL RX11 276 8 2 := ⟨_, _, _, cfX8, by decide, wd463⟩
set_option maxRecDepth 20000 in
theorem flX8_26 : aj_FL RX8 26 8 3 := ⟨_, _, _, cfX8, by decide, wd464⟩
set_option maxRecDepth 20000 in
theorem flX11_415 : aj_FL RX11 415 8 3 := ⟨_, _, _, cfX8, by decide, wd465⟩
set_option maxRecDepth 20000 in
theorem flX8_30 : aj_FL RX8 30 8 4 := ⟨_, _, _, cfX8, by decide, wd466⟩
set_option maxRecDepth 20000 in
theorem flX8_33 : aj_FL RX8 33 8 5 := ⟨_, _, _, cfX8, by decide, wd467⟩
set_option maxRecDepth 20000 in
theorem flX8_36 : aj_FL RX8 36 8 6 := ⟨_, _, _, cfX8, by decide, wd468⟩
set_option maxRecDepth 20000 in
theorem flX8_39 : aj_FL RX8 39 8 7 := ⟨_, _, _, cfX8, by decide, wd469⟩
set_option maxRecDepth 20000 in
theorem flX8_42 : aj_FL RX8 42 8 8 := ⟨_, _, _, cfX8, by decide, wd470⟩
set_option maxRecDepth 20000 in
theorem flX8_45 : aj_FL RX8 45 8 9 := ⟨_, _, _, cfX8, by decide, wd471⟩
set_option maxRecDepth 20000 in
theorem fpX8_45 : aj_FP RX8 45 8 9 := ⟨_, _, _, cfX8, by decide, wd471, rfl⟩
set_option maxRecDepth 20000 in
theorem flX2_11 : aj_FL RX2 11 2 0 := ⟨_, _, _, cfX2, by decide, wd501⟩
set_option maxRecDepth 20000 in
theorem fpX2_11 : aj_FP RX2 11 2 0 := ⟨_, _, _, cfX2, by decide, wd501, rfl⟩
set_option maxRecDepth 20000 in
theorem flX2_15 : aj_FL RX2 15 2 1 := ⟨_, _, _, cfX2, by decide, wd502⟩
set_option maxRecDepth 20000 in
theorem fpX2_15 : aj_FP RX2 15 2 1 := ⟨_, _, _, cfX2, by decide, wd502, rfl⟩
set_option maxRecDepth 20000 in
theorem flX2_18 : aj_FL RX2 18 2 2 := ⟨_, _, _, cfX2, by decide, wd503⟩
set_option maxRecDepth 20000 in
theorem fpX2_18 : aj_FP RX2 18 2 2 := ⟨_, _, _, cfX2, by decide, wd503, rfl⟩
set_option maxRecDepth 20000 in
theorem flX2_21 : aj_FL RX2 21 2 3 := ⟨_, _, _, cfX2, by decide, wd504⟩
set_option maxRecDepth 20000 in
theorem fpX2_21 : aj_FP RX2 21 2 3 := ⟨_, _, _, cfX2, by decide, wd504, rfl⟩
set_option maxRecDepth 20000 in
theorem flX11_345 : aj_FL RX11 345 2 3 := ⟨_, _, _, cfX2, by decide, wd505⟩
set_option maxRecDepth 20000 in
theorem fpX11_345 : aj_FP RX11 345 2 3 := ⟨_, _, _, cfX2, by decide, wd505, rfl⟩
set_option maxRecDepth 20000 in
theorem flX2_24 : aj_FL RX2 24 2 4 := ⟨_, _, _, cfX2, by decide, wd506⟩
set_option maxRecDepth 20000 in
theorem fpX2_24 : aj_FP RX2 24 2 4 := ⟨_, _, _, cfX2, by decide, wd506, rfl⟩
set_option maxRecDepth 20000 in
theorem flX11_348 : aj_FL RX11 348 2 4 := ⟨_, _, _, cfX2, by decide, wd507⟩
set_option maxRecDepth 20000 in
theorem fpX11_348 : aj_FP RX11 348 2 4 := ⟨_, _, _, cfX2, by decide, wd507, rfl⟩
set_option maxRecDepth 20000 in
theorem flX2_27 : aj_FL RX2 27 2 5 := ⟨_, _, _, cfX2, by decide, wd508⟩
set_option maxRecDepth 20000 in
theorem fpX2_27 : aj_FP RX2 27 2 5 := ⟨_, _, _, cfX2, by decide, wd508, rfl⟩
set_option maxRecDepth 20000 in
theorem flX11_351 : aj_FL RX11 351 2 5 := ⟨_, _, _, cfX2, by decide, wd509⟩
set_option maxRecDepth 20000 in
theorem fpX11_351 : aj_FP RX11 351 2 5 := ⟨_, _, _, cfX2, by decide, wd509, rfl⟩
set_option maxRecDepth 20000 in
theorem flX2_30 : aj_FL RX2 30 2 6 := ⟨_, _, _, cfX2, by decide, wd510⟩
set_option maxRecDepth 20000 in
theorem flX11_354 : aj_FL RX11 354 2 6 := ⟨_, _, _, cfX2, by decide, wd511⟩
set_option maxRecDepth 20000 in
theorem flX2_34 : aj_FL RX2 34 2 7 := ⟨_, _, _, cfX2, by decide, wd512⟩
set_option maxRecDepth 20000 in
theorem flX3_10 : aj_FL RX3 10 3 0 := ⟨_, _, _, cfX3, by decide, wd539⟩
set_option maxRecDepth 20000 in
theorem flX3_19 : aj_FL RX3 19 3 1 := ⟨_, _, _, cfX3, by decide, wd540⟩
set_option maxRecDepth 20000 in
theorem flX3_23 : aj_FL RX3 23 3 2 := ⟨_, _, _, cfX3, by decide, wd541⟩
set_option maxRecDepth 20000 in
theorem fpX3_23 : aj_FP RX3 23 3 2 := ⟨_, _, _, cfX3, by decide, wd541, rfl⟩
set_option maxRecDepth 20000 in
theorem flX11_399 : aj_FL RX11 399 3 2 := ⟨_, _, _, cfX3, by decide, wd542⟩
set_option maxRecDepth 20000 in
theorem fpX11_399 : aj_FP RX11 399 3 2 := ⟨_, _, _, cfX3, by decide, wd542, rfl⟩
set_option maxRecDepth 20000 in
theorem flX10_9 : aj_FL RX10 9 10 0 := ⟨_, _, _, cfX10, by decide, wd555⟩
set_option maxRecDepth 20000 in
theorem flX11_201 : aj_FL RX11 201 10 0 := ⟨_, _, _, cfX10, by decide, wd556⟩
set_option maxRecDepth 20000 in
theorem flX10_15 : aj_FL RX10 15 10 1 := ⟨_, _, _, cfX10, by decide, wd557⟩
set_option maxRecDepth 20000 in
theorem fpX10_15 : aj_FP RX10 15 10 1 := ⟨_, _, _, cfX10, by decide, wd557, rfl⟩
set_option maxRecDepth 20000 in
theorem flX10_19 : aj_FL RX10 19 10 2 := ⟨_, _, _, cfX10, by decide, wd558⟩
set_option maxRecDepth 20000 in
theorem fpX10_19 : aj_FP RX10 19 10 2 := ⟨_, _, _, cfX10, by decide, wd558, rfl⟩
set_option maxRecDepth 20000 in
theorem flX11_198 : aj_FL RX11 198 10 2 := ⟨_, _, _, cfX10, by decide, wd559⟩
set_option maxRecDepth 20000 in
theorem fpX11_198 : aj_FP RX11 198 10 2 := ⟨_, _, _, cfX10, by decide, wd559, rfl⟩
set_option maxRecDepth 20000 in
theorem flX11_12 : aj_FL RX11 12 11 0 := ⟨_, _, _, cfX11, by decide, wd568⟩
set_option maxRecDepth 20000 in
theorem flX11_19 : aj_FL RX11 19 11 1 := ⟨_, _, _, cfX11, by decide, wd569⟩
set_option maxRecDepth 20000 in
theorem flX11_26 : aj_FL RX11 26 11 2 := ⟨_, _, _, cfX11, by decide, wd570⟩
set_option maxRecDepth 20000 in
theorem flX11_30 : aj_FL RX11 30 11 3 := ⟨_, _, _, cfX11, by decide, wd571⟩
set_option maxRecDepth 20000 in
theorem flX11_33 : aj_FL RX11 33 11 4 := ⟨_, _, _, cfX11, by decide, wd572⟩
set_option maxRecDepth 20000 in
theorem flX11_39 : aj_FL RX11 39 11 5 := ⟨_, _, _, cfX11, by decide, wd573⟩
set_option maxRecDepth 20000 in
theorem flX11_45 : aj_FL RX11 45 11 6 := ⟨_, _, _, cfX11, by decide, wd574⟩
set_option maxRecDepth 20000 in
theorem flX11_51 : aj_FL RX11 51 11 7 := ⟨_, _, _, cfX11, by decide, wd575⟩
set_option maxRecDepth 20000 in
theorem flX11_58 : aj_FL RX11 58 11 8 := ⟨_, _, _, cfX11, by decide, wd576⟩
set_option maxRecDepth 20000 in
theorem flX11_65 : aj_FL RX11 65 11 9 := ⟨_, _, _, cfX11, by decide, wd577⟩
set_option maxRecDepth 20000 in
theorem flX11_72 : aj_FL RX11 72 11 10 := ⟨_, _, _, cfX11, by decide, wd578⟩
set_option maxRecDepth 20000 in
theorem flX11_76 : aj_FL RX11 76 11 11 := ⟨_, _, _, cfX11, by decide, wd579⟩
set_option maxRecDepth 20000 in
theorem flX11_80 : aj_FL RX11 80 11 12 := ⟨_, _, _, cfX11, by decide, wd580⟩
set_option maxRecDepth 20000 in
theorem fpX11_80 : aj_FP RX11 80 11 12 := ⟨_, _, _, cfX11, by decide, wd580, rfl⟩
set_option maxRecDepth 20000 in
theorem mvL_13 : aj_MV RL 13 yX11_feed cX11_feed 6 (some .int) 11 := ⟨⟨wd608, wd130, wd611, by decide +kernel, by decide⟩, wd609, wd610, _, _, rfl⟩
set_option maxRecDepth 20000 in
theorem mvX11_90 : aj_MV RX11 90 yX7_layFour cX7_layFour 3 none 7 := ⟨⟨wd612, wd131, wd615, by decide +kernel, by decide⟩, wd613, wd614, _, _, rfl⟩
set_option maxRecDepth 20000 in
theorem mvL_18 : aj_MV RL 18 yX11_works cX11_works 2 (some .int) 11 := ⟨⟨wd616, wd130, wd619, by decide +kernel, by decide⟩, wd617, wd618, _, _, rfl⟩
set_option maxRecDepth 20000 in
theorem mvX11_94 : aj_MV RX11 94 yX7_readAll cX7_readAll 3 (some .boolean) 7 := ⟨⟨wd620, wd131, wd623, by decide +kernel, by decide⟩, wd621, wd622, _, _, rfl⟩
set_option maxRecDepth 20000 in
theorem msX7_51 : aj_MS RX7 51 Lib.Math.min.name Lib.Math.min.code 2 (some .int) := ⟨⟨wd624, wd143, wd626, by decide +kernel, by decide⟩, wd625⟩
set_option maxRecDepth 20000 in
theorem mvX7_57 : aj_MV RX7 57 yX6_clear cX6_clear 1 none 6 := ⟨⟨wd627, wd132, wd630, by decide +kernel, by decide⟩, wd628, wd629, _, _, rfl⟩
set_option maxRecDepth 20000 in
theorem mvX6_57 : aj_MV RX6 57 yX0_makeProduct cX0_makeProduct 5 none 0 := ⟨⟨wd631, wd133, wd634, by decide +kernel, by decide⟩, wd632, wd633, _, _, rfl⟩
set_option maxRecDepth 20000 in
theorem mvX0_29 : aj_MV RX0 29 yX0_settle cX0_settle 5 none 0 := ⟨⟨wd635, wd133, wd638, by decide +kernel, by decide⟩, wd637, wd0, _, _, rfl⟩
set_option maxRecDepth 20000 in
theorem mvX0_35 : aj_MV RX0 35 yX0_times cX0_times 3 (some .int) 0 := ⟨⟨wd639, wd133, wd642, by decide +kernel, by decide⟩, wd640, wd641, _, _, rfl⟩
set_option maxRecDepth 20000 in
theorem mvX0_25 : aj_MV RX0 25 yX0_has cX0_has 2 (some .boolean) 0 := ⟨⟨wd643, wd133, wd646, by decide +kernel, by decide⟩, wd644, wd645, _, _, rfl⟩
set_option maxRecDepth 20000 in
theorem mvX6_61 : aj_MV RX6 61 yX4_clear cX4_clear 1 none 4 := ⟨⟨wd647, wd134, wd650, by decide +kernel, by decide⟩, wd648, wd649, _, _, rfl⟩
set_option maxRecDepth 20000 in
theorem mvX7_60 : aj_MV RX7 60 yX7_step cX7_step 2 none 7 := ⟨⟨wd651, wd131, wd654, by decide +kernel, by decide⟩, wd653, wd1, _, _, rfl⟩
set_option maxRecDepth 20000 in
theorem mvX7_197 : aj_MV RX7 197 yX7_wordToken cX7_wordToken 5 (some .int) 7 := ⟨⟨wd655, wd131, wd658, by decide +kernel, by decide⟩, wd657, wd2, _, _, rfl⟩
set_option maxRecDepth 20000 in
theorem mwX7_210 : aj_MW RX7 210 yJ0_length_8abf5 cJ0_length_8abf5 1 (some .int) := ⟨⟨wd660, wd144, wd663, by decide +kernel, by decide⟩, wd661, wd662⟩
set_option maxRecDepth 20000 in
theorem mwJ0_335 : aj_MW RJ0 335 yJ0_coder_7d493 cJ0_coder_7d493 1 (some .byte) := ⟨⟨wd664, wd144, wd667, by decide +kernel, by decide⟩, wd665, wd666⟩
set_option maxRecDepth 20000 in
theorem mwX7_213 : aj_MW RX7 213 yJ0_charAt_5068e cJ0_charAt_5068e 2 (some .char) := ⟨⟨wd670, wd144, wd673, by decide +kernel, by decide⟩, wd671, wd672⟩
set_option maxRecDepth 20000 in
theorem mwJ0_492 : aj_MW RJ0 492 yJ0_isLatin1_aae02 cJ0_isLatin1_aae02 1 (some .boolean) := ⟨⟨wd674, wd144, wd677, by decide +kernel, by decide⟩, wd675, wd676⟩
set_option maxRecDepth 20000 in
theorem msJ0_495 : aj_MS RJ0 495 yJ1_charAt_3b067 cJ1_charAt_3b067 2 (some .char) := ⟨⟨wd678, wd145, wd680, by decide +kernel, by decide⟩, wd679⟩
set_option maxRecDepth 20000 in
theorem msJ1_9 : aj_MS RJ1 9 yJ0_checkIndex_df160 cJ0_checkIndex_df160 2 none := ⟨⟨wd681, wd144, wd683, by decide +kernel, by decide⟩, wd682⟩
set_option maxRecDepth 20000 in
theorem msJ0_1059 : aj_MS RJ0 1059 yJ3_checkIndex_8e157 cJ3_checkIndex_8e157 3 (some .int) := ⟨⟨wd686, wd146, wd688, by decide +kernel, by decide⟩, wd687⟩
set_option maxRecDepth 20000 in
theorem msJ0_498 : aj_MS RJ0 498 yJ2_charAt_3b067 cJ2_charAt_3b067 2 (some .char) := ⟨⟨wd689, wd147, wd691, by decide +kernel, by decide⟩, wd690⟩
set_option maxRecDepth 20000 in
theorem msJ2_67 : aj_MS RJ2 67 yJ2_checkIndex_2214a cJ2_checkIndex_2214a 2 none := ⟨⟨wd692, wd147, wd694, by decide +kernel, by decide⟩, wd693⟩
set_option maxRecDepth 20000 in
theorem msJ2_48 : aj_MS RJ2 48 yJ2_length_9d52b cJ2_length_9d52b 1 (some .int) := ⟨⟨wd695, wd147, wd697, by decide +kernel, by decide⟩, wd696⟩
set_option maxRecDepth 20000 in
theorem msJ2_414 : aj_MS RJ2 414 yJ0_checkIndex_df160 cJ0_checkIndex_df160 2 none := ⟨⟨wd698, wd144, wd683, by decide +kernel, by decide⟩, wd682⟩
set_option maxRecDepth 20000 in
theorem msJ2_71 : aj_MS RJ2 71 yJ2_getChar_3b067 cJ2_getChar_3b067 2 (some .char) := ⟨⟨wd699, wd147, wd701, by decide +kernel, by decide⟩, wd700⟩
set_option maxRecDepth 20000 in
theorem mwX7_203 : aj_MW RX7 203 yJ0_indexOf_0f7a4 cJ0_indexOf_0f7a4 2 (some .int) := ⟨⟨wd709, wd144, wd712, by decide +kernel, by decide⟩, wd710, wd711⟩
set_option maxRecDepth 20000 in
theorem mwJ0_633 : aj_MW RJ0 633 yJ0_indexOf_7cf53 cJ0_indexOf_7cf53 3 (some .int) := ⟨⟨wd713, wd144, wd716, by decide +kernel, by decide⟩, wd714, wd715⟩
set_option maxRecDepth 20000 in
theorem mwJ0_505 : aj_MW RJ0 505 yJ0_length_8abf5 cJ0_length_8abf5 1 (some .int) := ⟨⟨wd717, wd144, wd663, by decide +kernel, by decide⟩, wd661, wd662⟩
set_option maxRecDepth 20000 in
theorem msJ0_637 : aj_MS RJ0 637 yJ1_indexOf_4cfef cJ1_indexOf_4cfef 4 (some .int) := ⟨⟨wd718, wd145, wd720, by decide +kernel, by decide⟩, wd719⟩
set_option maxRecDepth 20000 in
theorem msJ1_88 : aj_MS RJ1 88 yJ1_canEncode_9a6ad cJ1_canEncode_9a6ad 1 (some .boolean) := ⟨⟨wd721, wd145, wd723, by decide +kernel, by decide⟩, wd722⟩
set_option maxRecDepth 20000 in
theorem msJ1_92 : aj_MS RJ1 92 Lib.Math.max.name Lib.Math.max.code 2 (some .int) := ⟨⟨wd724, wd143, wd726, by decide +kernel, by decide⟩, wd725⟩
set_option maxRecDepth 20000 in
theorem msJ1_38 : aj_MS RJ1 38 Lib.Math.min.name Lib.Math.min.code 2 (some .int) := ⟨⟨wd727, wd143, wd626, by decide +kernel, by decide⟩, wd625⟩
set_option maxRecDepth 20000 in
theorem msJ1_95 : aj_MS RJ1 95 yJ1_indexOfChar_4cfef cJ1_indexOfChar_4cfef 6 (some .int) := ⟨⟨wd728, wd145, wd730, by decide +kernel, by decide⟩, wd729⟩
set_option maxRecDepth 20000 in
theorem msJ0_640 : aj_MS RJ0 640 yJ2_indexOf_4cfef cJ2_indexOf_4cfef 4 (some .int) := ⟨⟨wd731, wd147, wd733, by decide +kernel, by decide⟩, wd732⟩
set_option maxRecDepth 20000 in
theorem msJ2_224 : aj_MS RJ2 224 Lib.Math.max.name Lib.Math.max.code 2 (some .int) := ⟨⟨wd734, wd143, wd726, by decide +kernel, by decide⟩, wd725⟩
set_option maxRecDepth 20000 in
theorem msJ2_183 : aj_MS RJ2 183 Lib.Math.min.name Lib.Math.min.code 2 (some .int) := ⟨⟨wd735, wd143, wd626, by decide +kernel, by decide⟩, wd625⟩
set_option maxRecDepth 20000 in
theorem msJ2_228 : aj_MS RJ2 228 yJ2_indexOfChar_4cfef cJ2_indexOfChar_4cfef 4 (some .int) := ⟨⟨wd737, wd147, wd739, by decide +kernel, by decide⟩, wd738⟩
set_option maxRecDepth 20000 in
theorem msJ2_96 : aj_MS RJ2 96 yJ2_checkBoundsBeginEnd_d044e cJ2_checkBoundsBeginEnd_d044e 3 none := ⟨⟨wd740, wd147, wd742, by decide +kernel, by decide⟩, wd741⟩
set_option maxRecDepth 20000 in
theorem msJ2_241 : aj_MS RJ2 241 yJ0_checkBoundsBeginEnd_23922 cJ0_checkBoundsBeginEnd_23922 3 none := ⟨⟨wd743, wd144, wd745, by decide +kernel, by decide⟩, wd744⟩
set_option maxRecDepth 20000 in
theorem msJ0_1062 : aj_MS RJ0 1062 yJ3_checkFromToIndex_8c36e cJ3_checkFromToIndex_8c36e 4 (some .int) := ⟨⟨wd746, wd146, wd748, by decide +kernel, by decide⟩, wd747⟩
set_option maxRecDepth 20000 in
theorem msJ2_244 : aj_MS RJ2 244 yJ2_indexOfCharUnsafe_4cfef cJ2_indexOfCharUnsafe_4cfef 5 (some .int) := ⟨⟨wd749, wd147, wd751, by decide +kernel, by decide⟩, wd750⟩
set_option maxRecDepth 20000 in
theorem msJ2_232 : aj_MS RJ2 232 yJ2_indexOfSupplementary_4cfef cJ2_indexOfSupplementary_4cfef 7 (some .int) := ⟨⟨wd752, wd147, wd754, by decide +kernel, by decide⟩, wd753⟩
set_option maxRecDepth 20000 in
theorem msJ2_164 : aj_MS RJ2 164 yJ11_isValidCodePoint_9a6ad cJ11_isValidCodePoint_9a6ad 2 (some .boolean) := ⟨⟨wd755, wd148, wd757, by decide +kernel, by decide⟩, wd756⟩
set_option maxRecDepth 20000 in
theorem msJ2_157 : aj_MS RJ2 157 yJ11_highSurrogate_5068e cJ11_highSurrogate_5068e 1 (some .char) := ⟨⟨wd758, wd148, wd760, by decide +kernel, by decide⟩, wd759⟩
set_option maxRecDepth 20000 in
theorem msJ2_161 : aj_MS RJ2 161 yJ11_lowSurrogate_5068e cJ11_lowSurrogate_5068e 1 (some .char) := ⟨⟨wd762, wd148, wd764, by decide +kernel, by decide⟩, wd763⟩
set_option maxRecDepth 20000 in
theorem mvX7_63 : aj_MV RX7 63 yX7_readHead cX7_readHead 1 (some .boolean) 7 := ⟨⟨wd766, wd131, wd769, by decide +kernel, by decide⟩, wd768, wd3, _, _, rfl⟩
set_option maxRecDepth 20000 in
theorem mvX7_70 : aj_MV RX7 70 yX7_take cX7_take 2 (some .boolean) 7 := ⟨⟨wd770, wd131, wd773, by decide +kernel, by decide⟩, wd772, wd4, _, _, rfl⟩
set_option maxRecDepth 20000 in
theorem mvX7_86 : aj_MV RX7 86 yX7_cantStand cX7_cantStand 1 (some .boolean) 7 := ⟨⟨wd774, wd131, wd777, by decide +kernel, by decide⟩, wd776, wd5, _, _, rfl⟩
set_option maxRecDepth 20000 in
theorem mvX7_130 : aj_MV RX7 130 yX7_faulty cX7_faulty 2 (some .boolean) 7 := ⟨⟨wd778, wd131, wd781, by decide +kernel, by decide⟩, wd780, wd6, _, _, rfl⟩
set_option maxRecDepth 20000 in
theorem mvX7_77 : aj_MV RX7 77 yX7_readKind cX7_readKind 4 (some .boolean) 7 := ⟨⟨wd782, wd131, wd785, by decide +kernel, by decide⟩, wd784, wd7, _, _, rfl⟩
set_option maxRecDepth 20000 in
theorem mvX7_93 : aj_MV RX7 93 yX0_makeQuaternions cX0_makeQuaternions 4 none 0 := ⟨⟨wd786, wd133, wd789, by decide +kernel, by decide⟩, wd787, wd788, _, _, rfl⟩
set_option maxRecDepth 20000 in
theorem mvX7_80 : aj_MV RX7 80 yX7_takeNumber cX7_takeNumber 4 (some .int) 7 := ⟨⟨wd792, wd131, wd795, by decide +kernel, by decide⟩, wd794, wd8, _, _, rfl⟩
set_option maxRecDepth 20000 in
theorem mvX7_98 : aj_MV RX7 98 yX0_makeMirrors cX0_makeMirrors 6 none 0 := ⟨⟨wd796, wd133, wd799, by decide +kernel, by decide⟩, wd797, wd798, _, _, rfl⟩
set_option maxRecDepth 20000 in
theorem mvX7_102 : aj_MV RX7 102 yX0_makeProduct cX0_makeProduct 5 none 0 := ⟨⟨wd800, wd133, wd634, by decide +kernel, by decide⟩, wd632, wd633, _, _, rfl⟩
set_option maxRecDepth 20000 in
theorem mvX7_67 : aj_MV RX7 67 yX7_readLine cX7_readLine 1 (some .boolean) 7 := ⟨⟨wd801, wd131, wd804, by decide +kernel, by decide⟩, wd803, wd9, _, _, rfl⟩
set_option maxRecDepth 20000 in
theorem mvX7_106 : aj_MV RX7 106 yX7_readPlaces cX7_readPlaces 2 (some .boolean) 7 := ⟨⟨wd805, wd131, wd808, by decide +kernel, by decide⟩, wd807, wd10, _, _, rfl⟩
set_option maxRecDepth 20000 in
theorem msX7_124 : aj_MS RX7 124 Lib.Math.max.name Lib.Math.max.code 2 (some .int) := ⟨⟨wd809, wd143, wd726, by decide +kernel, by decide⟩, wd725⟩
set_option maxRecDepth 20000 in
theorem mvX7_109 : aj_MV RX7 109 yX7_readArc cX7_readArc 4 (some .boolean) 7 := ⟨⟨wd810, wd131, wd813, by decide +kernel, by decide⟩, wd812, wd11, _, _, rfl⟩
set_option maxRecDepth 20000 in
theorem mvX7_136 : aj_MV RX7 136 yX6_addArc cX6_addArc 5 none 6 := ⟨⟨wd814, wd132, wd817, by decide +kernel, by decide⟩, wd815, wd816, _, _, rfl⟩
set_option maxRecDepth 20000 in
theorem mvX7_112 : aj_MV RX7 112 yX7_readHalf cX7_readHalf 3 (some .boolean) 7 := ⟨⟨wd818, wd131, wd821, by decide +kernel, by decide⟩, wd820, wd12, _, _, rfl⟩
set_option maxRecDepth 20000 in
theorem mvX7_140 : aj_MV RX7 140 yX0_has cX0_has 2 (some .boolean) 0 := ⟨⟨wd822, wd133, wd646, by decide +kernel, by decide⟩, wd644, wd645, _, _, rfl⟩
set_option maxRecDepth 20000 in
theorem mvX7_115 : aj_MV RX7 115 yX7_readKeeps cX7_readKeeps 2 (some .boolean) 7 := ⟨⟨wd823, wd131, wd826, by decide +kernel, by decide⟩, wd825, wd13, _, _, rfl⟩
set_option maxRecDepth 20000 in
theorem mvX7_154 : aj_MV RX7 154 yX7_readTruth cX7_readTruth 3 (some .boolean) 7 := ⟨⟨wd827, wd131, wd830, by decide +kernel, by decide⟩, wd829, wd14, _, _, rfl⟩
set_option maxRecDepth 20000 in
theorem mvX7_172 : aj_MV RX7 172 yX7_readBoth cX7_readBoth 3 (some .boolean) 7 := ⟨⟨wd831, wd131, wd834, by decide +kernel, by decide⟩, wd833, wd15, _, _, rfl⟩
set_option maxRecDepth 20000 in
theorem mvX7_178 : aj_MV RX7 178 yX7_readUnit cX7_readUnit 3 (some .boolean) 7 := ⟨⟨wd835, wd131, wd838, by decide +kernel, by decide⟩, wd837, wd16, _, _, rfl⟩
set_option maxRecDepth 20000 in
theorem mvX7_181 : aj_MV RX7 181 yX7_readComparison cX7_readComparison 3 (some .boolean) 7 := ⟨⟨wd839, wd131, wd842, by decide +kernel, by decide⟩, wd841, wd17, _, _, rfl⟩
set_option maxRecDepth 20000 in
theorem mvX7_163 : aj_MV RX7 163 yX7_readSum cX7_readSum 4 (some .boolean) 7 := ⟨⟨wd843, wd131, wd846, by decide +kernel, by decide⟩, wd845, wd18, _, _, rfl⟩
set_option maxRecDepth 20000 in
theorem mvX7_184 : aj_MV RX7 184 yX7_readTerm cX7_readTerm 3 (some .boolean) 7 := ⟨⟨wd847, wd131, wd850, by decide +kernel, by decide⟩, wd849, wd19, _, _, rfl⟩
set_option maxRecDepth 20000 in
theorem mvX7_187 : aj_MV RX7 187 yX7_readAtom cX7_readAtom 2 (some .boolean) 7 := ⟨⟨wd851, wd131, wd854, by decide +kernel, by decide⟩, wd853, wd20, _, _, rfl⟩
set_option maxRecDepth 20000 in
theorem mvX7_190 : aj_MV RX7 190 yX7_addAtom cX7_addAtom 3 (some .boolean) 7 := ⟨⟨wd855, wd131, wd858, by decide +kernel, by decide⟩, wd857, wd21, _, _, rfl⟩
set_option maxRecDepth 20000 in
theorem mvX7_175 : aj_MV RX7 175 yX4_add cX4_add 3 none 4 := ⟨⟨wd859, wd134, wd862, by decide +kernel, by decide⟩, wd860, wd861, _, _, rfl⟩
set_option maxRecDepth 20000 in
theorem mvX7_194 : aj_MV RX7 194 yX7_readNested cX7_readNested 3 (some .boolean) 7 := ⟨⟨wd863, wd131, wd866, by decide +kernel, by decide⟩, wd865, wd22, _, _, rfl⟩
set_option maxRecDepth 20000 in
theorem mvX7_118 : aj_MV RX7 118 yX7_readWeighs cX7_readWeighs 2 (some .boolean) 7 := ⟨⟨wd867, wd131, wd870, by decide +kernel, by decide⟩, wd869, wd23, _, _, rfl⟩
set_option maxRecDepth 20000 in
theorem mvX11_102 : aj_MV RX11 102 yX6_copyFrom cX6_copyFrom 2 none 6 := ⟨⟨wd871, wd132, wd874, by decide +kernel, by decide⟩, wd872, wd873, _, _, rfl⟩
set_option maxRecDepth 20000 in
theorem mvX6_64 : aj_MV RX6 64 yX0_copyFrom cX0_copyFrom 2 none 0 := ⟨⟨wd875, wd133, wd878, by decide +kernel, by decide⟩, wd876, wd877, _, _, rfl⟩
set_option maxRecDepth 20000 in
theorem mnX0_39 : aj_MN RX0 39 := ⟨wd879, wd881, wd880, wd149⟩
set_option maxRecDepth 20000 in
theorem mvX6_68 : aj_MV RX6 68 yX4_copyFrom cX4_copyFrom 2 none 4 := ⟨⟨wd882, wd134, wd885, by decide +kernel, by decide⟩, wd883, wd884, _, _, rfl⟩
set_option maxRecDepth 20000 in
theorem mnX4_34 : aj_MN RX4 34 := ⟨wd886, wd881, wd880, wd149⟩
set_option maxRecDepth 20000 in
theorem mnX6_71 : aj_MN RX6 71 := ⟨wd887, wd881, wd880, wd149⟩
set_option maxRecDepth 20000 in
theorem mvX11_106 : aj_MV RX11 106 yX9_begin cX9_begin 2 none 9 := ⟨⟨wd888, wd135, wd891, by decide +kernel, by decide⟩, wd889, wd890, _, _, rfl⟩
set_option maxRecDepth 20000 in
theorem mnX9_25 : aj_MN RX9 25 := ⟨wd892, wd881, wd880, wd149⟩
set_option maxRecDepth 20000 in
theorem mvX11_109 : aj_MV RX11 109 yX1_forget cX1_forget 1 none 1 := ⟨⟨wd893, wd136, wd896, by decide +kernel, by decide⟩, wd894, wd895, _, _, rfl⟩
set_option maxRecDepth 20000 in
theorem mvL_23 : aj_MV RL 23 yX11_fault cX11_fault 2 (some .int) 11 := ⟨⟨wd897, wd130, wd900, by decide +kernel, by decide⟩, wd898, wd899, _, _, rfl⟩
set_option maxRecDepth 20000 in
theorem mvL_27 : aj_MV RL 27 yX11_arc cX11_arc 3 (some .int) 11 := ⟨⟨wd901, wd130, wd904, by decide +kernel, by decide⟩, wd902, wd903, _, _, rfl⟩
set_option maxRecDepth 20000 in
theorem mvX11_118 : aj_MV RX11 118 yX6_hasArc cX6_hasArc 2 (some .boolean) 6 := ⟨⟨wd905, wd132, wd908, by decide +kernel, by decide⟩, wd906, wd907, _, _, rfl⟩
set_option maxRecDepth 20000 in
theorem mvX11_130 : aj_MV RX11 130 yX6_isHalf cX6_isHalf 2 (some .boolean) 6 := ⟨⟨wd909, wd132, wd912, by decide +kernel, by decide⟩, wd910, wd911, _, _, rfl⟩
set_option maxRecDepth 20000 in
theorem mvX6_77 : aj_MV RX6 77 yX6_hasArc cX6_hasArc 2 (some .boolean) 6 := ⟨⟨wd913, wd132, wd908, by decide +kernel, by decide⟩, wd906, wd907, _, _, rfl⟩
set_option maxRecDepth 20000 in
theorem mvX11_133 : aj_MV RX11 133 yX9_isOut cX9_isOut 2 (some .boolean) 9 := ⟨⟨wd914, wd135, wd917, by decide +kernel, by decide⟩, wd915, wd916, _, _, rfl⟩
set_option maxRecDepth 20000 in
theorem mvL_32 : aj_MV RL 32 yX11_product cX11_product 3 (some .int) 11 := ⟨⟨wd918, wd130, wd921, by decide +kernel, by decide⟩, wd919, wd920, _, _, rfl⟩
set_option maxRecDepth 20000 in
theorem mvX11_140 : aj_MV RX11 140 yX0_has cX0_has 2 (some .boolean) 0 := ⟨⟨wd922, wd133, wd646, by decide +kernel, by decide⟩, wd644, wd645, _, _, rfl⟩
set_option maxRecDepth 20000 in
theorem mvX11_145 : aj_MV RX11 145 yX0_times cX0_times 3 (some .int) 0 := ⟨⟨wd923, wd133, wd642, by decide +kernel, by decide⟩, wd640, wd641, _, _, rfl⟩
set_option maxRecDepth 20000 in
theorem mvL_36 : aj_MV RL 36 yX11_inverse cX11_inverse 2 (some .int) 11 := ⟨⟨wd924, wd130, wd927, by decide +kernel, by decide⟩, wd925, wd926, _, _, rfl⟩
set_option maxRecDepth 20000 in
theorem mvL_40 : aj_MV RL 40 yX11_orderOf cX11_orderOf 2 (some .int) 11 := ⟨⟨wd928, wd130, wd931, by decide +kernel, by decide⟩, wd929, wd930, _, _, rfl⟩
set_option maxRecDepth 20000 in
theorem mvL_44 : aj_MV RL 44 yX11_centre cX11_centre 1 (some .int) 11 := ⟨⟨wd932, wd130, wd935, by decide +kernel, by decide⟩, wd933, wd934, _, _, rfl⟩
set_option maxRecDepth 20000 in
theorem mvX11_155 : aj_MV RX11 155 yX0_centrals cX0_centrals 5 (some .int) 0 := ⟨⟨wd936, wd133, wd939, by decide +kernel, by decide⟩, wd937, wd938, _, _, rfl⟩
set_option maxRecDepth 20000 in
theorem mvL_49 : aj_MV RL 49 yX11_turn cX11_turn 4 (some .int) 11 := ⟨⟨wd940, wd130, wd943, by decide +kernel, by decide⟩, wd941, wd942, _, _, rfl⟩
set_option maxRecDepth 20000 in
theorem mvX11_159 : aj_MV RX11 159 yX9_copyFrom cX9_copyFrom 2 none 9 := ⟨⟨wd944, wd135, wd947, by decide +kernel, by decide⟩, wd945, wd946, _, _, rfl⟩
set_option maxRecDepth 20000 in
theorem mvX11_162 : aj_MV RX11 162 yX9_turnTo cX9_turnTo 5 (some .int) 9 := ⟨⟨wd948, wd135, wd951, by decide +kernel, by decide⟩, wd949, wd950, _, _, rfl⟩
set_option maxRecDepth 20000 in
theorem mvX9_32 : aj_MV RX9 32 yX6_whyNotBy cX6_whyNotBy 3 (some .int) 6 := ⟨⟨wd952, wd132, wd955, by decide +kernel, by decide⟩, wd953, wd954, _, _, rfl⟩
set_option maxRecDepth 20000 in
theorem mvX6_81 : aj_MV RX6 81 yX0_has cX0_has 2 (some .boolean) 0 := ⟨⟨wd956, wd133, wd646, by decide +kernel, by decide⟩, wd644, wd645, _, _, rfl⟩
set_option maxRecDepth 20000 in
theorem mvX6_84 : aj_MV RX6 84 yX6_isHalf cX6_isHalf 2 (some .boolean) 6 := ⟨⟨wd957, wd132, wd912, by decide +kernel, by decide⟩, wd910, wd911, _, _, rfl⟩
set_option maxRecDepth 20000 in
theorem mvX11_166 : aj_MV RX11 166 yX11_wasDone cX11_wasDone 1 none 11 := ⟨⟨wd958, wd130, wd961, by decide +kernel, by decide⟩, wd960, wd24, _, _, rfl⟩
set_option maxRecDepth 20000 in
theorem mvX11_411 : aj_MV RX11 411 yX1_keep cX1_keep 2 none 1 := ⟨⟨wd962, wd136, wd965, by decide +kernel, by decide⟩, wd963, wd964, _, _, rfl⟩
set_option maxRecDepth 20000 in
theorem mvX1_25 : aj_MV RX1 25 yX9_copyFrom cX9_copyFrom 2 none 9 := ⟨⟨wd966, wd135, wd947, by decide +kernel, by decide⟩, wd945, wd946, _, _, rfl⟩
set_option maxRecDepth 20000 in
theorem msX1_29 : aj_MS RX1 29 Lib.Math.min.name Lib.Math.min.code 2 (some .int) := ⟨⟨wd967, wd143, wd626, by decide +kernel, by decide⟩, wd625⟩
set_option maxRecDepth 20000 in
theorem mvL_53 : aj_MV RL 53 yX11_cut cX11_cut 3 (some .int) 11 := ⟨⟨wd968, wd130, wd971, by decide +kernel, by decide⟩, wd969, wd970, _, _, rfl⟩
set_option maxRecDepth 20000 in
theorem mvX11_169 : aj_MV RX11 169 yX9_cutOrJoin cX9_cutOrJoin 3 (some .int) 9 := ⟨⟨wd972, wd135, wd975, by decide +kernel, by decide⟩, wd973, wd974, _, _, rfl⟩
set_option maxRecDepth 20000 in
theorem mvX9_36 : aj_MV RX9 36 yX6_hasArc cX6_hasArc 2 (some .boolean) 6 := ⟨⟨wd976, wd132, wd908, by decide +kernel, by decide⟩, wd906, wd907, _, _, rfl⟩
set_option maxRecDepth 20000 in
theorem mvL_57 : aj_MV RL 57 yX11_twist cX11_twist 3 (some .int) 11 := ⟨⟨wd977, wd130, wd980, by decide +kernel, by decide⟩, wd978, wd979, _, _, rfl⟩
set_option maxRecDepth 20000 in
theorem mvX11_173 : aj_MV RX11 173 yX9_twistTo cX9_twistTo 2 (some .int) 9 := ⟨⟨wd981, wd135, wd984, by decide +kernel, by decide⟩, wd982, wd983, _, _, rfl⟩
set_option maxRecDepth 20000 in
theorem mvL_61 : aj_MV RL 61 yX11_undo cX11_undo 2 (some .int) 11 := ⟨⟨wd985, wd130, wd988, by decide +kernel, by decide⟩, wd986, wd987, _, _, rfl⟩
set_option maxRecDepth 20000 in
theorem mvX11_183 : aj_MV RX11 183 yX1_takeBack cX1_takeBack 3 none 1 := ⟨⟨wd989, wd136, wd992, by decide +kernel, by decide⟩, wd990, wd991, _, _, rfl⟩
set_option maxRecDepth 20000 in
theorem mvL_65 : aj_MV RL 65 yX11_judge cX11_judge 6 (some .int) 11 := ⟨⟨wd993, wd130, wd996, by decide +kernel, by decide⟩, wd994, wd995, _, _, rfl⟩
set_option maxRecDepth 20000 in
theorem msX11_187 : aj_MS RX11 187 yX11_isTray cX11_isTray 1 (some .boolean) := ⟨⟨wd997, wd130, wd999, by decide +kernel, by decide⟩, wd998⟩
set_option maxRecDepth 20000 in
theorem mvX11_190 : aj_MV RX11 190 yX10_isMissing cX10_isMissing 1 (some .boolean) 10 := ⟨⟨wd1000, wd141, wd1003, by decide +kernel, by decide⟩, wd1001, wd1002, _, _, rfl⟩
set_option maxRecDepth 20000 in
theorem mvX11_194 : aj_MV RX11 194 yX11_doAll cX11_doAll 4 (some .int) 11 := ⟨⟨wd1004, wd130, wd1007, by decide +kernel, by decide⟩, wd1006, wd25, _, _, rfl⟩
set_option maxRecDepth 20000 in
theorem mvX11_205 : aj_MV RX11 205 yX9_tryDeed cX9_tryDeed 4 (some .int) 9 := ⟨⟨wd1008, wd135, wd1011, by decide +kernel, by decide⟩, wd1009, wd1010, _, _, rfl⟩
set_option maxRecDepth 20000 in
theorem mvX9_44 : aj_MV RX9 44 yX9_twistTo cX9_twistTo 2 (some .int) 9 := ⟨⟨wd1014, wd135, wd984, by decide +kernel, by decide⟩, wd982, wd983, _, _, rfl⟩
set_option maxRecDepth 20000 in
theorem mvX9_52 : aj_MV RX9 52 yX9_cutOrJoin cX9_cutOrJoin 3 (some .int) 9 := ⟨⟨wd1017, wd135, wd975, by decide +kernel, by decide⟩, wd973, wd974, _, _, rfl⟩
set_option maxRecDepth 20000 in
theorem mvX9_60 : aj_MV RX9 60 yX9_turnTo cX9_turnTo 5 (some .int) 9 := ⟨⟨wd1020, wd135, wd951, by decide +kernel, by decide⟩, wd949, wd950, _, _, rfl⟩
set_option maxRecDepth 20000 in
theorem mvX11_209 : aj_MV RX11 209 yX5_build cX5_build 8 none 5 := ⟨⟨wd1021, wd138, wd1024, by decide +kernel, by decide⟩, wd1022, wd1023, _, _, rfl⟩
set_option maxRecDepth 20000 in
theorem mvX5_85 : aj_MV RX5 85 yX6_knowKept cX6_knowKept 6 none 6 := ⟨⟨wd1025, wd132, wd1028, by decide +kernel, by decide⟩, wd1026, wd1027, _, _, rfl⟩
set_option maxRecDepth 20000 in
theorem mvX6_99 : aj_MV RX6 99 yX4_value cX4_value 12 (some .int) 4 := ⟨⟨wd1029, wd134, wd1032, by decide +kernel, by decide⟩, wd1030, wd1031, _, _, rfl⟩
set_option maxRecDepth 20000 in
theorem msX4_40 : aj_MS RX4 40 yX4_atom cX4_atom 6 (some .int) := ⟨⟨wd1033, wd134, wd1035, by decide +kernel, by decide⟩, wd1034⟩
set_option maxRecDepth 20000 in
theorem msX4_44 : aj_MS RX4 44 yX4_joined cX4_joined 3 (some .long) := ⟨⟨wd1036, wd134, wd1038, by decide +kernel, by decide⟩, wd1037⟩
set_option maxRecDepth 20000 in
theorem msX4_52 : aj_MS RX4 52 Lib.MathLoose.min_long.x Lib.MathLoose.min_long.code 4 (some .long) := ⟨⟨wd1041, wd143, wd1043, by decide +kernel, by decide⟩, wd1042⟩
set_option maxRecDepth 20000 in
theorem msX4_58 : aj_MS RX4 58 Lib.MathLoose.max_long.x Lib.MathLoose.max_long.code 4 (some .long) := ⟨⟨wd1044, wd143, wd1046, by decide +kernel, by decide⟩, wd1045⟩
set_option maxRecDepth 20000 in
theorem mvX5_92 : aj_MV RX5 92 yX9_isOut cX9_isOut 2 (some .boolean) 9 := ⟨⟨wd1047, wd135, wd917, by decide +kernel, by decide⟩, wd915, wd916, _, _, rfl⟩
set_option maxRecDepth 20000 in
theorem mvX5_96 : aj_MV RX5 96 yX6_isHalf cX6_isHalf 2 (some .boolean) 6 := ⟨⟨wd1048, wd132, wd912, by decide +kernel, by decide⟩, wd910, wd911, _, _, rfl⟩
set_option maxRecDepth 20000 in
theorem mvX5_102 : aj_MV RX5 102 yX0_times cX0_times 3 (some .int) 0 := ⟨⟨wd1049, wd133, wd642, by decide +kernel, by decide⟩, wd640, wd641, _, _, rfl⟩
set_option maxRecDepth 20000 in
theorem mvX5_115 : aj_MV RX5 115 yX5_addLink cX5_addLink 5 none 5 := ⟨⟨wd1050, wd138, wd1053, by decide +kernel, by decide⟩, wd1052, wd26, _, _, rfl⟩
set_option maxRecDepth 20000 in
theorem mvX5_122 : aj_MV RX5 122 yX5_has cX5_has 2 (some .boolean) 5 := ⟨⟨wd1054, wd138, wd1057, by decide +kernel, by decide⟩, wd1055, wd1056, _, _, rfl⟩
set_option maxRecDepth 20000 in
theorem mvX5_119 : aj_MV RX5 119 yX5_sortEnds cX5_sortEnds 2 none 5 := ⟨⟨wd1058, wd138, wd1061, by decide +kernel, by decide⟩, wd1060, wd27, _, _, rfl⟩
set_option maxRecDepth 20000 in
theorem msX5_125 : aj_MS RX5 125 yJ7_fill_53178 cJ7_fill_53178 4 none := ⟨⟨wd1062, wd150, wd1064, by decide +kernel, by decide⟩, wd1063⟩
set_option maxRecDepth 20000 in
theorem mvX11_213 : aj_MV RX11 213 yX5_shortestRing cX5_shortestRing 3 (some .int) 5 := ⟨⟨wd1065, wd138, wd1068, by decide +kernel, by decide⟩, wd1066, wd1067, _, _, rfl⟩
set_option maxRecDepth 20000 in
theorem mvX5_152 : aj_MV RX5 152 yX5_shorterFrom cX5_shorterFrom 10 (some .int) 5 := ⟨⟨wd1070, wd138, wd1073, by decide +kernel, by decide⟩, wd1072, wd28, _, _, rfl⟩
set_option maxRecDepth 20000 in
theorem mvX5_131 : aj_MV RX5 131 yX5_otherEnd cX5_otherEnd 3 (some .int) 5 := ⟨⟨wd1074, wd138, wd1077, by decide +kernel, by decide⟩, wd1075, wd1076, _, _, rfl⟩
set_option maxRecDepth 20000 in
theorem msX5_155 : aj_MS RX5 155 Lib.Math.min.name Lib.Math.min.code 2 (some .int) := ⟨⟨wd1078, wd143, wd626, by decide +kernel, by decide⟩, wd625⟩
set_option maxRecDepth 20000 in
theorem msX11_216 : aj_MS RX11 216 yX11_orNone cX11_orNone 1 (some .int) := ⟨⟨wd1079, wd130, wd1081, by decide +kernel, by decide⟩, wd1080⟩
set_option maxRecDepth 20000 in
theorem mvL_69 : aj_MV RL 69 yX11_perform cX11_perform 4 (some .int) 11 := ⟨⟨wd1083, wd130, wd1086, by decide +kernel, by decide⟩, wd1084, wd1085, _, _, rfl⟩
set_option maxRecDepth 20000 in
theorem mvX11_222 : aj_MV RX11 222 yX11_trayCode cX11_trayCode 2 (some .int) 11 := ⟨⟨wd1087, wd130, wd1090, by decide +kernel, by decide⟩, wd1089, wd29, _, _, rfl⟩
set_option maxRecDepth 20000 in
theorem mvL_73 : aj_MV RL 73 yX11_day cX11_day 8 (some .int) 11 := ⟨⟨wd1091, wd130, wd1094, by decide +kernel, by decide⟩, wd1092, wd1093, _, _, rfl⟩
set_option maxRecDepth 20000 in
theorem msX11_225 : aj_MS RX11 225 yX11_nextDraw cX11_nextDraw 1 (some .int) := ⟨⟨wd1095, wd130, wd1097, by decide +kernel, by decide⟩, wd1096⟩
set_option maxRecDepth 20000 in
theorem msX11_228 : aj_MS RX11 228 yX11_drawnDeed cX11_drawnDeed 2 (some .int) := ⟨⟨wd1099, wd130, wd1101, by decide +kernel, by decide⟩, wd1100⟩
set_option maxRecDepth 20000 in
theorem mvL_77 : aj_MV RL 77 yX11_joins cX11_joins 4 (some .int) 11 := ⟨⟨wd1102, wd130, wd1105, by decide +kernel, by decide⟩, wd1103, wd1104, _, _, rfl⟩
set_option maxRecDepth 20000 in
theorem mvX11_231 : aj_MV RX11 231 yX11_current cX11_current 1 (some (.object "CageLift$Network")) 11 := ⟨⟨wd1106, wd130, wd1109, by decide +kernel, by decide⟩, wd1108, wd30, _, _, rfl⟩
set_option maxRecDepth 20000 in
theorem mvX11_235 : aj_MV RX11 235 yX5_has cX5_has 2 (some .boolean) 5 := ⟨⟨wd1110, wd138, wd1057, by decide +kernel, by decide⟩, wd1055, wd1056, _, _, rfl⟩
set_option maxRecDepth 20000 in
theorem mvX11_236 : aj_MV RX11 236 yX5_linksBetween cX5_linksBetween 5 (some .int) 5 := ⟨⟨wd1111, wd138, wd1114, by decide +kernel, by decide⟩, wd1112, wd1113, _, _, rfl⟩
set_option maxRecDepth 20000 in
theorem mvL_81 : aj_MV RL 81 yX11_degree cX11_degree 3 (some .int) 11 := ⟨⟨wd1115, wd130, wd1118, by decide +kernel, by decide⟩, wd1116, wd1117, _, _, rfl⟩
set_option maxRecDepth 20000 in
theorem mvX11_239 : aj_MV RX11 239 yX5_endsAt cX5_endsAt 2 (some .int) 5 := ⟨⟨wd1119, wd138, wd1122, by decide +kernel, by decide⟩, wd1120, wd1121, _, _, rfl⟩
set_option maxRecDepth 20000 in
theorem mvL_85 : aj_MV RL 85 yX11_neighbour cX11_neighbour 4 (some .int) 11 := ⟨⟨wd1123, wd130, wd1126, by decide +kernel, by decide⟩, wd1124, wd1125, _, _, rfl⟩
set_option maxRecDepth 20000 in
theorem mvX11_242 : aj_MV RX11 242 yX5_neighbourAt cX5_neighbourAt 5 (some .int) 5 := ⟨⟨wd1127, wd138, wd1130, by decide +kernel, by decide⟩, wd1128, wd1129, _, _, rfl⟩
set_option maxRecDepth 20000 in
theorem mvL_89 : aj_MV RL 89 yX11_regular cX11_regular 1 (some .int) 11 := ⟨⟨wd1132, wd130, wd1135, by decide +kernel, by decide⟩, wd1133, wd1134, _, _, rfl⟩
set_option maxRecDepth 20000 in
theorem mvX11_245 : aj_MV RX11 245 yX5_commonDegree cX5_commonDegree 2 (some .int) 5 := ⟨⟨wd1136, wd138, wd1139, by decide +kernel, by decide⟩, wd1137, wd1138, _, _, rfl⟩
set_option maxRecDepth 20000 in
theorem mvX5_136 : aj_MV RX5 136 yX5_endsAt cX5_endsAt 2 (some .int) 5 := ⟨⟨wd1140, wd138, wd1122, by decide +kernel, by decide⟩, wd1120, wd1121, _, _, rfl⟩
set_option maxRecDepth 20000 in
theorem mvL_93 : aj_MV RL 93 yX11_parts cX11_parts 1 (some .int) 11 := ⟨⟨wd1141, wd130, wd1144, by decide +kernel, by decide⟩, wd1142, wd1143, _, _, rfl⟩
set_option maxRecDepth 20000 in
theorem mvX11_248 : aj_MV RX11 248 yX5_countParts cX5_countParts 3 (some .int) 5 := ⟨⟨wd1145, wd138, wd1148, by decide +kernel, by decide⟩, wd1146, wd1147, _, _, rfl⟩
set_option maxRecDepth 20000 in
theorem mvX5_140 : aj_MV RX5 140 yX5_spread cX5_spread 7 (some .int) 5 := ⟨⟨wd1149, wd138, wd1152, by decide +kernel, by decide⟩, wd1150, wd1151, _, _, rfl⟩
set_option maxRecDepth 20000 in
theorem mvX5_143 : aj_MV RX5 143 yX5_markReached cX5_markReached 3 none 5 := ⟨⟨wd1153, wd138, wd1156, by decide +kernel, by decide⟩, wd1155, wd31, _, _, rfl⟩
set_option maxRecDepth 20000 in
theorem mvL_97 : aj_MV RL 97 yX11_twoColours cX11_twoColours 1 (some .int) 11 := ⟨⟨wd1157, wd130, wd1160, by decide +kernel, by decide⟩, wd1158, wd1159, _, _, rfl⟩
set_option maxRecDepth 20000 in
theorem mvX11_251 : aj_MV RX11 251 yX5_isTwoColoured cX5_isTwoColoured 4 (some .boolean) 5 := ⟨⟨wd1161, wd138, wd1164, by decide +kernel, by decide⟩, wd1162, wd1163, _, _, rfl⟩
set_option maxRecDepth 20000 in
theorem mvL_101 : aj_MV RL 101 yX11_far cX11_far 4 (some .int) 11 := ⟨⟨wd1165, wd130, wd1168, by decide +kernel, by decide⟩, wd1166, wd1167, _, _, rfl⟩
set_option maxRecDepth 20000 in
theorem mvX11_254 : aj_MV RX11 254 yX5_spread cX5_spread 7 (some .int) 5 := ⟨⟨wd1169, wd138, wd1152, by decide +kernel, by decide⟩, wd1150, wd1151, _, _, rfl⟩
set_option maxRecDepth 20000 in
theorem mvL_105 : aj_MV RL 105 yX11_diameter cX11_diameter 1 (some .int) 11 := ⟨⟨wd1170, wd130, wd1173, by decide +kernel, by decide⟩, wd1171, wd1172, _, _, rfl⟩
set_option maxRecDepth 20000 in
theorem mvX11_260 : aj_MV RX11 260 yX5_widest cX5_widest 4 (some .int) 5 := ⟨⟨wd1174, wd138, wd1177, by decide +kernel, by decide⟩, wd1175, wd1176, _, _, rfl⟩
set_option maxRecDepth 20000 in
theorem msX5_146 : aj_MS RX5 146 Lib.Math.max.name Lib.Math.max.code 2 (some .int) := ⟨⟨wd1178, wd143, wd726, by decide +kernel, by decide⟩, wd725⟩
set_option maxRecDepth 20000 in
theorem mvL_109 : aj_MV RL 109 yX11_ball cX11_ball 4 (some .int) 11 := ⟨⟨wd1179, wd130, wd1182, by decide +kernel, by decide⟩, wd1180, wd1181, _, _, rfl⟩
set_option maxRecDepth 20000 in
theorem mvX11_263 : aj_MV RX11 263 yX5_within cX5_within 6 (some .int) 5 := ⟨⟨wd1183, wd138, wd1186, by decide +kernel, by decide⟩, wd1184, wd1185, _, _, rfl⟩
set_option maxRecDepth 20000 in
theorem mvL_113 : aj_MV RL 113 yX11_girth cX11_girth 1 (some .int) 11 := ⟨⟨wd1187, wd130, wd1190, by decide +kernel, by decide⟩, wd1188, wd1189, _, _, rfl⟩
set_option maxRecDepth 20000 in
theorem mvL_117 : aj_MV RL 117 yX11_ring cX11_ring 3 (some .int) 11 := ⟨⟨wd1191, wd130, wd1194, by decide +kernel, by decide⟩, wd1192, wd1193, _, _, rfl⟩
set_option maxRecDepth 20000 in
theorem mvX11_266 : aj_MV RX11 266 yX11_currentRings cX11_currentRings 1 (some (.object "CageLift$Rings")) 11 := ⟨⟨wd1195, wd130, wd1198, by decide +kernel, by decide⟩, wd1197, wd32, _, _, rfl⟩
set_option maxRecDepth 20000 in
theorem mvX11_270 : aj_MV RX11 270 yX8_findFirst cX8_findFirst 4 none 8 := ⟨⟨wd1199, wd137, wd1202, by decide +kernel, by decide⟩, wd1200, wd1201, _, _, rfl⟩
set_option maxRecDepth 20000 in
theorem mvX8_49 : aj_MV RX8 49 yX5_shortestRing cX5_shortestRing 3 (some .int) 5 := ⟨⟨wd1203, wd138, wd1068, by decide +kernel, by decide⟩, wd1066, wd1067, _, _, rfl⟩
set_option maxRecDepth 20000 in
theorem mvX8_56 : aj_MV RX8 56 yX5_linksBetween cX5_linksBetween 5 (some .int) 5 := ⟨⟨wd1204, wd138, wd1114, by decide +kernel, by decide⟩, wd1112, wd1113, _, _, rfl⟩
set_option maxRecDepth 20000 in
theorem mvX8_60 : aj_MV RX8 60 yX8_findFrom cX8_findFrom 4 (some .boolean) 8 := ⟨⟨wd1205, wd137, wd1208, by decide +kernel, by decide⟩, wd1207, wd33, _, _, rfl⟩
set_option maxRecDepth 20000 in
theorem mvX8_67 : aj_MV RX8 67 yX8_findRest cX8_findRest 4 (some .boolean) 8 := ⟨⟨wd1209, wd137, wd1212, by decide +kernel, by decide⟩, wd1211, wd34, _, _, rfl⟩
set_option maxRecDepth 20000 in
theorem mvX8_72 : aj_MV RX8 72 yX5_spread cX5_spread 7 (some .int) 5 := ⟨⟨wd1213, wd138, wd1152, by decide +kernel, by decide⟩, wd1150, wd1151, _, _, rfl⟩
set_option maxRecDepth 20000 in
theorem mvX8_76 : aj_MV RX8 76 yX8_leastAt cX8_leastAt 6 (some .int) 8 := ⟨⟨wd1214, wd137, wd1217, by decide +kernel, by decide⟩, wd1216, wd35, _, _, rfl⟩
set_option maxRecDepth 20000 in
theorem mvX8_85 : aj_MV RX8 85 yX5_otherEnd cX5_otherEnd 3 (some .int) 5 := ⟨⟨wd1218, wd138, wd1077, by decide +kernel, by decide⟩, wd1075, wd1076, _, _, rfl⟩
set_option maxRecDepth 20000 in
theorem mvL_121 : aj_MV RL 121 yX11_rings cX11_rings 2 (some .int) 11 := ⟨⟨wd1220, wd130, wd1223, by decide +kernel, by decide⟩, wd1221, wd1222, _, _, rfl⟩
set_option maxRecDepth 20000 in
theorem mvX11_279 : aj_MV RX11 279 yX8_countOf cX8_countOf 5 (some .int) 8 := ⟨⟨wd1224, wd137, wd1227, by decide +kernel, by decide⟩, wd1225, wd1226, _, _, rfl⟩
set_option maxRecDepth 20000 in
theorem mvX8_91 : aj_MV RX8 91 yX8_countSelfLinks cX8_countSelfLinks 3 (some .int) 8 := ⟨⟨wd1228, wd137, wd1231, by decide +kernel, by decide⟩, wd1230, wd36, _, _, rfl⟩
set_option maxRecDepth 20000 in
theorem mvX8_94 : aj_MV RX8 94 yX8_spreadOut cX8_spreadOut 4 none 8 := ⟨⟨wd1232, wd137, wd1235, by decide +kernel, by decide⟩, wd1234, wd37, _, _, rfl⟩
set_option maxRecDepth 20000 in
theorem msX8_119 : aj_MS RX8 119 yJ7_fill_53178 cJ7_fill_53178 4 none := ⟨⟨wd1236, wd150, wd1064, by decide +kernel, by decide⟩, wd1063⟩
set_option maxRecDepth 20000 in
theorem mvX8_125 : aj_MV RX8 125 yX8_joinOnce cX8_joinOnce 3 none 8 := ⟨⟨wd1237, wd137, wd1240, by decide +kernel, by decide⟩, wd1239, wd38, _, _, rfl⟩
set_option maxRecDepth 20000 in
theorem mvX8_97 : aj_MV RX8 97 yX8_countPairs cX8_countPairs 5 (some .int) 8 := ⟨⟨wd1241, wd137, wd1244, by decide +kernel, by decide⟩, wd1243, wd39, _, _, rfl⟩
set_option maxRecDepth 20000 in
theorem mvX8_100 : aj_MV RX8 100 yX8_knowClosings cX8_knowClosings 6 none 8 := ⟨⟨wd1245, wd137, wd1248, by decide +kernel, by decide⟩, wd1247, wd40, _, _, rfl⟩
set_option maxRecDepth 20000 in
theorem mvX8_104 : aj_MV RX8 104 yX8_waysOn cX8_waysOn 8 (some .long) 8 := ⟨⟨wd1249, wd137, wd1252, by decide +kernel, by decide⟩, wd1251, wd41, _, _, rfl⟩
set_option maxRecDepth 20000 in
theorem mvX8_129 : aj_MV RX8 129 yX8_waysToClose cX8_waysToClose 6 (some .long) 8 := ⟨⟨wd1253, wd137, wd1256, by decide +kernel, by decide⟩, wd1255, wd42, _, _, rfl⟩
set_option maxRecDepth 20000 in
theorem mvL_125 : aj_MV RL 125 yX11_through cX11_through 3 (some .int) 11 := ⟨⟨wd1258, wd130, wd1261, by decide +kernel, by decide⟩, wd1259, wd1260, _, _, rfl⟩
set_option maxRecDepth 20000 in
theorem mvX11_282 : aj_MV RX11 282 yX5_shortestThrough cX5_shortestThrough 7 (some .int) 5 := ⟨⟨wd1262, wd138, wd1265, by decide +kernel, by decide⟩, wd1263, wd1264, _, _, rfl⟩
set_option maxRecDepth 20000 in
theorem mvL_129 : aj_MV RL 129 yX11_bound cX11_bound 3 (some .long) 11 := ⟨⟨wd1266, wd130, wd1269, by decide +kernel, by decide⟩, wd1267, wd1268, _, _, rfl⟩
set_option maxRecDepth 20000 in
theorem msX11_285 : aj_MS RX11 285 yX11_isBounded cX11_isBounded 2 (some .boolean) := ⟨⟨wd1270, wd130, wd1272, by decide +kernel, by decide⟩, wd1271⟩
set_option maxRecDepth 20000 in
theorem msX11_289 : aj_MS RX11 289 yX11_treeBound cX11_treeBound 8 (some .long) := ⟨⟨wd1273, wd130, wd1275, by decide +kernel, by decide⟩, wd1274⟩
set_option maxRecDepth 20000 in
theorem mvL_134 : aj_MV RL 134 yX11_excess cX11_excess 4 (some .long) 11 := ⟨⟨wd1278, wd130, wd1281, by decide +kernel, by decide⟩, wd1279, wd1280, _, _, rfl⟩
set_option maxRecDepth 20000 in
theorem mvL_139 : aj_MV RL 139 yX11_light cX11_light 4 (some .int) 11 := ⟨⟨wd1283, wd130, wd1286, by decide +kernel, by decide⟩, wd1284, wd1285, _, _, rfl⟩
set_option maxRecDepth 20000 in
theorem mvX11_300 : aj_MV RX11 300 yX5_weighLinks cX5_weighLinks 4 none 5 := ⟨⟨wd1287, wd138, wd1290, by decide +kernel, by decide⟩, wd1288, wd1289, _, _, rfl⟩
set_option maxRecDepth 20000 in
theorem mvX5_158 : aj_MV RX5 158 yX6_weightOf cX6_weightOf 5 (some .int) 6 := ⟨⟨wd1291, wd132, wd1294, by decide +kernel, by decide⟩, wd1292, wd1293, _, _, rfl⟩
set_option maxRecDepth 20000 in
theorem msX6_109 : aj_MS RX6 109 Lib.Math.min.name Lib.Math.min.code 2 (some .int) := ⟨⟨wd1295, wd143, wd626, by decide +kernel, by decide⟩, wd625⟩
set_option maxRecDepth 20000 in
theorem msX6_115 : aj_MS RX6 115 Lib.Math.max.name Lib.Math.max.code 2 (some .int) := ⟨⟨wd1296, wd143, wd726, by decide +kernel, by decide⟩, wd725⟩
set_option maxRecDepth 20000 in
theorem mvX11_304 : aj_MV RX11 304 yX5_lightFrom cX5_lightFrom 7 none 5 := ⟨⟨wd1297, wd138, wd1300, by decide +kernel, by decide⟩, wd1298, wd1299, _, _, rfl⟩
set_option maxRecDepth 20000 in
theorem mvX5_162 : aj_MV RX5 162 yX5_lightestUnseen cX5_lightestUnseen 4 (some .int) 5 := ⟨⟨wd1301, wd138, wd1304, by decide +kernel, by decide⟩, wd1303, wd43, _, _, rfl⟩
set_option maxRecDepth 20000 in
theorem mvL_143 : aj_MV RL 143 yX11_lightest cX11_lightest 2 (some .int) 11 := ⟨⟨wd1305, wd130, wd1308, by decide +kernel, by decide⟩, wd1306, wd1307, _, _, rfl⟩
set_option maxRecDepth 20000 in
theorem mvX11_310 : aj_MV RX11 310 yX5_lightestRing cX5_lightestRing 6 (some .int) 5 := ⟨⟨wd1309, wd138, wd1312, by decide +kernel, by decide⟩, wd1310, wd1311, _, _, rfl⟩
set_option maxRecDepth 20000 in
theorem mvX5_166 : aj_MV RX5 166 yX5_lightFrom cX5_lightFrom 7 none 5 := ⟨⟨wd1313, wd138, wd1300, by decide +kernel, by decide⟩, wd1298, wd1299, _, _, rfl⟩
set_option maxRecDepth 20000 in
theorem mvL_147 : aj_MV RL 147 yX11_walk cX11_walk 3 (some .int) 11 := ⟨⟨wd1314, wd130, wd1317, by decide +kernel, by decide⟩, wd1315, wd1316, _, _, rfl⟩
set_option maxRecDepth 20000 in
theorem mvX11_313 : aj_MV RX11 313 yX11_gathered cX11_gathered 8 (some .int) 11 := ⟨⟨wd1318, wd130, wd1321, by decide +kernel, by decide⟩, wd1320, wd44, _, _, rfl⟩
set_option maxRecDepth 20000 in
theorem mvX11_320 : aj_MV RX11 320 yX11_stepBegins cX11_stepBegins 3 (some .int) 11 := ⟨⟨wd1322, wd130, wd1325, by decide +kernel, by decide⟩, wd1324, wd45, _, _, rfl⟩
set_option maxRecDepth 20000 in
theorem mvX11_324 : aj_MV RX11 324 yX11_stepEnds cX11_stepEnds 3 (some .int) 11 := ⟨⟨wd1326, wd130, wd1329, by decide +kernel, by decide⟩, wd1328, wd46, _, _, rfl⟩
set_option maxRecDepth 20000 in
theorem mvL_151 : aj_MV RL 151 yX11_lifted cX11_lifted 6 (some .int) 11 := ⟨⟨wd1330, wd130, wd1333, by decide +kernel, by decide⟩, wd1331, wd1332, _, _, rfl⟩
set_option maxRecDepth 20000 in
theorem mvX11_317 : aj_MV RX11 317 yX11_walk cX11_walk 3 (some .int) 11 := ⟨⟨wd1334, wd130, wd1317, by decide +kernel, by decide⟩, wd1315, wd1316, _, _, rfl⟩
set_option maxRecDepth 20000 in
theorem mvL_155 : aj_MV RL 155 yX11_tune cX11_tune 6 (some .int) 11 := ⟨⟨wd1335, wd130, wd1338, by decide +kernel, by decide⟩, wd1336, wd1337, _, _, rfl⟩
set_option maxRecDepth 20000 in
theorem mvX11_328 : aj_MV RX11 328 yX6_whyNotBy cX6_whyNotBy 3 (some .int) 6 := ⟨⟨wd1339, wd132, wd955, by decide +kernel, by decide⟩, wd953, wd954, _, _, rfl⟩
set_option maxRecDepth 20000 in
theorem mvX11_331 : aj_MV RX11 331 yX11_ringBy cX11_ringBy 3 (some .int) 11 := ⟨⟨wd1340, wd130, wd1343, by decide +kernel, by decide⟩, wd1342, wd47, _, _, rfl⟩
set_option maxRecDepth 20000 in
theorem mvL_159 : aj_MV RL 159 yX11_tuned cX11_tuned 3 (some .int) 11 := ⟨⟨wd1344, wd130, wd1347, by decide +kernel, by decide⟩, wd1345, wd1346, _, _, rfl⟩
set_option maxRecDepth 20000 in
theorem mvX11_334 : aj_MV RX11 334 yX11_tune cX11_tune 6 (some .int) 11 := ⟨⟨wd1348, wd130, wd1338, by decide +kernel, by decide⟩, wd1336, wd1337, _, _, rfl⟩
set_option maxRecDepth 20000 in
theorem mvL_163 : aj_MV RL 163 yX11_search cX11_search 5 (some .int) 11 := ⟨⟨wd1349, wd130, wd1352, by decide +kernel, by decide⟩, wd1350, wd1351, _, _, rfl⟩
set_option maxRecDepth 20000 in
theorem msX11_337 : aj_MS RX11 337 yX2_canBe cX2_canBe 3 (some .boolean) := ⟨⟨wd1353, wd139, wd1355, by decide +kernel, by decide⟩, wd1354⟩
set_option maxRecDepth 20000 in
theorem mvX11_341 : aj_MV RX11 341 yX2_run cX2_run 4 none 2 := ⟨⟨wd1356, wd139, wd1359, by decide +kernel, by decide⟩, wd1357, wd1358, _, _, rfl⟩
set_option maxRecDepth 20000 in
theorem msX2_37 : aj_MS RX2 37 yX2_canBe cX2_canBe 3 (some .boolean) := ⟨⟨wd1360, wd139, wd1355, by decide +kernel, by decide⟩, wd1354⟩
set_option maxRecDepth 20000 in
theorem msX2_41 : aj_MS RX2 41 yJ7_fill_53178 cJ7_fill_53178 4 none := ⟨⟨wd1361, wd150, wd1064, by decide +kernel, by decide⟩, wd1063⟩
set_option maxRecDepth 20000 in
theorem mvX2_47 : aj_MV RX2 47 yX2_makeStep cX2_makeStep 6 none 2 := ⟨⟨wd1362, wd139, wd1365, by decide +kernel, by decide⟩, wd1364, wd48, _, _, rfl⟩
set_option maxRecDepth 20000 in
theorem mvX2_51 : aj_MV RX2 51 yX2_leastUnfilled cX2_leastUnfilled 2 (some .int) 2 := ⟨⟨wd1366, wd139, wd1369, by decide +kernel, by decide⟩, wd1368, wd49, _, _, rfl⟩
set_option maxRecDepth 20000 in
theorem mvX2_64 : aj_MV RX2 64 yX2_isUnfilled cX2_isUnfilled 2 (some .boolean) 2 := ⟨⟨wd1370, wd139, wd1373, by decide +kernel, by decide⟩, wd1372, wd50, _, _, rfl⟩
set_option maxRecDepth 20000 in
theorem msX2_59 : aj_MS RX2 59 yJ6_bitCount_0f7a4 cJ6_bitCount_0f7a4 1 (some .int) := ⟨⟨wd1374, wd151, wd1376, by decide +kernel, by decide⟩, wd1375⟩
set_option maxRecDepth 20000 in
theorem mvX2_55 : aj_MV RX2 55 yX2_partnersOf cX2_partnersOf 8 (some .int) 2 := ⟨⟨wd1380, wd139, wd1383, by decide +kernel, by decide⟩, wd1382, wd51, _, _, rfl⟩
set_option maxRecDepth 20000 in
theorem mvX2_68 : aj_MV RX2 68 yX2_tooNear cX2_tooNear 6 (some .int) 2 := ⟨⟨wd1384, wd139, wd1387, by decide +kernel, by decide⟩, wd1386, wd52, _, _, rfl⟩
set_option maxRecDepth 20000 in
theorem mvL_168 : aj_MV RL 168 yX11_found cX11_found 6 (some .int) 11 := ⟨⟨wd1388, wd130, wd1391, by decide +kernel, by decide⟩, wd1389, wd1390, _, _, rfl⟩
set_option maxRecDepth 20000 in
theorem mvL_172 : aj_MV RL 172 yX11_twists cX11_twists 6 (some .int) 11 := ⟨⟨wd1392, wd130, wd1395, by decide +kernel, by decide⟩, wd1393, wd1394, _, _, rfl⟩
set_option maxRecDepth 20000 in
theorem mvX11_357 : aj_MV RX11 357 yX11_isWeighing cX11_isWeighing 3 (some .boolean) 11 := ⟨⟨wd1396, wd130, wd1399, by decide +kernel, by decide⟩, wd1398, wd53, _, _, rfl⟩
set_option maxRecDepth 20000 in
theorem mvX11_361 : aj_MV RX11 361 yX11_allWeighSo cX11_allWeighSo 5 (some .boolean) 11 := ⟨⟨wd1402, wd130, wd1405, by decide +kernel, by decide⟩, wd1404, wd54, _, _, rfl⟩
set_option maxRecDepth 20000 in
theorem mvX11_428 : aj_MV RX11 428 yX6_weightOf cX6_weightOf 5 (some .int) 6 := ⟨⟨wd1406, wd132, wd1294, by decide +kernel, by decide⟩, wd1292, wd1293, _, _, rfl⟩
set_option maxRecDepth 20000 in
theorem mvL_176 : aj_MV RL 176 yX11_weigh cX11_weigh 8 (some .int) 11 := ⟨⟨wd1407, wd130, wd1410, by decide +kernel, by decide⟩, wd1408, wd1409, _, _, rfl⟩
set_option maxRecDepth 20000 in
theorem mvX11_365 : aj_MV RX11 365 yX11_twists cX11_twists 6 (some .int) 11 := ⟨⟨wd1411, wd130, wd1395, by decide +kernel, by decide⟩, wd1393, wd1394, _, _, rfl⟩
set_option maxRecDepth 20000 in
theorem mvX11_371 : aj_MV RX11 371 yX11_mostAlike cX11_mostAlike 8 (some .int) 11 := ⟨⟨wd1412, wd130, wd1415, by decide +kernel, by decide⟩, wd1414, wd55, _, _, rfl⟩
set_option maxRecDepth 20000 in
theorem msX11_431 : aj_MS RX11 431 Lib.Math.max.name Lib.Math.max.code 2 (some .int) := ⟨⟨wd1416, wd143, wd726, by decide +kernel, by decide⟩, wd725⟩
set_option maxRecDepth 20000 in
theorem mvL_180 : aj_MV RL 180 yX11_chance cX11_chance 4 (some .int) 11 := ⟨⟨wd1417, wd130, wd1420, by decide +kernel, by decide⟩, wd1418, wd1419, _, _, rfl⟩
set_option maxRecDepth 20000 in
theorem mvX11_375 : aj_MV RX11 375 yX11_drawn cX11_drawn 7 (some .int) 11 := ⟨⟨wd1421, wd130, wd1424, by decide +kernel, by decide⟩, wd1423, wd56, _, _, rfl⟩
set_option maxRecDepth 20000 in
theorem mvX11_434 : aj_MV RX11 434 yX11_worth cX11_worth 3 (some .int) 11 := ⟨⟨wd1425, wd130, wd1428, by decide +kernel, by decide⟩, wd1427, wd57, _, _, rfl⟩
set_option maxRecDepth 20000 in
theorem mvX11_437 : aj_MV RX11 437 yX11_drawLot cX11_drawLot 2 none 11 := ⟨⟨wd1429, wd130, wd1432, by decide +kernel, by decide⟩, wd1431, wd58, _, _, rfl⟩
set_option maxRecDepth 20000 in
theorem msX11_378 : aj_MS RX11 378 yX11_lowest cX11_lowest 8 (some .int) := ⟨⟨wd1433, wd130, wd1435, by decide +kernel, by decide⟩, wd1434⟩
set_option maxRecDepth 20000 in
theorem mvL_185 : aj_MV RL 185 yX11_mean cX11_mean 3 (some .int) 11 := ⟨⟨wd1436, wd130, wd1439, by decide +kernel, by decide⟩, wd1437, wd1438, _, _, rfl⟩
set_option maxRecDepth 20000 in
theorem mvL_189 : aj_MV RL 189 yX11_numbers cX11_numbers 4 (some .int) 11 := ⟨⟨wd1440, wd130, wd1443, by decide +kernel, by decide⟩, wd1441, wd1442, _, _, rfl⟩
set_option maxRecDepth 20000 in
theorem mvX11_381 : aj_MV RX11 381 yX10_lay cX10_lay 3 none 10 := ⟨⟨wd1444, wd141, wd1447, by decide +kernel, by decide⟩, wd1445, wd1446, _, _, rfl⟩
set_option maxRecDepth 20000 in
theorem msX10_22 : aj_MS RX10 22 yJ7_fill_d0a16 cJ7_fill_d0a16 5 none := ⟨⟨wd1448, wd150, wd1450, by decide +kernel, by decide⟩, wd1449⟩
set_option maxRecDepth 20000 in
theorem mvL_195 : aj_MV RL 195 yX11_write cX11_write 7 (some .long) 11 := ⟨⟨wd1451, wd130, wd1454, by decide +kernel, by decide⟩, wd1452, wd1453, _, _, rfl⟩
set_option maxRecDepth 20000 in
theorem mvX11_387 : aj_MV RX11 387 yX10_trimmed cX10_trimmed 3 (some .long) 10 := ⟨⟨wd1456, wd141, wd1459, by decide +kernel, by decide⟩, wd1457, wd1458, _, _, rfl⟩
set_option maxRecDepth 20000 in
theorem mvL_200 : aj_MV RL 200 yX11_lists cX11_lists 7 (some .int) 11 := ⟨⟨wd1460, wd130, wd1463, by decide +kernel, by decide⟩, wd1461, wd1462, _, _, rfl⟩
set_option maxRecDepth 20000 in
theorem msX11_391 : aj_MS RX11 391 Lib.Math.min.name Lib.Math.min.code 2 (some .int) := ⟨⟨wd1464, wd143, wd626, by decide +kernel, by decide⟩, wd625⟩
set_option maxRecDepth 20000 in
theorem mvL_204 : aj_MV RL 204 yX11_image cX11_image 2 (some .int) 11 := ⟨⟨wd1465, wd130, wd1468, by decide +kernel, by decide⟩, wd1466, wd1467, _, _, rfl⟩
set_option maxRecDepth 20000 in
theorem mvX11_396 : aj_MV RX11 396 yX3_take cX3_take 3 none 3 := ⟨⟨wd1469, wd140, wd1472, by decide +kernel, by decide⟩, wd1470, wd1471, _, _, rfl⟩
set_option maxRecDepth 20000 in
theorem mvX3_27 : aj_MV RX3 27 yX6_copyFrom cX6_copyFrom 2 none 6 := ⟨⟨wd1473, wd132, wd874, by decide +kernel, by decide⟩, wd872, wd873, _, _, rfl⟩
set_option maxRecDepth 20000 in
theorem mvX3_31 : aj_MV RX3 31 yX9_copyFrom cX9_copyFrom 2 none 9 := ⟨⟨wd1474, wd135, wd947, by decide +kernel, by decide⟩, wd945, wd946, _, _, rfl⟩
set_option maxRecDepth 20000 in
theorem mvL_208 : aj_MV RL 208 yX11_restore cX11_restore 2 (some .int) 11 := ⟨⟨wd1475, wd130, wd1478, by decide +kernel, by decide⟩, wd1476, wd1477, _, _, rfl⟩
set_option maxRecDepth 20000 in
theorem mvX11_402 : aj_MV RX11 402 yX3_giveBack cX3_giveBack 3 none 3 := ⟨⟨wd1479, wd140, wd1482, by decide +kernel, by decide⟩, wd1480, wd1481, _, _, rfl⟩
set_option maxRecDepth 20000 in
theorem mvL_212 : aj_MV RL 212 yX11_count cX11_count 2 (some .int) 11 := ⟨⟨wd1483, wd130, wd1486, by decide +kernel, by decide⟩, wd1484, wd1485, _, _, rfl⟩
set_option maxRecDepth 20000 in
theorem msX12_88 : aj_MS RX12 88 yX12_plain cX12_plain 2 none := ⟨⟨wd1493, wd142, wd1495, by decide +kernel, by decide⟩, wd1494⟩
set_option maxRecDepth 20000 in
theorem flX12_1 : aj_FL RX12 1 12 0 := ⟨_, _, _, cfX12, by decide, wd1496⟩
set_option maxRecDepth 20000 in
theorem fpX12_1 : aj_FP RX12 1 12 0 := ⟨_, _, _, cfX12, by decide, wd1496, rfl⟩
set_option maxRecDepth 20000 in
theorem flX12_13 : aj_FL RX12 13 12 1 := ⟨_, _, _, cfX12, by decide, wd1497⟩
set_option maxRecDepth 20000 in
theorem flX12_17 : aj_FL RX12 17 12 2 := ⟨_, _, _, cfX12, by decide, wd1498⟩
set_option maxRecDepth 20000 in
theorem flX12_21 : aj_FL RX12 21 12 3 := ⟨_, _, _, cfX12, by decide, wd1499⟩
set_option maxRecDepth 20000 in
theorem flX12_24 : aj_FL RX12 24 12 4 := ⟨_, _, _, cfX12, by decide, wd1500⟩
set_option maxRecDepth 20000 in
theorem flX12_92 : aj_FL RX12 92 12 5 := ⟨_, _, _, cfX12, by decide, wd1501⟩
set_option maxRecDepth 20000 in
theorem fpX12_92 : aj_FP RX12 92 12 5 := ⟨_, _, _, cfX12, by decide, wd1501, rfl⟩
set_option maxRecDepth 20000 in
theorem flX12_110 : aj_FL RX12 110 12 6 := ⟨_, _, _, cfX12, by decide, wd1502⟩
set_option maxRecDepth 20000 in
theorem fpX12_110 : aj_FP RX12 110 12 6 := ⟨_, _, _, cfX12, by decide, wd1502, rfl⟩
set_option maxRecDepth 20000 in
theorem flX12_113 : aj_FL RX12 113 12 7 := ⟨_, _, _, cfX12, by decide, wd1503⟩
set_option maxRecDepth 20000 in
theorem fpX12_113 : aj_FP RX12 113 12 7 := ⟨_, _, _, cfX12, by decide, wd1503, rfl⟩
set_option maxRecDepth 20000 in
theorem flX12_95 : aj_FL RX12 95 12 8 := ⟨_, _, _, cfX12, by decide, wd1504⟩
set_option maxRecDepth 20000 in
theorem fpX12_95 : aj_FP RX12 95 12 8 := ⟨_, _, _, cfX12, by decide, wd1504, rfl⟩
set_option maxRecDepth 20000 in
theorem flX12_120 : aj_FL RX12 120 12 9 := ⟨_, _, _, cfX12, by decide, wd1505⟩
set_option maxRecDepth 20000 in
theorem fpX12_120 : aj_FP RX12 120 12 9 := ⟨_, _, _, cfX12, by decide, wd1505, rfl⟩
set_option maxRecDepth 20000 in
theorem flX12_133 : aj_FL RX12 133 12 10 := ⟨_, _, _, cfX12, by decide, wd1506⟩
set_option maxRecDepth 20000 in
theorem fpX12_133 : aj_FP RX12 133 12 10 := ⟨_, _, _, cfX12, by decide, wd1506, rfl⟩
set_option maxRecDepth 20000 in
theorem flX12_138 : aj_FL RX12 138 12 11 := ⟨_, _, _, cfX12, by decide, wd1507⟩
set_option maxRecDepth 20000 in
theorem fpX12_138 : aj_FP RX12 138 12 11 := ⟨_, _, _, cfX12, by decide, wd1507, rfl⟩
set_option maxRecDepth 20000 in
theorem flX12_141 : aj_FL RX12 141 12 12 := ⟨_, _, _, cfX12, by decide, wd1508⟩
set_option maxRecDepth 20000 in
theorem fpX12_141 : aj_FP RX12 141 12 12 := ⟨_, _, _, cfX12, by decide, wd1508, rfl⟩
set_option maxRecDepth 20000 in
theorem flX12_243 : aj_FL RX12 243 12 13 := ⟨_, _, _, cfX12, by decide, wd1509⟩
set_option maxRecDepth 20000 in
theorem fpX12_243 : aj_FP RX12 243 12 13 := ⟨_, _, _, cfX12, by decide, wd1509, rfl⟩
set_option maxRecDepth 20000 in
theorem flX12_27 : aj_FL RX12 27 12 14 := ⟨_, _, _, cfX12, by decide, wd1510⟩
set_option maxRecDepth 20000 in
theorem fpX12_27 : aj_FP RX12 27 12 14 := ⟨_, _, _, cfX12, by decide, wd1510, rfl⟩
set_option maxRecDepth 20000 in
theorem flX12_221 : aj_FL RX12 221 12 15 := ⟨_, _, _, cfX12, by decide, wd1511⟩
set_option maxRecDepth 20000 in
theorem fpX12_221 : aj_FP RX12 221 12 15 := ⟨_, _, _, cfX12, by decide, wd1511, rfl⟩
set_option maxRecDepth 20000 in
theorem flX12_30 : aj_FL RX12 30 12 16 := ⟨_, _, _, cfX12, by decide, wd1512⟩
set_option maxRecDepth 20000 in
theorem flX12_33 : aj_FL RX12 33 12 17 := ⟨_, _, _, cfX12, by decide, wd1513⟩
set_option maxRecDepth 20000 in
theorem flX12_36 : aj_FL RX12 36 12 18 := ⟨_, _, _, cfX12, by decide, wd1514⟩
set_option maxRecDepth 20000 in
theorem flX12_39 : aj_FL RX12 39 12 19 := ⟨_, _, _, cfX12, by decide, wd1515⟩
set_option maxRecDepth 20000 in
theorem flX12_42 : aj_FL RX12 42 12 20 := ⟨_, _, _, cfX12, by decide, wd1516⟩
set_option maxRecDepth 20000 in
theorem flX12_45 : aj_FL RX12 45 12 21 := ⟨_, _, _, cfX12, by decide, wd1517⟩
set_option maxRecDepth 20000 in
theorem flX12_265 : aj_FL RX12 265 12 22 := ⟨_, _, _, cfX12, by decide, wd1518⟩
set_option maxRecDepth 20000 in
theorem fpX12_265 : aj_FP RX12 265 12 22 := ⟨_, _, _, cfX12, by decide, wd1518, rfl⟩
set_option maxRecDepth 20000 in
theorem flX12_271 : aj_FL RX12 271 12 23 := ⟨_, _, _, cfX12, by decide, wd1519⟩
set_option maxRecDepth 20000 in
theorem fpX12_271 : aj_FP RX12 271 12 23 := ⟨_, _, _, cfX12, by decide, wd1519, rfl⟩
set_option maxRecDepth 20000 in
theorem flX12_48 : aj_FL RX12 48 12 24 := ⟨_, _, _, cfX12, by decide, wd1520⟩
set_option maxRecDepth 20000 in
theorem flX12_51 : aj_FL RX12 51 12 25 := ⟨_, _, _, cfX12, by decide, wd1521⟩
set_option maxRecDepth 20000 in
theorem flX12_54 : aj_FL RX12 54 12 26 := ⟨_, _, _, cfX12, by decide, wd1522⟩
set_option maxRecDepth 20000 in
theorem flX12_57 : aj_FL RX12 57 12 27 := ⟨_, _, _, cfX12, by decide, wd1523⟩
set_option maxRecDepth 20000 in
theorem flX12_318 : aj_FL RX12 318 12 28 := ⟨_, _, _, cfX12, by decide, wd1524⟩
set_option maxRecDepth 20000 in
theorem fpX12_318 : aj_FP RX12 318 12 28 := ⟨_, _, _, cfX12, by decide, wd1524, rfl⟩
set_option maxRecDepth 20000 in
theorem flX12_349 : aj_FL RX12 349 12 29 := ⟨_, _, _, cfX12, by decide, wd1525⟩
set_option maxRecDepth 20000 in
theorem fpX12_349 : aj_FP RX12 349 12 29 := ⟨_, _, _, cfX12, by decide, wd1525, rfl⟩
set_option maxRecDepth 20000 in
theorem flX12_60 : aj_FL RX12 60 12 30 := ⟨_, _, _, cfX12, by decide, wd1526⟩
set_option maxRecDepth 20000 in
theorem flX12_63 : aj_FL RX12 63 12 31 := ⟨_, _, _, cfX12, by decide, wd1527⟩
set_option maxRecDepth 20000 in
theorem flX12_66 : aj_FL RX12 66 12 32 := ⟨_, _, _, cfX12, by decide, wd1528⟩
set_option maxRecDepth 20000 in
theorem flX12_419 : aj_FL RX12 419 12 33 := ⟨_, _, _, cfX12, by decide, wd1529⟩
set_option maxRecDepth 20000 in
theorem fpX12_419 : aj_FP RX12 419 12 33 := ⟨_, _, _, cfX12, by decide, wd1529, rfl⟩
set_option maxRecDepth 20000 in
theorem flX12_69 : aj_FL RX12 69 12 34 := ⟨_, _, _, cfX12, by decide, wd1530⟩
set_option maxRecDepth 20000 in
theorem flX12_72 : aj_FL RX12 72 12 35 := ⟨_, _, _, cfX12, by decide, wd1531⟩
set_option maxRecDepth 20000 in
theorem flX12_437 : aj_FL RX12 437 12 36 := ⟨_, _, _, cfX12, by decide, wd1532⟩
set_option maxRecDepth 20000 in
theorem fpX12_437 : aj_FP RX12 437 12 36 := ⟨_, _, _, cfX12, by decide, wd1532, rfl⟩
set_option maxRecDepth 20000 in
theorem flX12_428 : aj_FL RX12 428 12 37 := ⟨_, _, _, cfX12, by decide, wd1533⟩
set_option maxRecDepth 20000 in
theorem fpX12_428 : aj_FP RX12 428 12 37 := ⟨_, _, _, cfX12, by decide, wd1533, rfl⟩
set_option maxRecDepth 20000 in
theorem flX12_425 : aj_FL RX12 425 12 38 := ⟨_, _, _, cfX12, by decide, wd1534⟩
set_option maxRecDepth 20000 in
theorem fpX12_425 : aj_FP RX12 425 12 38 := ⟨_, _, _, cfX12, by decide, wd1534, rfl⟩
set_option maxRecDepth 20000 in
theorem flX12_440 : aj_FL RX12 440 12 39 := ⟨_, _, _, cfX12, by decide, wd1535⟩
set_option maxRecDepth 20000 in
theorem fpX12_440 : aj_FP RX12 440 12 39 := ⟨_, _, _, cfX12, by decide, wd1535, rfl⟩
set_option maxRecDepth 20000 in
theorem flX12_452 : aj_FL RX12 452 12 40 := ⟨_, _, _, cfX12, by decide, wd1536⟩
set_option maxRecDepth 20000 in
theorem fpX12_452 : aj_FP RX12 452 12 40 := ⟨_, _, _, cfX12, by decide, wd1536, rfl⟩
set_option maxRecDepth 20000 in
theorem flX12_75 : aj_FL RX12 75 12 41 := ⟨_, _, _, cfX12, by decide, wd1537⟩
set_option maxRecDepth 20000 in
theorem flX12_477 : aj_FL RX12 477 12 42 := ⟨_, _, _, cfX12, by decide, wd1538⟩
set_option maxRecDepth 20000 in
theorem fpX12_477 : aj_FP RX12 477 12 42 := ⟨_, _, _, cfX12, by decide, wd1538, rfl⟩
set_option maxRecDepth 20000 in
theorem flX12_481 : aj_FL RX12 481 12 43 := ⟨_, _, _, cfX12, by decide, wd1539⟩
set_option maxRecDepth 20000 in
theorem fpX12_481 : aj_FP RX12 481 12 43 := ⟨_, _, _, cfX12, by decide, wd1539, rfl⟩
set_option maxRecDepth 20000 in
theorem flX12_78 : aj_FL RX12 78 12 44 := ⟨_, _, _, cfX12, by decide, wd1540⟩
set_option maxRecDepth 20000 in
theorem flX12_81 : aj_FL RX12 81 12 45 := ⟨_, _, _, cfX12, by decide, wd1541⟩
set_option maxRecDepth 20000 in
theorem flX12_84 : aj_FL RX12 84 12 46 := ⟨_, _, _, cfX12, by decide, wd1542⟩
set_option maxRecDepth 20000 in
theorem mvL_17 : aj_MV RL 17 yX12_feed cX12_feed 8 (some .int) 12 := ⟨⟨wd1639, wd142, wd1642, by decide +kernel, by decide⟩, wd1640, wd1641, _, _, rfl⟩
set_option maxRecDepth 20000 in
theorem mvL_35 : aj_MV RL 35 yX12_product cX12_product 3 (some .int) 12 := ⟨⟨wd1643, wd142, wd1646, by decide +kernel, by decide⟩, wd1644, wd1645, _, _, rfl⟩
set_option maxRecDepth 20000 in
theorem mvX12_205 : aj_MV RX12 205 yX12_isMember cX12_isMember 3 (some .boolean) 12 := ⟨⟨wd1647, wd142, wd1650, by decide +kernel, by decide⟩, wd1649, wd59, _, _, rfl⟩
set_option maxRecDepth 20000 in
theorem msX12_154 : aj_MS RX12 154 yX12_within cX12_within 6 (some .boolean) := ⟨⟨wd1651, wd142, wd1653, by decide +kernel, by decide⟩, wd1652⟩
set_option maxRecDepth 20000 in
theorem mvX12_202 : aj_MV RX12 202 yX12_timesNow cX12_timesNow 3 (some .int) 12 := ⟨⟨wd1654, wd142, wd1657, by decide +kernel, by decide⟩, wd1656, wd60, _, _, rfl⟩
set_option maxRecDepth 20000 in
theorem msX12_198 : aj_MS RX12 198 yX12_times cX12_times 5 (some .int) := ⟨⟨wd1658, wd142, wd1660, by decide +kernel, by decide⟩, wd1659⟩
set_option maxRecDepth 20000 in
theorem msX12_191 : aj_MS RX12 191 yX12_timesUnits cX12_timesUnits 6 (some .int) := ⟨⟨wd1661, wd142, wd1663, by decide +kernel, by decide⟩, wd1662⟩
set_option maxRecDepth 20000 in
theorem msX12_195 : aj_MS RX12 195 yX12_restOf cX12_restOf 3 (some .int) := ⟨⟨wd1664, wd142, wd1666, by decide +kernel, by decide⟩, wd1665⟩
set_option maxRecDepth 20000 in
theorem mvL_39 : aj_MV RL 39 yX12_inverse cX12_inverse 2 (some .int) 12 := ⟨⟨wd1667, wd142, wd1670, by decide +kernel, by decide⟩, wd1668, wd1669, _, _, rfl⟩
set_option maxRecDepth 20000 in
theorem mvX12_209 : aj_MV RX12 209 yX12_inverseOf cX12_inverseOf 3 (some .int) 12 := ⟨⟨wd1671, wd142, wd1674, by decide +kernel, by decide⟩, wd1673, wd61, _, _, rfl⟩
set_option maxRecDepth 20000 in
theorem mvL_43 : aj_MV RL 43 yX12_orderOf cX12_orderOf 2 (some .int) 12 := ⟨⟨wd1675, wd142, wd1678, by decide +kernel, by decide⟩, wd1676, wd1677, _, _, rfl⟩
set_option maxRecDepth 20000 in
theorem msX12_212 : aj_MS RX12 212 yX12_ordersOf cX12_ordersOf 4 (some .int) := ⟨⟨wd1679, wd142, wd1681, by decide +kernel, by decide⟩, wd1680⟩
set_option maxRecDepth 20000 in
theorem mvL_48 : aj_MV RL 48 yX12_centre cX12_centre 5 (some .int) 12 := ⟨⟨wd1682, wd142, wd1685, by decide +kernel, by decide⟩, wd1683, wd1684, _, _, rfl⟩
set_option maxRecDepth 20000 in
theorem mvL_22 : aj_MV RL 22 yX12_works cX12_works 3 (some .int) 12 := ⟨⟨wd1686, wd142, wd1689, by decide +kernel, by decide⟩, wd1687, wd1688, _, _, rfl⟩
set_option maxRecDepth 20000 in
theorem mvX12_147 : aj_MV RX12 147 yX12_next cX12_next 2 none 12 := ⟨⟨wd1690, wd142, wd1693, by decide +kernel, by decide⟩, wd1692, wd62, _, _, rfl⟩
set_option maxRecDepth 20000 in
theorem mvX12_116 : aj_MV RX12 116 yX12_see cX12_see 2 (some .int) 12 := ⟨⟨wd1694, wd142, wd1697, by decide +kernel, by decide⟩, wd1696, wd63, _, _, rfl⟩
set_option maxRecDepth 20000 in
theorem msX12_123 : aj_MS RX12 123 yX12_isSmall cX12_isSmall 1 (some .boolean) := ⟨⟨wd1698, wd142, wd1700, by decide +kernel, by decide⟩, wd1699⟩
set_option maxRecDepth 20000 in
theorem mvX12_127 : aj_MV RX12 127 yX12_keyAt cX12_keyAt 4 (some .int) 12 := ⟨⟨wd1701, wd142, wd1704, by decide +kernel, by decide⟩, wd1703, wd64, _, _, rfl⟩
set_option maxRecDepth 20000 in
theorem mwX12_100 : aj_MW RX12 100 yJ0_length_8abf5 cJ0_length_8abf5 1 (some .int) := ⟨⟨wd1706, wd144, wd663, by decide +kernel, by decide⟩, wd661, wd662⟩
set_option maxRecDepth 20000 in
theorem mwX12_106 : aj_MW RX12 106 yJ0_charAt_5068e cJ0_charAt_5068e 2 (some .char) := ⟨⟨wd1707, wd144, wd673, by decide +kernel, by decide⟩, wd671, wd672⟩
set_option maxRecDepth 20000 in
theorem msX12_130 : aj_MS RX12 130 yX12_isDigit cX12_isDigit 1 (some .boolean) := ⟨⟨wd1708, wd142, wd1710, by decide +kernel, by decide⟩, wd1709⟩
set_option maxRecDepth 20000 in
theorem mvX12_170 : aj_MV RX12 170 yX12_eats cX12_eats 2 (some .boolean) 12 := ⟨⟨wd1712, wd142, wd1715, by decide +kernel, by decide⟩, wd1714, wd65, _, _, rfl⟩
set_option maxRecDepth 20000 in
theorem mvX12_144 : aj_MV RX12 144 yX12_is cX12_is 2 (some .boolean) 12 := ⟨⟨wd1716, wd142, wd1719, by decide +kernel, by decide⟩, wd1718, wd66, _, _, rfl⟩
set_option maxRecDepth 20000 in
theorem mvX12_150 : aj_MV RX12 150 yX12_fails cX12_fails 2 none 12 := ⟨⟨wd1720, wd142, wd1723, by decide +kernel, by decide⟩, wd1722, wd67, _, _, rfl⟩
set_option maxRecDepth 20000 in
theorem mvX12_234 : aj_MV RX12 234 yX12_readGroup cX12_readGroup 2 none 12 := ⟨⟨wd1724, wd142, wd1727, by decide +kernel, by decide⟩, wd1726, wd68, _, _, rfl⟩
set_option maxRecDepth 20000 in
theorem mvX12_218 : aj_MV RX12 218 yX12_takes cX12_takes 4 (some .int) 12 := ⟨⟨wd1729, wd142, wd1732, by decide +kernel, by decide⟩, wd1731, wd69, _, _, rfl⟩
set_option maxRecDepth 20000 in
theorem mvX12_237 : aj_MV RX12 237 yX12_closes cX12_closes 1 none 12 := ⟨⟨wd1733, wd142, wd1736, by decide +kernel, by decide⟩, wd1735, wd70, _, _, rfl⟩
set_option maxRecDepth 20000 in
theorem mvX12_240 : aj_MV RX12 240 yX12_readLine cX12_readLine 1 none 12 := ⟨⟨wd1737, wd142, wd1740, by decide +kernel, by decide⟩, wd1739, wd71, _, _, rfl⟩
set_option maxRecDepth 20000 in
theorem mvX12_225 : aj_MV RX12 225 yX12_readPlaces cX12_readPlaces 1 none 12 := ⟨⟨wd1741, wd142, wd1744, by decide +kernel, by decide⟩, wd1743, wd72, _, _, rfl⟩
set_option maxRecDepth 20000 in
theorem mvX12_228 : aj_MV RX12 228 yX12_readArc cX12_readArc 3 none 12 := ⟨⟨wd1745, wd142, wd1748, by decide +kernel, by decide⟩, wd1747, wd73, _, _, rfl⟩
set_option maxRecDepth 20000 in
theorem mvX12_231 : aj_MV RX12 231 yX12_readLaw cX12_readLaw 3 none 12 := ⟨⟨wd1749, wd142, wd1752, by decide +kernel, by decide⟩, wd1751, wd74, _, _, rfl⟩
set_option maxRecDepth 20000 in
theorem mvX12_167 : aj_MV RX12 167 yX12_readSum cX12_readSum 3 none 12 := ⟨⟨wd1753, wd142, wd1756, by decide +kernel, by decide⟩, wd1755, wd75, _, _, rfl⟩
set_option maxRecDepth 20000 in
theorem mvX12_182 : aj_MV RX12 182 yX12_readTerm cX12_readTerm 2 none 12 := ⟨⟨wd1757, wd142, wd1760, by decide +kernel, by decide⟩, wd1759, wd76, _, _, rfl⟩
set_option maxRecDepth 20000 in
theorem mvX12_179 : aj_MV RX12 179 yX12_readAtom cX12_readAtom 2 none 12 := ⟨⟨wd1761, wd142, wd1764, by decide +kernel, by decide⟩, wd1763, wd77, _, _, rfl⟩
set_option maxRecDepth 20000 in
theorem mvX12_158 : aj_MV RX12 158 yX12_codes cX12_codes 2 none 12 := ⟨⟨wd1765, wd142, wd1768, by decide +kernel, by decide⟩, wd1767, wd78, _, _, rfl⟩
set_option maxRecDepth 20000 in
theorem msX12_161 : aj_MS RX12 161 yX12_wordOf cX12_wordOf 1 (some .int) := ⟨⟨wd1769, wd142, wd1771, by decide +kernel, by decide⟩, wd1770⟩
set_option maxRecDepth 20000 in
theorem mvX12_164 : aj_MV RX12 164 yX12_goesIn cX12_goesIn 2 (some .boolean) 12 := ⟨⟨wd1772, wd142, wd1775, by decide +kernel, by decide⟩, wd1774, wd79, _, _, rfl⟩
set_option maxRecDepth 20000 in
theorem mvX12_173 : aj_MV RX12 173 yX12_readIf cX12_readIf 2 none 12 := ⟨⟨wd1776, wd142, wd1779, by decide +kernel, by decide⟩, wd1778, wd80, _, _, rfl⟩
set_option maxRecDepth 20000 in
theorem mvX12_176 : aj_MV RX12 176 yX12_readTruth cX12_readTruth 2 none 12 := ⟨⟨wd1780, wd142, wd1783, by decide +kernel, by decide⟩, wd1782, wd81, _, _, rfl⟩
set_option maxRecDepth 20000 in
theorem mvX12_188 : aj_MV RX12 188 yX12_readBoth cX12_readBoth 2 none 12 := ⟨⟨wd1784, wd142, wd1787, by decide +kernel, by decide⟩, wd1786, wd82, _, _, rfl⟩
set_option maxRecDepth 20000 in
theorem mvX12_185 : aj_MV RX12 185 yX12_readUnit cX12_readUnit 3 none 12 := ⟨⟨wd1788, wd142, wd1791, by decide +kernel, by decide⟩, wd1790, wd83, _, _, rfl⟩
set_option maxRecDepth 20000 in
theorem mvL_26 : aj_MV RL 26 yX12_fault cX12_fault 2 (some .int) 12 := ⟨⟨wd1792, wd142, wd1795, by decide +kernel, by decide⟩, wd1793, wd1794, _, _, rfl⟩
set_option maxRecDepth 20000 in
theorem mvL_31 : aj_MV RL 31 yX12_arc cX12_arc 3 (some .int) 12 := ⟨⟨wd1796, wd142, wd1799, by decide +kernel, by decide⟩, wd1797, wd1798, _, _, rfl⟩
set_option maxRecDepth 20000 in
theorem mvX12_291 : aj_MV RX12 291 yX12_isArc cX12_isArc 3 (some .boolean) 12 := ⟨⟨wd1800, wd142, wd1803, by decide +kernel, by decide⟩, wd1802, wd84, _, _, rfl⟩
set_option maxRecDepth 20000 in
theorem msX12_274 : aj_MS RX12 274 yX12_isIn cX12_isIn 3 (some .boolean) := ⟨⟨wd1804, wd142, wd1806, by decide +kernel, by decide⟩, wd1805⟩
set_option maxRecDepth 20000 in
theorem mvL_52 : aj_MV RL 52 yX12_turn cX12_turn 4 (some .int) 12 := ⟨⟨wd1807, wd142, wd1810, by decide +kernel, by decide⟩, wd1808, wd1809, _, _, rfl⟩
set_option maxRecDepth 20000 in
theorem mvX12_294 : aj_MV RX12 294 yX12_whyTurn cX12_whyTurn 5 (some .int) 12 := ⟨⟨wd1811, wd142, wd1814, by decide +kernel, by decide⟩, wd1813, wd85, _, _, rfl⟩
set_option maxRecDepth 20000 in
theorem mvX12_298 : aj_MV RX12 298 yX12_stores cX12_stores 2 none 12 := ⟨⟨wd1815, wd142, wd1818, by decide +kernel, by decide⟩, wd1817, wd86, _, _, rfl⟩
set_option maxRecDepth 20000 in
theorem mvX12_301 : aj_MV RX12 301 yX12_notes cX12_notes 2 none 12 := ⟨⟨wd1819, wd142, wd1822, by decide +kernel, by decide⟩, wd1821, wd87, _, _, rfl⟩
set_option maxRecDepth 20000 in
theorem mvL_56 : aj_MV RL 56 yX12_cut cX12_cut 2 (some .int) 12 := ⟨⟨wd1823, wd142, wd1826, by decide +kernel, by decide⟩, wd1824, wd1825, _, _, rfl⟩
set_option maxRecDepth 20000 in
theorem mvL_60 : aj_MV RL 60 yX12_twist cX12_twist 2 (some .int) 12 := ⟨⟨wd1827, wd142, wd1830, by decide +kernel, by decide⟩, wd1828, wd1829, _, _, rfl⟩
set_option maxRecDepth 20000 in
theorem mvL_64 : aj_MV RL 64 yX12_undo cX12_undo 3 (some .int) 12 := ⟨⟨wd1832, wd142, wd1835, by decide +kernel, by decide⟩, wd1833, wd1834, _, _, rfl⟩
set_option maxRecDepth 20000 in
theorem mvL_68 : aj_MV RL 68 yX12_judge cX12_judge 5 (some .int) 12 := ⟨⟨wd1837, wd142, wd1840, by decide +kernel, by decide⟩, wd1838, wd1839, _, _, rfl⟩
set_option maxRecDepth 20000 in
theorem mvX12_330 : aj_MV RX12 330 yX12_noTray cX12_noTray 2 (some .int) 12 := ⟨⟨wd1842, wd142, wd1845, by decide +kernel, by decide⟩, wd1844, wd88, _, _, rfl⟩
set_option maxRecDepth 20000 in
theorem mvX12_333 : aj_MV RX12 333 yX12_tells cX12_tells 3 (some .int) 12 := ⟨⟨wd1846, wd142, wd1849, by decide +kernel, by decide⟩, wd1848, wd89, _, _, rfl⟩
set_option maxRecDepth 20000 in
theorem mvX12_321 : aj_MV RX12 321 yX12_whyNot cX12_whyNot 3 (some .int) 12 := ⟨⟨wd1850, wd142, wd1853, by decide +kernel, by decide⟩, wd1852, wd90, _, _, rfl⟩
set_option maxRecDepth 20000 in
theorem mvX12_325 : aj_MV RX12 325 yX12_does cX12_does 2 none 12 := ⟨⟨wd1859, wd142, wd1862, by decide +kernel, by decide⟩, wd1861, wd91, _, _, rfl⟩
set_option maxRecDepth 20000 in
theorem mvX12_336 : aj_MV RX12 336 yX12_laysNet cX12_laysNet 2 none 12 := ⟨⟨wd1863, wd142, wd1866, by decide +kernel, by decide⟩, wd1865, wd92, _, _, rfl⟩
set_option maxRecDepth 20000 in
theorem mvX12_278 : aj_MV RX12 278 yX12_laysArc cX12_laysArc 4 none 12 := ⟨⟨wd1867, wd142, wd1870, by decide +kernel, by decide⟩, wd1869, wd93, _, _, rfl⟩
set_option maxRecDepth 20000 in
theorem mvX12_261 : aj_MV RX12 261 yX12_isKept cX12_isKept 3 (some .boolean) 12 := ⟨⟨wd1871, wd142, wd1874, by decide +kernel, by decide⟩, wd1873, wd94, _, _, rfl⟩
set_option maxRecDepth 20000 in
theorem mvX12_254 : aj_MV RX12 254 yX12_laysWords cX12_laysWords 4 none 12 := ⟨⟨wd1875, wd142, wd1878, by decide +kernel, by decide⟩, wd1877, wd95, _, _, rfl⟩
set_option maxRecDepth 20000 in
theorem mvX12_258 : aj_MV RX12 258 yX12_reckons cX12_reckons 5 (some .int) 12 := ⟨⟨wd1879, wd142, wd1882, by decide +kernel, by decide⟩, wd1881, wd96, _, _, rfl⟩
set_option maxRecDepth 20000 in
theorem msX12_250 : aj_MS RX12 250 yX12_between cX12_between 5 (some .int) := ⟨⟨wd1883, wd142, wd1885, by decide +kernel, by decide⟩, wd1884⟩
set_option maxRecDepth 20000 in
theorem mvX12_268 : aj_MV RX12 268 yX12_weightOf cX12_weightOf 5 (some .int) 12 := ⟨⟨wd1888, wd142, wd1891, by decide +kernel, by decide⟩, wd1890, wd97, _, _, rfl⟩
set_option maxRecDepth 20000 in
theorem mvX12_339 : aj_MV RX12 339 yX12_isAgain cX12_isAgain 2 none 12 := ⟨⟨wd1892, wd142, wd1895, by decide +kernel, by decide⟩, wd1894, wd98, _, _, rfl⟩
set_option maxRecDepth 20000 in
theorem mvX12_342 : aj_MV RX12 342 yX12_girthNow cX12_girthNow 4 (some .int) 12 := ⟨⟨wd1896, wd142, wd1899, by decide +kernel, by decide⟩, wd1898, wd99, _, _, rfl⟩
set_option maxRecDepth 20000 in
theorem mvX12_288 : aj_MV RX12 288 yX12_throughOf cX12_throughOf 7 (some .int) 12 := ⟨⟨wd1901, wd142, wd1904, by decide +kernel, by decide⟩, wd1903, wd100, _, _, rfl⟩
set_option maxRecDepth 20000 in
theorem mvX12_285 : aj_MV RX12 285 yX12_laysFar cX12_laysFar 6 (some .int) 12 := ⟨⟨wd1905, wd142, wd1908, by decide +kernel, by decide⟩, wd1907, wd101, _, _, rfl⟩
set_option maxRecDepth 20000 in
theorem mvX12_282 : aj_MV RX12 282 yX12_overFrom cX12_overFrom 3 (some .int) 12 := ⟨⟨wd1909, wd142, wd1912, by decide +kernel, by decide⟩, wd1911, wd102, _, _, rfl⟩
set_option maxRecDepth 20000 in
theorem msX12_345 : aj_MS RX12 345 yX12_toldFar cX12_toldFar 1 (some .int) := ⟨⟨wd1913, wd142, wd1915, by decide +kernel, by decide⟩, wd1914⟩
set_option maxRecDepth 20000 in
theorem mvL_72 : aj_MV RL 72 yX12_perform cX12_perform 4 (some .int) 12 := ⟨⟨wd1916, wd142, wd1919, by decide +kernel, by decide⟩, wd1917, wd1918, _, _, rfl⟩
set_option maxRecDepth 20000 in
theorem mvL_76 : aj_MV RL 76 yX12_day cX12_day 6 (some .int) 12 := ⟨⟨wd1920, wd142, wd1923, by decide +kernel, by decide⟩, wd1921, wd1922, _, _, rfl⟩
set_option maxRecDepth 20000 in
theorem mvX12_357 : aj_MV RX12 357 yX12_drawn cX12_drawn 3 (some .int) 12 := ⟨⟨wd1925, wd142, wd1928, by decide +kernel, by decide⟩, wd1927, wd103, _, _, rfl⟩
set_option maxRecDepth 20000 in
theorem mvX12_352 : aj_MV RX12 352 yX12_draw cX12_draw 2 (some .int) 12 := ⟨⟨wd1929, wd142, wd1932, by decide +kernel, by decide⟩, wd1931, wd104, _, _, rfl⟩
set_option maxRecDepth 20000 in
theorem mvL_80 : aj_MV RL 80 yX12_joins cX12_joins 3 (some .int) 12 := ⟨⟨wd1934, wd142, wd1937, by decide +kernel, by decide⟩, wd1935, wd1936, _, _, rfl⟩
set_option maxRecDepth 20000 in
theorem mvX12_360 : aj_MV RX12 360 yX12_isNode cX12_isNode 3 (some .boolean) 12 := ⟨⟨wd1938, wd142, wd1941, by decide +kernel, by decide⟩, wd1940, wd105, _, _, rfl⟩
set_option maxRecDepth 20000 in
theorem mvL_84 : aj_MV RL 84 yX12_degree cX12_degree 2 (some .int) 12 := ⟨⟨wd1942, wd142, wd1945, by decide +kernel, by decide⟩, wd1943, wd1944, _, _, rfl⟩
set_option maxRecDepth 20000 in
theorem mvX12_363 : aj_MV RX12 363 yX12_degreeOf cX12_degreeOf 4 (some .int) 12 := ⟨⟨wd1946, wd142, wd1949, by decide +kernel, by decide⟩, wd1948, wd106, _, _, rfl⟩
set_option maxRecDepth 20000 in
theorem mvL_88 : aj_MV RL 88 yX12_neighbour cX12_neighbour 5 (some .int) 12 := ⟨⟨wd1950, wd142, wd1953, by decide +kernel, by decide⟩, wd1951, wd1952, _, _, rfl⟩
set_option maxRecDepth 20000 in
theorem mvL_92 : aj_MV RL 92 yX12_regular cX12_regular 1 (some .int) 12 := ⟨⟨wd1954, wd142, wd1957, by decide +kernel, by decide⟩, wd1955, wd1956, _, _, rfl⟩
set_option maxRecDepth 20000 in
theorem mvX12_366 : aj_MV RX12 366 yX12_regularNow cX12_regularNow 3 (some .int) 12 := ⟨⟨wd1958, wd142, wd1961, by decide +kernel, by decide⟩, wd1960, wd107, _, _, rfl⟩
set_option maxRecDepth 20000 in
theorem mvL_96 : aj_MV RL 96 yX12_parts cX12_parts 6 (some .int) 12 := ⟨⟨wd1962, wd142, wd1965, by decide +kernel, by decide⟩, wd1963, wd1964, _, _, rfl⟩
set_option maxRecDepth 20000 in
theorem mvL_100 : aj_MV RL 100 yX12_twoColours cX12_twoColours 3 (some .int) 12 := ⟨⟨wd1966, wd142, wd1969, by decide +kernel, by decide⟩, wd1967, wd1968, _, _, rfl⟩
set_option maxRecDepth 20000 in
theorem mvL_104 : aj_MV RL 104 yX12_far cX12_far 3 (some .int) 12 := ⟨⟨wd1970, wd142, wd1973, by decide +kernel, by decide⟩, wd1971, wd1972, _, _, rfl⟩
set_option maxRecDepth 20000 in
theorem mvL_108 : aj_MV RL 108 yX12_diameter cX12_diameter 4 (some .int) 12 := ⟨⟨wd1974, wd142, wd1977, by decide +kernel, by decide⟩, wd1975, wd1976, _, _, rfl⟩
set_option maxRecDepth 20000 in
theorem mvL_112 : aj_MV RL 112 yX12_ball cX12_ball 5 (some .int) 12 := ⟨⟨wd1978, wd142, wd1981, by decide +kernel, by decide⟩, wd1979, wd1980, _, _, rfl⟩
set_option maxRecDepth 20000 in
theorem mvL_116 : aj_MV RL 116 yX12_girth cX12_girth 1 (some .int) 12 := ⟨⟨wd1983, wd142, wd1986, by decide +kernel, by decide⟩, wd1984, wd1985, _, _, rfl⟩
set_option maxRecDepth 20000 in
theorem mvL_120 : aj_MV RL 120 yX12_ring cX12_ring 2 (some .int) 12 := ⟨⟨wd1987, wd142, wd1990, by decide +kernel, by decide⟩, wd1988, wd1989, _, _, rfl⟩
set_option maxRecDepth 20000 in
theorem mvX12_377 : aj_MV RX12 377 yX12_laysRing cX12_laysRing 3 (some .int) 12 := ⟨⟨wd1991, wd142, wd1994, by decide +kernel, by decide⟩, wd1993, wd108, _, _, rfl⟩
set_option maxRecDepth 20000 in
theorem mvX12_374 : aj_MV RX12 374 yX12_isRing cX12_isRing 5 (some .boolean) 12 := ⟨⟨wd1995, wd142, wd1998, by decide +kernel, by decide⟩, wd1997, wd109, _, _, rfl⟩
set_option maxRecDepth 20000 in
theorem mvX12_371 : aj_MV RX12 371 yX12_isGone cX12_isGone 4 (some .boolean) 12 := ⟨⟨wd1999, wd142, wd2002, by decide +kernel, by decide⟩, wd2001, wd110, _, _, rfl⟩
set_option maxRecDepth 20000 in
theorem mvL_124 : aj_MV RL 124 yX12_rings cX12_rings 5 (some .int) 12 := ⟨⟨wd2003, wd142, wd2006, by decide +kernel, by decide⟩, wd2004, wd2005, _, _, rfl⟩
set_option maxRecDepth 20000 in
theorem mvX12_380 : aj_MV RX12 380 yX12_ringsFrom cX12_ringsFrom 7 (some .int) 12 := ⟨⟨wd2008, wd142, wd2011, by decide +kernel, by decide⟩, wd2010, wd111, _, _, rfl⟩
set_option maxRecDepth 20000 in
theorem mvL_128 : aj_MV RL 128 yX12_through cX12_through 2 (some .int) 12 := ⟨⟨wd2012, wd142, wd2015, by decide +kernel, by decide⟩, wd2013, wd2014, _, _, rfl⟩
set_option maxRecDepth 20000 in
theorem mvL_133 : aj_MV RL 133 yX12_bound cX12_bound 3 (some .long) 12 := ⟨⟨wd2016, wd142, wd2019, by decide +kernel, by decide⟩, wd2017, wd2018, _, _, rfl⟩
set_option maxRecDepth 20000 in
theorem msX12_389 : aj_MS RX12 389 yX12_isBound cX12_isBound 2 (some .boolean) := ⟨⟨wd2020, wd142, wd2022, by decide +kernel, by decide⟩, wd2021⟩
set_option maxRecDepth 20000 in
theorem msX12_392 : aj_MS RX12 392 yX12_boundOf cX12_boundOf 7 (some .long) := ⟨⟨wd2025, wd142, wd2027, by decide +kernel, by decide⟩, wd2026⟩
set_option maxRecDepth 20000 in
theorem mvL_138 : aj_MV RL 138 yX12_excess cX12_excess 3 (some .long) 12 := ⟨⟨wd2029, wd142, wd2032, by decide +kernel, by decide⟩, wd2030, wd2031, _, _, rfl⟩
set_option maxRecDepth 20000 in
theorem mvL_142 : aj_MV RL 142 yX12_light cX12_light 3 (some .int) 12 := ⟨⟨wd2034, wd142, wd2037, by decide +kernel, by decide⟩, wd2035, wd2036, _, _, rfl⟩
set_option maxRecDepth 20000 in
theorem mvX12_400 : aj_MV RX12 400 yX12_laysLight cX12_laysLight 7 none 12 := ⟨⟨wd2038, wd142, wd2041, by decide +kernel, by decide⟩, wd2040, wd112, _, _, rfl⟩
set_option maxRecDepth 20000 in
theorem mvL_146 : aj_MV RL 146 yX12_lightest cX12_lightest 4 (some .int) 12 := ⟨⟨wd2042, wd142, wd2045, by decide +kernel, by decide⟩, wd2043, wd2044, _, _, rfl⟩
set_option maxRecDepth 20000 in
theorem mvL_150 : aj_MV RL 150 yX12_walk cX12_walk 3 (some .int) 12 := ⟨⟨wd2046, wd142, wd2049, by decide +kernel, by decide⟩, wd2047, wd2048, _, _, rfl⟩
set_option maxRecDepth 20000 in
theorem mvX12_413 : aj_MV RX12 413 yX12_noWalk cX12_noWalk 4 (some .int) 12 := ⟨⟨wd2050, wd142, wd2053, by decide +kernel, by decide⟩, wd2052, wd113, _, _, rfl⟩
set_option maxRecDepth 20000 in
theorem mvX12_404 : aj_MV RX12 404 yX12_stepAt cX12_stepAt 3 (some .int) 12 := ⟨⟨wd2054, wd142, wd2057, by decide +kernel, by decide⟩, wd2056, wd114, _, _, rfl⟩
set_option maxRecDepth 20000 in
theorem mvX12_407 : aj_MV RX12 407 yX12_endOf cX12_endOf 2 (some .int) 12 := ⟨⟨wd2058, wd142, wd2061, by decide +kernel, by decide⟩, wd2060, wd115, _, _, rfl⟩
set_option maxRecDepth 20000 in
theorem mvX12_410 : aj_MV RX12 410 yX12_beginOf cX12_beginOf 2 (some .int) 12 := ⟨⟨wd2062, wd142, wd2065, by decide +kernel, by decide⟩, wd2064, wd116, _, _, rfl⟩
set_option maxRecDepth 20000 in
theorem mvX12_416 : aj_MV RX12 416 yX12_gathered cX12_gathered 6 (some .int) 12 := ⟨⟨wd2066, wd142, wd2069, by decide +kernel, by decide⟩, wd2068, wd117, _, _, rfl⟩
set_option maxRecDepth 20000 in
theorem mvL_154 : aj_MV RL 154 yX12_lifted cX12_lifted 4 (some .int) 12 := ⟨⟨wd2070, wd142, wd2073, by decide +kernel, by decide⟩, wd2071, wd2072, _, _, rfl⟩
set_option maxRecDepth 20000 in
theorem mvL_158 : aj_MV RL 158 yX12_tune cX12_tune 2 (some .int) 12 := ⟨⟨wd2074, wd142, wd2077, by decide +kernel, by decide⟩, wd2075, wd2076, _, _, rfl⟩
set_option maxRecDepth 20000 in
theorem mvX12_422 : aj_MV RX12 422 yX12_laysTune cX12_laysTune 6 (some .int) 12 := ⟨⟨wd2078, wd142, wd2081, by decide +kernel, by decide⟩, wd2080, wd118, _, _, rfl⟩
set_option maxRecDepth 20000 in
theorem mvL_162 : aj_MV RL 162 yX12_tuned cX12_tuned 2 (some .int) 12 := ⟨⟨wd2082, wd142, wd2085, by decide +kernel, by decide⟩, wd2083, wd2084, _, _, rfl⟩
set_option maxRecDepth 20000 in
theorem mvL_167 : aj_MV RL 167 yX12_search cX12_search 6 (some .int) 12 := ⟨⟨wd2086, wd142, wd2089, by decide +kernel, by decide⟩, wd2087, wd2088, _, _, rfl⟩
set_option maxRecDepth 20000 in
theorem msX12_459 : aj_MS RX12 459 yX12_isSearch cX12_isSearch 3 (some .boolean) := ⟨⟨wd2090, wd142, wd2092, by decide +kernel, by decide⟩, wd2091⟩
set_option maxRecDepth 20000 in
theorem mvX12_463 : aj_MV RX12 463 yX12_goesSearch cX12_goesSearch 5 (some .int) 12 := ⟨⟨wd2095, wd142, wd2098, by decide +kernel, by decide⟩, wd2097, wd119, _, _, rfl⟩
set_option maxRecDepth 20000 in
theorem mvX12_449 : aj_MV RX12 449 yX12_goesStep cX12_goesStep 6 (some .int) 12 := ⟨⟨wd2099, wd142, wd2102, by decide +kernel, by decide⟩, wd2101, wd120, _, _, rfl⟩
set_option maxRecDepth 20000 in
theorem msX12_434 : aj_MS RX12 434 yX12_bitsOf cX12_bitsOf 3 (some .int) := ⟨⟨wd2103, wd142, wd2105, by decide +kernel, by decide⟩, wd2104⟩
set_option maxRecDepth 20000 in
theorem mvX12_443 : aj_MV RX12 443 yX12_partnersOf cX12_partnersOf 6 (some .int) 12 := ⟨⟨wd2106, wd142, wd2109, by decide +kernel, by decide⟩, wd2108, wd121, _, _, rfl⟩
set_option maxRecDepth 20000 in
theorem mvX12_431 : aj_MV RX12 431 yX12_ballOf cX12_ballOf 7 (some .int) 12 := ⟨⟨wd2110, wd142, wd2113, by decide +kernel, by decide⟩, wd2112, wd122, _, _, rfl⟩
set_option maxRecDepth 20000 in
theorem mvX12_446 : aj_MV RX12 446 yX12_joinsOrParts cX12_joinsOrParts 3 none 12 := ⟨⟨wd2114, wd142, wd2117, by decide +kernel, by decide⟩, wd2116, wd123, _, _, rfl⟩
set_option maxRecDepth 20000 in
theorem mvL_171 : aj_MV RL 171 yX12_found cX12_found 6 (some .int) 12 := ⟨⟨wd2118, wd142, wd2121, by decide +kernel, by decide⟩, wd2119, wd2120, _, _, rfl⟩
set_option maxRecDepth 20000 in
theorem mvL_175 : aj_MV RL 175 yX12_twists cX12_twists 3 (some .int) 12 := ⟨⟨wd2122, wd142, wd2125, by decide +kernel, by decide⟩, wd2123, wd2124, _, _, rfl⟩
set_option maxRecDepth 20000 in
theorem mvX12_468 : aj_MV RX12 468 yX12_noWeighed cX12_noWeighed 6 (some .int) 12 := ⟨⟨wd2126, wd142, wd2129, by decide +kernel, by decide⟩, wd2128, wd124, _, _, rfl⟩
set_option maxRecDepth 20000 in
theorem mvX12_471 : aj_MV RX12 471 yX12_twistsOf cX12_twistsOf 7 (some .int) 12 := ⟨⟨wd2131, wd142, wd2134, by decide +kernel, by decide⟩, wd2133, wd125, _, _, rfl⟩
set_option maxRecDepth 20000 in
theorem mvL_179 : aj_MV RL 179 yX12_weigh cX12_weigh 9 (some .int) 12 := ⟨⟨wd2135, wd142, wd2138, by decide +kernel, by decide⟩, wd2136, wd2137, _, _, rfl⟩
set_option maxRecDepth 20000 in
theorem mvX12_474 : aj_MV RX12 474 yX12_mostAlike cX12_mostAlike 8 (some .int) 12 := ⟨⟨wd2139, wd142, wd2142, by decide +kernel, by decide⟩, wd2141, wd126, _, _, rfl⟩
set_option maxRecDepth 20000 in
theorem mvL_184 : aj_MV RL 184 yX12_chance cX12_chance 4 (some .int) 12 := ⟨⟨wd2143, wd142, wd2146, by decide +kernel, by decide⟩, wd2144, wd2145, _, _, rfl⟩
set_option maxRecDepth 20000 in
theorem mvX12_498 : aj_MV RX12 498 yX12_laysLots cX12_laysLots 3 none 12 := ⟨⟨wd2148, wd142, wd2151, by decide +kernel, by decide⟩, wd2150, wd127, _, _, rfl⟩
set_option maxRecDepth 20000 in
theorem mvX12_484 : aj_MV RX12 484 yX12_goesLots cX12_goesLots 8 none 12 := ⟨⟨wd2152, wd142, wd2155, by decide +kernel, by decide⟩, wd2154, wd128, _, _, rfl⟩
set_option maxRecDepth 20000 in
theorem msX12_501 : aj_MS RX12 501 yX12_part cX12_part 4 (some .int) := ⟨⟨wd2156, wd142, wd2158, by decide +kernel, by decide⟩, wd2157⟩
set_option maxRecDepth 20000 in
theorem msX12_492 : aj_MS RX12 492 yX12_wholeOf cX12_wholeOf 4 (some .long) := ⟨⟨wd2159, wd142, wd2161, by decide +kernel, by decide⟩, wd2160⟩
set_option maxRecDepth 20000 in
theorem msX12_488 : aj_MS RX12 488 yX12_common cX12_common 4 (some .long) := ⟨⟨wd2162, wd142, wd2164, by decide +kernel, by decide⟩, wd2163⟩
set_option maxRecDepth 20000 in
theorem mvL_188 : aj_MV RL 188 yX12_mean cX12_mean 3 (some .int) 12 := ⟨⟨wd2165, wd142, wd2168, by decide +kernel, by decide⟩, wd2166, wd2167, _, _, rfl⟩
set_option maxRecDepth 20000 in
theorem mvL_192 : aj_MV RL 192 yX12_numbers cX12_numbers 5 (some .int) 12 := ⟨⟨wd2169, wd142, wd2172, by decide +kernel, by decide⟩, wd2170, wd2171, _, _, rfl⟩
set_option maxRecDepth 20000 in
theorem mvL_199 : aj_MV RL 199 yX12_write cX12_write 6 (some .long) 12 := ⟨⟨wd2173, wd142, wd2176, by decide +kernel, by decide⟩, wd2174, wd2175, _, _, rfl⟩
set_option maxRecDepth 20000 in
theorem msX12_507 : aj_MS RX12 507 yX12_cutTo cX12_cutTo 3 (some .long) := ⟨⟨wd2178, wd142, wd2180, by decide +kernel, by decide⟩, wd2179⟩
set_option maxRecDepth 20000 in
theorem mvL_203 : aj_MV RL 203 yX12_lists cX12_lists 6 (some .int) 12 := ⟨⟨wd2181, wd142, wd2184, by decide +kernel, by decide⟩, wd2182, wd2183, _, _, rfl⟩
set_option maxRecDepth 20000 in
theorem mvL_207 : aj_MV RL 207 yX12_image cX12_image 3 (some .int) 12 := ⟨⟨wd2185, wd142, wd2188, by decide +kernel, by decide⟩, wd2186, wd2187, _, _, rfl⟩
set_option maxRecDepth 20000 in
theorem mvL_211 : aj_MV RL 211 yX12_restore cX12_restore 3 (some .int) 12 := ⟨⟨wd2189, wd142, wd2192, by decide +kernel, by decide⟩, wd2190, wd2191, _, _, rfl⟩
set_option maxRecDepth 20000 in
theorem mvL_215 : aj_MV RL 215 yX12_count cX12_count 2 (some .int) 12 := ⟨⟨wd2193, wd142, wd2196, by decide +kernel, by decide⟩, wd2194, wd2195, _, _, rfl⟩
set_option maxRecDepth 20000 in
theorem fsJ0_9 : Cond.fieldLink "java/lang/String" 9 "java/lang/String" "value" "[B" ∈ aj_TB := wd2198
set_option maxRecDepth 20000 in
theorem fsJ0_15 : Cond.fieldLink "java/lang/String" 15 "java/lang/String" "coder" "B" ∈ aj_TB := wd2199
set_option maxRecDepth 20000 in
theorem fsJ0_38 : Cond.fieldLink "java/lang/String" 38 "java/lang/String" "COMPACT_STRINGS" "Z" ∈ aj_TB := wd668
set_option maxRecDepth 20000 in
theorem fsX0_32 : Cond.fieldLink "CageLift$Group" 32 "CageLift$Group" "AXES" "[I" ∈ aj_TB := wd790
set_option maxRecDepth 20000 in
theorem fsJ0_1053 : Cond.fieldLink "java/lang/String" 1053 "jdk/internal/util/Preconditions" "SIOOBE_FORMATTER" "Ljava/util/function/BiFunction;" ∈ aj_TB := wd684
