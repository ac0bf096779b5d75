set_option maxRecDepth 20000 in
theorem msX11_289 : aj_MS RX11 289 yX11_treeBound cX11_treeBound 8 (some .long) := ⟨⟨aj_mem 1273 (by decide +kernel) (by decide +kernel), aj_mem 130 (by decide +kernel) (by decide +kernel), aj_mem 1275 (by decide +kernel) (by decide +kernel), by decide +kernel, by decide⟩, aj_mem 1274 (by decide +kernel) (by decide +kernel)⟩
set_option maxRecDepth 20000 in
theorem mvL_134 : aj_MV RL 134 yX11_excess cX11_excess 4 (some .long) 11 := ⟨⟨aj_mem 1278 (by decide +kernel) (by decide +kernel), aj_mem 130 (by decide +kernel) (by decide +kernel), aj_mem 1281 (by decide +kernel) (by decide +kernel), by decide +kernel, by decide⟩, aj_mem 1279 (by decide +kernel) (by decide +kernel), aj_mem 1280 (by decide +kernel) (by decide +kernel), _, _, rfl⟩
set_option maxRecDepth 20000 in
theorem mvL_139 : aj_MV RL 139 yX11_light cX11_light 4 (some .int) 11 := ⟨⟨aj_mem 1283 (by decide +kernel) (by decide +kernel), aj_mem 130 (by decide +kernel) (by decide +kernel), aj_mem 1286 (by decide +kernel) (by decide +kernel), by decide +kernel, by decide⟩, aj_mem 1284 (by decide +kernel) (by decide +kernel), aj_mem 1285 (by decide +kernel) (by decide +kernel), _, _, rfl⟩
set_option maxRecDepth 20000 in
theorem mvX11_300 : aj_MV RX11 300 yX5_weighLinks cX5_weighLinks 4 none 5 := ⟨⟨aj_mem 1287 (by decide +kernel) (by decide +kernel), aj_mem 138 (by decide +kernel) (by decide +kernel), aj_mem 1290 (by decide +kernel) (by decide +kernel), by decide +kernel, by decide⟩, aj_mem 1288 (by decide +kernel) (by decide +kernel), aj_mem 1289 (by decide +kernel) (by decide +kernel), _, _, rfl⟩
set_option maxRecDepth 20000 in
theorem mvX5_158 : aj_MV RX5 158 yX6_weightOf cX6_weightOf 5 (some .int) 6 := ⟨⟨aj_mem 1291 (by decide +kernel) (by decide +kernel), aj_mem 132 (by decide +kernel) (by decide +kernel), aj_mem 1294 (by decide +kernel) (by decide +kernel), by decide +kernel, by decide⟩, aj_mem 1292 (by decide +kernel) (by decide +kernel), aj_mem 1293 (by decide +kernel) (by decide +kernel), _, _, rfl⟩
set_option maxRecDepth 20000 in
theorem msX6_109 : aj_MS RX6 109 Lib.Math.min.name Lib.Math.min.code 2 (some .int) := ⟨⟨aj_mem 1295 (by decide +kernel) (by decide +kernel), aj_mem 143 (by decide +kernel) (by decide +kernel), aj_mem 626 (by decide +kernel) (by decide +kernel), by decide +kernel, by decide⟩, aj_mem 625 (by decide +kernel) (by decide +kernel)⟩
set_option maxRecDepth 20000 in
theorem msX6_115 : aj_MS RX6 115 Lib.Math.max.name Lib.Math.max.code 2 (some .int) := ⟨⟨aj_mem 1296 (by decide +kernel) (by decide +kernel), aj_mem 143 (by decide +kernel) (by decide +kernel), aj_mem 726 (by decide +kernel) (by decide +kernel), by decide +kernel, by decide⟩, aj_mem 725 (by decide +kernel) (by decide +kernel)⟩
set_option maxRecDepth 20000 in
theorem mvX11_304 : aj_MV RX11 304 yX5_lightFrom cX5_lightFrom 7 none 5 := ⟨⟨aj_mem 1297 (by decide +kernel) (by decide +kernel), aj_mem 138 (by decide +kernel) (by decide +kernel), aj_mem 1300 (by decide +kernel) (by decide +kernel), by decide +kernel, by decide⟩, aj_mem 1298 (by decide +kernel) (by decide +kernel), aj_mem 1299 (by decide +kernel) (by decide +kernel), _, _, rfl⟩
set_option maxRecDepth 20000 in
theorem mvX5_162 : aj_MV RX5 162 yX5_lightestUnseen cX5_lightestUnseen 4 (some .int) 5 := ⟨⟨aj_mem 1301 (by decide +kernel) (by decide +kernel), aj_mem 138 (by decide +kernel) (by decide +kernel), aj_mem 1304 (by decide +kernel) (by decide +kernel), by decide +kernel, by decide⟩, aj_mem 1303 (by decide +kernel) (by decide +kernel), aj_mem 43 (by decide +kernel) (by decide +kernel), _, _, rfl⟩
set_option maxRecDepth 20000 in
theorem mvL_143 : aj_MV RL 143 yX11_lightest cX11_lightest 2 (some .int) 11 := ⟨⟨aj_mem 1305 (by decide +kernel) (by decide +kernel), aj_mem 130 (by decide +kernel) (by decide +kernel), aj_mem 1308 (by decide +kernel) (by decide +kernel), by decide +kernel, by decide⟩, aj_mem 1306 (by decide +kernel) (by decide +kernel), aj_mem 1307 (by decide +kernel) (by decide +kernel), _, _, rfl⟩
set_option maxRecDepth 20000 in
theorem mvX11_310 : aj_MV RX11 310 yX5_lightestRing cX5_lightestRing 6 (some .int) 5 := ⟨⟨aj_mem 1309 (by decide +kernel) (by decide +kernel), aj_mem 138 (by decide +kernel) (by decide +kernel), aj_mem 1312 (by decide +kernel) (by decide +kernel), by decide +kernel, by decide⟩, aj_mem 1310 (by decide +kernel) (by decide +kernel), aj_mem 1311 (by decide +kernel) (by decide +kernel), _, _, rfl⟩
set_option maxRecDepth 20000 in
theorem mvX5_166 : aj_MV RX5 166 yX5_lightFrom cX5_lightFrom 7 none 5 := ⟨⟨aj_mem 1313 (by decide +kernel) (by decide +kernel), aj_mem 138 (by decide +kernel) (by decide +kernel), aj_mem 1300 (by decide +kernel) (by decide +kernel), by decide +kernel, by decide⟩, aj_mem 1298 (by decide +kernel) (by decide +kernel), aj_mem 1299 (by decide +kernel) (by decide +kernel), _, _, rfl⟩
set_option maxRecDepth 20000 in
theorem mvL_147 : aj_MV RL 147 yX11_walk cX11_walk 3 (some .int) 11 := ⟨⟨aj_mem 1314 (by decide +kernel) (by decide +kernel), aj_mem 130 (by decide +kernel) (by decide +kernel), aj_mem 1317 (by decide +kernel) (by decide +kernel), by decide +kernel, by decide⟩, aj_mem 1315 (by decide +kernel) (by decide +kernel), aj_mem 1316 (by decide +kernel) (by decide +kernel), _, _, rfl⟩
set_option maxRecDepth 20000 in
theorem mvX11_313 : aj_MV RX11 313 yX11_gathered cX11_gathered 8 (some .int) 11 := ⟨⟨aj_mem 1318 (by decide +kernel) (by decide +kernel), aj_mem 130 (by decide +kernel) (by decide +kernel), aj_mem 1321 (by decide +kernel) (by decide +kernel), by decide +kernel, by decide⟩, aj_mem 1320 (by decide +kernel) (by decide +kernel), aj_mem 44 (by decide +kernel) (by decide +kernel), _, _, rfl⟩
set_option maxRecDepth 20000 in
theorem mvX11_320 : aj_MV RX11 320 yX11_stepBegins cX11_stepBegins 3 (some .int) 11 := ⟨⟨aj_mem 1322 (by decide +kernel) (by decide +kernel), aj_mem 130 (by decide +kernel) (by decide +kernel), aj_mem 1325 (by decide +kernel) (by decide +kernel), by decide +kernel, by decide⟩, aj_mem 1324 (by decide +kernel) (by decide +kernel), aj_mem 45 (by decide +kernel) (by decide +kernel), _, _, rfl⟩
set_option maxRecDepth 20000 in
theorem mvX11_324 : aj_MV RX11 324 yX11_stepEnds cX11_stepEnds 3 (some .int) 11 := ⟨⟨aj_mem 1326 (by decide +kernel) (by decide +kernel), aj_mem 130 (by decide +kernel) (by decide +kernel), aj_mem 1329 (by decide +kernel) (by decide +kernel), by decide +kernel, by decide⟩, aj_mem 1328 (by decide +kernel) (by decide +kernel), aj_mem 46 (by decide +kernel) (by decide +kernel), _, _, rfl⟩
set_option maxRecDepth 20000 in
theorem mvL_151 : aj_MV RL 151 yX11_lifted cX11_lifted 6 (some .int) 11 := ⟨⟨aj_mem 1330 (by decide +kernel) (by decide +kernel), aj_mem 130 (by decide +kernel) (by decide +kernel), aj_mem 1333 (by decide +kernel) (by decide +kernel), by decide +kernel, by decide⟩, aj_mem 1331 (by decide +kernel) (by decide +kernel), aj_mem 1332 (by decide +kernel) (by decide +kernel), _, _, rfl⟩
set_option maxRecDepth 20000 in
theorem mvX11_317 : aj_MV RX11 317 yX11_walk cX11_walk 3 (some .int) 11 := ⟨⟨aj_mem 1334 (by decide +kernel) (by decide +kernel), aj_mem 130 (by decide +kernel) (by decide +kernel), aj_mem 1317 (by decide +kernel) (by decide +kernel), by decide +kernel, by decide⟩, aj_mem 1315 (by decide +kernel) (by decide +kernel), aj_mem 1316 (by decide +kernel) (by decide +kernel), _, _, rfl⟩
set_option maxRecDepth 20000 in
theorem mvL_155 : aj_MV RL 155 yX11_tune cX11_tune 6 (some .int) 11 := ⟨⟨aj_mem 1335 (by decide +kernel) (by decide +kernel), aj_mem 130 (by decide +kernel) (by decide +kernel), aj_mem 1338 (by decide +kernel) (by decide +kernel), by decide +kernel, by decide⟩, aj_mem 1336 (by decide +kernel) (by decide +kernel), aj_mem 1337 (by decide +kernel) (by decide +kernel), _, _, rfl⟩
set_option maxRecDepth 20000 in
theorem mvX11_328 : aj_MV RX11 328 yX6_whyNotBy cX6_whyNotBy 3 (some .int) 6 := ⟨⟨aj_mem 1339 (by decide +kernel) (by decide +kernel), aj_mem 132 (by decide +kernel) (by decide +kernel), aj_mem 955 (by decide +kernel) (by decide +kernel), by decide +kernel, by decide⟩, aj_mem 953 (by decide +kernel) (by decide +kernel), aj_mem 954 (by decide +kernel) (by decide +kernel), _, _, rfl⟩
set_option maxRecDepth 20000 in
theorem mvX11_331 : aj_MV RX11 331 yX11_ringBy cX11_ringBy 3 (some .int) 11 := ⟨⟨aj_mem 1340 (by decide +kernel) (by decide +kernel), aj_mem 130 (by decide +kernel) (by decide +kernel), aj_mem 1343 (by decide +kernel) (by decide +kernel), by decide +kernel, by decide⟩, aj_mem 1342 (by decide +kernel) (by decide +kernel), aj_mem 47 (by decide +kernel) (by decide +kernel), _, _, rfl⟩
set_option maxRecDepth 20000 in
theorem mvL_159 : aj_MV RL 159 yX11_tuned cX11_tuned 3 (some .int) 11 := ⟨⟨aj_mem 1344 (by decide +kernel) (by decide +kernel), aj_mem 130 (by decide +kernel) (by decide +kernel), aj_mem 1347 (by decide +kernel) (by decide +kernel), by decide +kernel, by decide⟩, aj_mem 1345 (by decide +kernel) (by decide +kernel), aj_mem 1346 (by decide +kernel) (by decide +kernel), _, _, rfl⟩
set_option maxRecDepth 20000 in
theorem mvX11_334 : aj_MV RX11 334 yX11_tune cX11_tune 6 (some .int) 11 := ⟨⟨aj_mem 1348 (by decide +kernel) (by decide +kernel), aj_mem 130 (by decide +kernel) (by decide +kernel), aj_mem 1338 (by decide +kernel) (by decide +kernel), by decide +kernel, by decide⟩, aj_mem 1336 (by decide +kernel) (by decide +kernel), aj_mem 1337 (by decide +kernel) (by decide +kernel), _, _, rfl⟩
set_option maxRecDepth 20000 in
theorem mvL_163 : aj_MV RL 163 yX11_search cX11_search 5 (some .int) 11 := ⟨⟨aj_mem 1349 (by decide +kernel) (by decide +kernel), aj_mem 130 (by decide +kernel) (by decide +kernel), aj_mem 1352 (by decide +kernel) (by decide +kernel), by decide +kernel, by decide⟩, aj_mem 1350 (by decide +kernel) (by decide +kernel), aj_mem 1351 (by decide +kernel) (by decide +kernel), _, _, rfl⟩
set_option maxRecDepth 20000 in
theorem msX11_337 : aj_MS RX11 337 yX2_canBe cX2_canBe 3 (some .boolean) := ⟨⟨aj_mem 1353 (by decide +kernel) (by decide +kernel), aj_mem 139 (by decide +kernel) (by decide +kernel), aj_mem 1355 (by decide +kernel) (by decide +kernel), by decide +kernel, by decide⟩, aj_mem 1354 (by decide +kernel) (by decide +kernel)⟩
set_option maxRecDepth 20000 in
theorem mvX11_341 : aj_MV RX11 341 yX2_run cX2_run 4 none 2 := ⟨⟨aj_mem 1356 (by decide +kernel) (by decide +kernel), aj_mem 139 (by decide +kernel) (by decide +kernel), aj_mem 1359 (by decide +kernel) (by decide +kernel), by decide +kernel, by decide⟩, aj_mem 1357 (by decide +kernel) (by decide +kernel), aj_mem 1358 (by decide +kernel) (by decide +kernel), _, _, rfl⟩
set_option maxRecDepth 20000 in
theorem msX2_37 : aj_MS RX2 37 yX2_canBe cX2_canBe 3 (some .boolean) := ⟨⟨aj_mem 1360 (by decide +kernel) (by decide +kernel), aj_mem 139 (by decide +kernel) (by decide +kernel), aj_mem 1355 (by decide +kernel) (by decide +kernel), by decide +kernel, by decide⟩, aj_mem 1354 (by decide +kernel) (by decide +kernel)⟩
set_option maxRecDepth 20000 in
theorem msX2_41 : aj_MS RX2 41 yJ7_fill_53178 cJ7_fill_53178 4 none := ⟨⟨aj_mem 1361 (by decide +kernel) (by decide +kernel), aj_mem 150 (by decide +kernel) (by decide +kernel), aj_mem 1064 (by decide +kernel) (by decide +kernel), by decide +kernel, by decide⟩, aj_mem 1063 (by decide +kernel) (by decide +kernel)⟩
set_option maxRecDepth 20000 in
theorem mvX2_47 : aj_MV RX2 47 yX2_makeStep cX2_makeStep 6 none 2 := ⟨⟨aj_mem 1362 (by decide +kernel) (by decide +kernel), aj_mem 139 (by decide +kernel) (by decide +kernel), aj_mem 1365 (by decide +kernel) (by decide +kernel), by decide +kernel, by decide⟩, aj_mem 1364 (by decide +kernel) (by decide +kernel), aj_mem 48 (by decide +kernel) (by decide +kernel), _, _, rfl⟩
set_option maxRecDepth 20000 in
theorem mvX2_51 : aj_MV RX2 51 yX2_leastUnfilled cX2_leastUnfilled 2 (some .int) 2 := ⟨⟨aj_mem 1366 (by decide +kernel) (by decide +kernel), aj_mem 139 (by decide +kernel) (by decide +kernel), aj_mem 1369 (by decide +kernel) (by decide +kernel), by decide +kernel, by decide⟩, aj_mem 1368 (by decide +kernel) (by decide +kernel), aj_mem 49 (by decide +kernel) (by decide +kernel), _, _, rfl⟩
set_option maxRecDepth 20000 in
theorem mvX2_64 : aj_MV RX2 64 yX2_isUnfilled cX2_isUnfilled 2 (some .boolean) 2 := ⟨⟨aj_mem 1370 (by decide +kernel) (by decide +kernel), aj_mem 139 (by decide +kernel) (by decide +kernel), aj_mem 1373 (by decide +kernel) (by decide +kernel), by decide +kernel, by decide⟩, aj_mem 1372 (by decide +kernel) (by decide +kernel), aj_mem 50 (by decide +kernel) (by decide +kernel), _, _, rfl⟩
set_option maxRecDepth 20000 in
theorem msX2_59 : aj_MS RX2 59 yJ6_bitCount_0f7a4 cJ6_bitCount_0f7a4 1 (some .int) := ⟨⟨aj_mem 1374 (by decide +kernel) (by decide +kernel), aj_mem 151 (by decide +kernel) (by decide +kernel), aj_mem 1376 (by decide +kernel) (by decide +kernel), by decide +kernel, by decide⟩, aj_mem 1375 (by decide +kernel) (by decide +kernel)⟩
set_option maxRecDepth 20000 in
theorem mvX2_55 : aj_MV RX2 55 yX2_partnersOf cX2_partnersOf 8 (some .int) 2 := ⟨⟨aj_mem 1380 (by decide +kernel) (by decide +kernel), aj_mem 139 (by decide +kernel) (by decide +kernel), aj_mem 1383 (by decide +kernel) (by decide +kernel), by decide +kernel, by decide⟩, aj_mem 1382 (by decide +kernel) (by decide +kernel), aj_mem 51 (by decide +kernel) (by decide +kernel), _, _, rfl⟩
set_option maxRecDepth 20000 in
theorem mvX2_68 : aj_MV RX2 68 yX2_tooNear cX2_tooNear 6 (some .int) 2 := ⟨⟨aj_mem 1384 (by decide +kernel) (by decide +kernel), aj_mem 139 (by decide +kernel) (by decide +kernel), aj_mem 1387 (by decide +kernel) (by decide +kernel), by decide +kernel, by decide⟩, aj_mem 1386 (by decide +kernel) (by decide +kernel), aj_mem 52 (by decide +kernel) (by decide +kernel), _, _, rfl⟩
set_option maxRecDepth 20000 in
theorem mvL_168 : aj_MV RL 168 yX11_found cX11_found 6 (some .int) 11 := ⟨⟨aj_mem 1388 (by decide +kernel) (by decide +kernel), aj_mem 130 (by decide +kernel) (by decide +kernel), aj_mem 1391 (by decide +kernel) (by decide +kernel), by decide +kernel, by decide⟩, aj_mem 1389 (by decide +kernel) (by decide +kernel), aj_mem 1390 (by decide +kernel) (by decide +kernel), _, _, rfl⟩
set_option maxRecDepth 20000 in
theorem mvL_172 : aj_MV RL 172 yX11_twists cX11_twists 6 (some .int) 11 := ⟨⟨aj_mem 1392 (by decide +kernel) (by decide +kernel), aj_mem 130 (by decide +kernel) (by decide +kernel), aj_mem 1395 (by decide +kernel) (by decide +kernel), by decide +kernel, by decide⟩, aj_mem 1393 (by decide +kernel) (by decide +kernel), aj_mem 1394 (by decide +kernel) (by decide +kernel), _, _, rfl⟩
set_option maxRecDepth 20000 in
theorem mvX11_357 : aj_MV RX11 357 yX11_isWeighing cX11_isWeighing 3 (some .boolean) 11 := ⟨⟨aj_mem 1396 (by decide +kernel) (by decide +kernel), aj_mem 130 (by decide +kernel) (by decide +kernel), aj_mem 1399 (by decide +kernel) (by decide +kernel), by decide +kernel, by decide⟩, aj_mem 1398 (by decide +kernel) (by decide +kernel), aj_mem 53 (by decide +kernel) (by decide +kernel), _, _, rfl⟩
set_option maxRecDepth 20000 in
theorem mvX11_361 : aj_MV RX11 361 yX11_allWeighSo cX11_allWeighSo 5 (some .boolean) 11 := ⟨⟨aj_mem 1402 (by decide +kernel) (by decide +kernel), aj_mem 130 (by decide +kernel) (by decide +kernel), aj_mem 1405 (by decide +kernel) (by decide +kernel), by decide +kernel, by decide⟩, aj_mem 1404 (by decide +kernel) (by decide +kernel), aj_mem 54 (by decide +kernel) (by decide +kernel), _, _, rfl⟩
set_option maxRecDepth 20000 in
theorem mvX11_428 : aj_MV RX11 428 yX6_weightOf cX6_weightOf 5 (some .int) 6 := ⟨⟨aj_mem 1406 (by decide +kernel) (by decide +kernel), aj_mem 132 (by decide +kernel) (by decide +kernel), aj_mem 1294 (by decide +kernel) (by decide +kernel), by decide +kernel, by decide⟩, aj_mem 1292 (by decide +kernel) (by decide +kernel), aj_mem 1293 (by decide +kernel) (by decide +kernel), _, _, rfl⟩
set_option maxRecDepth 20000 in
theorem mvL_176 : aj_MV RL 176 yX11_weigh cX11_weigh 8 (some .int) 11 := ⟨⟨aj_mem 1407 (by decide +kernel) (by decide +kernel), aj_mem 130 (by decide +kernel) (by decide +kernel), aj_mem 1410 (by decide +kernel) (by decide +kernel), by decide +kernel, by decide⟩, aj_mem 1408 (by decide +kernel) (by decide +kernel), aj_mem 1409 (by decide +kernel) (by decide +kernel), _, _, rfl⟩
set_option maxRecDepth 20000 in
theorem mvX11_365 : aj_MV RX11 365 yX11_twists cX11_twists 6 (some .int) 11 := ⟨⟨aj_mem 1411 (by decide +kernel) (by decide +kernel), aj_mem 130 (by decide +kernel) (by decide +kernel), aj_mem 1395 (by decide +kernel) (by decide +kernel), by decide +kernel, by decide⟩, aj_mem 1393 (by decide +kernel) (by decide +kernel), aj_mem 1394 (by decide +kernel) (by decide +kernel), _, _, rfl⟩
set_option maxRecDepth 20000 in
theorem mvX11_371 : aj_MV RX11 371 yX11_mostAlike cX11_mostAlike 8 (some .int) 11 := ⟨⟨aj_mem 1412 (by decide +kernel) (by decide +kernel), aj_mem 130 (by decide +kernel) (by decide +kernel), aj_mem 1415 (by decide +kernel) (by decide +kernel), by decide +kernel, by decide⟩, aj_mem 1414 (by decide +kernel) (by decide +kernel), aj_mem 55 (by decide +kernel) (by decide +kernel), _, _, rfl⟩
set_option maxRecDepth 20000 in
theorem msX11_431 : aj_MS RX11 431 Lib.Math.max.name Lib.Math.max.code 2 (some .int) := ⟨⟨aj_mem 1416 (by decide +kernel) (by decide +kernel), aj_mem 143 (by decide +kernel) (by decide +kernel), aj_mem 726 (by decide +kernel) (by decide +kernel), by decide +kernel, by decide⟩, aj_mem 725 (by decide +kernel) (by decide +kernel)⟩
set_option maxRecDepth 20000 in
theorem mvL_180 : aj_MV RL 180 yX11_chance cX11_chance 4 (some .int) 11 := ⟨⟨aj_mem 1417 (by decide +kernel) (by decide +kernel), aj_mem 130 (by decide +kernel) (by decide +kernel), aj_mem 1420 (by decide +kernel) (by decide +kernel), by decide +kernel, by decide⟩, aj_mem 1418 (by decide +kernel) (by decide +kernel), aj_mem 1419 (by decide +kernel) (by decide +kernel), _, _, rfl⟩
set_option maxRecDepth 20000 in
theorem mvX11_375 : aj_MV RX11 375 yX11_drawn cX11_drawn 7 (some .int) 11 := ⟨⟨aj_mem 1421 (by decide +kernel) (by decide +kernel), aj_mem 130 (by decide +kernel) (by decide +kernel), aj_mem 1424 (by decide +kernel) (by decide +kernel), by decide +kernel, by decide⟩, aj_mem 1423 (by decide +kernel) (by decide +kernel), aj_mem 56 (by decide +kernel) (by decide +kernel), _, _, rfl⟩
set_option maxRecDepth 20000 in
theorem mvX11_434 : aj_MV RX11 434 yX11_worth cX11_worth 3 (some .int) 11 := ⟨⟨aj_mem 1425 (by decide +kernel) (by decide +kernel), aj_mem 130 (by decide +kernel) (by decide +kernel), aj_mem 1428 (by decide +kernel) (by decide +kernel), by decide +kernel, by decide⟩, aj_mem 1427 (by decide +kernel) (by decide +kernel), aj_mem 57 (by decide +kernel) (by decide +kernel), _, _, rfl⟩
set_option maxRecDepth 20000 in
theorem mvX11_437 : aj_MV RX11 437 yX11_drawLot cX11_drawLot 2 none 11 := ⟨⟨aj_mem 1429 (by decide +kernel) (by decide +kernel), aj_mem 130 (by decide +kernel) (by decide +kernel), aj_mem 1432 (by decide +kernel) (by decide +kernel), by decide +kernel, by decide⟩, aj_mem 1431 (by decide +kernel) (by decide +kernel), aj_mem 58 (by decide +kernel) (by decide +kernel), _, _, rfl⟩
set_option maxRecDepth 20000 in
theorem msX11_378 : aj_MS RX11 378 yX11_lowest cX11_lowest 8 (some .int) := ⟨⟨aj_mem 1433 (by decide +kernel) (by decide +kernel), aj_mem 130 (by decide +kernel) (by decide +kernel), aj_mem 1435 (by decide +kernel) (by decide +kernel), by decide +kernel, by decide⟩, aj_mem 1434 (by decide +kernel) (by decide +kernel)⟩
set_option maxRecDepth 20000 in
theorem mvL_185 : aj_MV RL 185 yX11_mean cX11_mean 3 (some .int) 11 := ⟨⟨aj_mem 1436 (by decide +kernel) (by decide +kernel), aj_mem 130 (by decide +kernel) (by decide +kernel), aj_mem 1439 (by decide +kernel) (by decide +kernel), by decide +kernel, by decide⟩, aj_mem 1437 (by decide +kernel) (by decide +kernel), aj_mem 1438 (by decide +kernel) (by decide +kernel), _, _, rfl⟩
set_option maxRecDepth 20000 in
theorem mvL_189 : aj_MV RL 189 yX11_numbers cX11_numbers 4 (some .int) 11 := ⟨⟨aj_mem 1440 (by decide +kernel) (by decide +kernel), aj_mem 130 (by decide +kernel) (by decide +kernel), aj_mem 1443 (by decide +kernel) (by decide +kernel), by decide +kernel, by decide⟩, aj_mem 1441 (by decide +kernel) (by decide +kernel), aj_mem 1442 (by decide +kernel) (by decide +kernel), _, _, rfl⟩
set_option maxRecDepth 20000 in
theorem mvX11_381 : aj_MV RX11 381 yX10_lay cX10_lay 3 none 10 := ⟨⟨aj_mem 1444 (by decide +kernel) (by decide +kernel), aj_mem 141 (by decide +kernel) (by decide +kernel), aj_mem 1447 (by decide +kernel) (by decide +kernel), by decide +kernel, by decide⟩, aj_mem 1445 (by decide +kernel) (by decide +kernel), aj_mem 1446 (by decide +kernel) (by decide +kernel), _, _, rfl⟩
set_option maxRecDepth 20000 in
theorem msX10_22 : aj_MS RX10 22 yJ7_fill_d0a16 cJ7_fill_d0a16 5 none := ⟨⟨aj_mem 1448 (by decide +kernel) (by decide +kernel), aj_mem 150 (by decide +kernel) (by decide +kernel), aj_mem 1450 (by decide +kernel) (by decide +kernel), by decide +kernel, by decide⟩, aj_mem 1449 (by decide +kernel) (by decide +kernel)⟩
set_option maxRecDepth 20000 in
theorem mvL_195 : aj_MV RL 195 yX11_write cX11_write 7 (some .long) 11 := ⟨⟨aj_mem 1451 (by decide +kernel) (by decide +kernel), aj_mem 130 (by decide +kernel) (by decide +kernel), aj_mem 1454 (by decide +kernel) (by decide +kernel), by decide +kernel, by decide⟩, aj_mem 1452 (by decide +kernel) (by decide +kernel), aj_mem 1453 (by decide +kernel) (by decide +kernel), _, _, rfl⟩
set_option maxRecDepth 20000 in
theorem mvX11_387 : aj_MV RX11 387 yX10_trimmed cX10_trimmed 3 (some .long) 10 := ⟨⟨aj_mem 1456 (by decide +kernel) (by decide +kernel), aj_mem 141 (by decide +kernel) (by decide +kernel), aj_mem 1459 (by decide +kernel) (by decide +kernel), by decide +kernel, by decide⟩, aj_mem 1457 (by decide +kernel) (by decide +kernel), aj_mem 1458 (by decide +kernel) (by decide +kernel), _, _, rfl⟩
set_option maxRecDepth 20000 in
theorem mvL_200 : aj_MV RL 200 yX11_lists cX11_lists 7 (some .int) 11 := ⟨⟨aj_mem 1460 (by decide +kernel) (by decide +kernel), aj_mem 130 (by decide +kernel) (by decide +kernel), aj_mem 1463 (by decide +kernel) (by decide +kernel), by decide +kernel, by decide⟩, aj_mem 1461 (by decide +kernel) (by decide +kernel), aj_mem 1462 (by decide +kernel) (by decide +kernel), _, _, rfl⟩
set_option maxRecDepth 20000 in
theorem msX11_391 : aj_MS RX11 391 Lib.Math.min.name Lib.Math.min.code 2 (some .int) := ⟨⟨aj_mem 1464 (by decide +kernel) (by decide +kernel), aj_mem 143 (by decide +kernel) (by decide +kernel), aj_mem 626 (by decide +kernel) (by decide +kernel), by decide +kernel, by decide⟩, aj_mem 625 (by decide +kernel) (by decide +kernel)⟩
set_option maxRecDepth 20000 in
theorem mvL_204 : aj_MV RL 204 yX11_image cX11_image 2 (some .int) 11 := ⟨⟨aj_mem 1465 (by decide +kernel) (by decide +kernel), aj_mem 130 (by decide +kernel) (by decide +kernel), aj_mem 1468 (by decide +kernel) (by decide +kernel), by decide +kernel, by decide⟩, aj_mem 1466 (by decide +kernel) (by decide +kernel), aj_mem 1467 (by decide +kernel) (by decide +kernel), _, _, rfl⟩
set_option maxRecDepth 20000 in
theorem mvX11_396 : aj_MV RX11 396 yX3_take cX3_take 3 none 3 := ⟨⟨aj_mem 1469 (by decide +kernel) (by decide +kernel), aj_mem 140 (by decide +kernel) (by decide +kernel), aj_mem 1472 (by decide +kernel) (by decide +kernel), by decide +kernel, by decide⟩, aj_mem 1470 (by decide +kernel) (by decide +kernel), aj_mem 1471 (by decide +kernel) (by decide +kernel), _, _, rfl⟩
set_option maxRecDepth 20000 in
theorem mvX3_27 : aj_MV RX3 27 yX6_copyFrom cX6_copyFrom 2 none 6 := ⟨⟨aj_mem 1473 (by decide +kernel) (by decide +kernel), aj_mem 132 (by decide +kernel) (by decide +kernel), aj_mem 874 (by decide +kernel) (by decide +kernel), by decide +kernel, by decide⟩, aj_mem 872 (by decide +kernel) (by decide +kernel), aj_mem 873 (by decide +kernel) (by decide +kernel), _, _, rfl⟩
set_option maxRecDepth 20000 in
theorem mvX3_31 : aj_MV RX3 31 yX9_copyFrom cX9_copyFrom 2 none 9 := ⟨⟨aj_mem 1474 (by decide +kernel) (by decide +kernel), aj_mem 135 (by decide +kernel) (by decide +kernel), aj_mem 947 (by decide +kernel) (by decide +kernel), by decide +kernel, by decide⟩, aj_mem 945 (by decide +kernel) (by decide +kernel), aj_mem 946 (by decide +kernel) (by decide +kernel), _, _, rfl⟩
set_option maxRecDepth 20000 in
theorem mvL_208 : aj_MV RL 208 yX11_restore cX11_restore 2 (some .int) 11 := ⟨⟨aj_mem 1475 (by decide +kernel) (by decide +kernel), aj_mem 130 (by decide +kernel) (by decide +kernel), aj_mem 1478 (by decide +kernel) (by decide +kernel), by decide +kernel, by decide⟩, aj_mem 1476 (by decide +kernel) (by decide +kernel), aj_mem 1477 (by decide +kernel) (by decide +kernel), _, _, rfl⟩
set_option maxRecDepth 20000 in
theorem mvX11_402 : aj_MV RX11 402 yX3_giveBack cX3_giveBack 3 none 3 := ⟨⟨aj_mem 1479 (by decide +kernel) (by decide +kernel), aj_mem 140 (by decide +kernel) (by decide +kernel), aj_mem 1482 (by decide +kernel) (by decide +kernel), by decide +kernel, by decide⟩, aj_mem 1480 (by decide +kernel) (by decide +kernel), aj_mem 1481 (by decide +kernel) (by decide +kernel), _, _, rfl⟩
set_option maxRecDepth 20000 in
theorem mvL_212 : aj_MV RL 212 yX11_count cX11_count 2 (some .int) 11 := ⟨⟨aj_mem 1483 (by decide +kernel) (by decide +kernel), aj_mem 130 (by decide +kernel) (by decide +kernel), aj_mem 1486 (by decide +kernel) (by decide +kernel), by decide +kernel, by decide⟩, aj_mem 1484 (by decide +kernel) (by decide +kernel), aj_mem 1485 (by decide +kernel) (by decide +kernel), _, _, rfl⟩
set_option maxRecDepth 20000 in
theorem msX12_88 : aj_MS RX12 88 yX12_plain cX12_plain 2 none := ⟨⟨aj_mem 1493 (by decide +kernel) (by decide +kernel), aj_mem 142 (by decide +kernel) (by decide +kernel), aj_mem 1495 (by decide +kernel) (by decide +kernel), by decide +kernel, by decide⟩, aj_mem 1494 (by decide +kernel) (by decide +kernel)⟩
set_option maxRecDepth 20000 in
theorem flX12_1 : aj_FL RX12 1 12 0 := ⟨_, _, _, cfX12, by decide, aj_mem 1496 (by decide +kernel) (by decide +kernel)⟩
set_option maxRecDepth 20000 in
theorem fpX12_1 : aj_FP RX12 1 12 0 := ⟨_, _, _, cfX12, by decide, aj_mem 1496 (by decide +kernel) (by decide +kernel), rfl⟩
set_option maxRecDepth 20000 in
theorem flX12_13 : aj_FL RX12 13 12 1 := ⟨_, _, _, cfX12, by decide, aj_mem 1497 (by decide +kernel) (by decide +kernel)⟩
set_option maxRecDepth 20000 in
theorem flX12_17 : aj_FL RX12 17 12 2 := ⟨_, _, _, cfX12, by decide, aj_mem 1498 (by decide +kernel) (by decide +kernel)⟩
set_option maxRecDepth 20000 in
theorem flX12_21 : aj_FL RX12 21 12 3 := ⟨_, _, _, cfX12, by decide, aj_mem 1499 (by decide +kernel) (by decide +kernel)⟩
set_option maxRecDepth 20000 in
theorem flX12_24 : aj_FL RX12 24 12 4 := ⟨_, _, _, cfX12, by decide, aj_mem 1500 (by decide +kernel) (by decide +kernel)⟩
set_option maxRecDepth 20000 in
theorem flX12_92 : aj_FL RX12 92 12 5 := ⟨_, _, _, cfX12, by decide, aj_mem 1501 (by decide +kernel) (by decide +kernel)⟩
set_option maxRecDepth 20000 in
theorem fpX12_92 : aj_FP RX12 92 12 5 := ⟨_, _, _, cfX12, by decide, aj_mem 1501 (by decide +kernel) (by decide +kernel), rfl⟩
set_option maxRecDepth 20000 in
theorem flX12_110 : aj_FL RX12 110 12 6 := ⟨_, _, _, cfX12, by decide, aj_mem 1502 (by decide +kernel) (by decide +kernel)⟩
set_option maxRecDepth 20000 in
theorem fpX12_110 : aj_FP RX12 110 12 6 := ⟨_, _, _, cfX12, by decide, aj_mem 1502 (by decide +kernel) (by decide +kernel), rfl⟩
set_option maxRecDepth 20000 in
theorem flX12_113 : aj_FL RX12 113 12 7 := ⟨_, _, _, cfX12, by decide, aj_mem 1503 (by decide +kernel) (by decide +kernel)⟩
set_option maxRecDepth 20000 in
theorem fpX12_113 : aj_FP RX12 113 12 7 := ⟨_, _, _, cfX12, by decide, aj_mem 1503 (by decide +kernel) (by decide +kernel), rfl⟩
set_option maxRecDepth 20000 in
theorem flX12_95 : aj_FL RX12 95 12 8 := ⟨_, _, _, cfX12, by decide, aj_mem 1504 (by decide +kernel) (by decide +kernel)⟩
set_option maxRecDepth 20000 in
theorem fpX12_95 : aj_FP RX12 95 12 8 := ⟨_, _, _, cfX12, by decide, aj_mem 1504 (by decide +kernel) (by decide +kernel), rfl⟩
set_option maxRecDepth 20000 in
theorem flX12_120 : aj_FL RX12 120 12 9 := ⟨_, _, _, cfX12, by decide, aj_mem 1505 (by decide +kernel) (by decide +kernel)⟩
set_option maxRecDepth 20000 in
theorem fpX12_120 : aj_FP RX12 120 12 9 := ⟨_, _, _, cfX12, by decide, aj_mem 1505 (by decide +kernel) (by decide +kernel), rfl⟩
set_option maxRecDepth 20000 in
theorem flX12_133 : aj_FL RX12 133 12 10 := ⟨_, _, _, cfX12, by decide, aj_mem 1506 (by decide +kernel) (by decide +kernel)⟩
set_option maxRecDepth 20000 in
theorem fpX12_133 : aj_FP RX12 133 12 10 := ⟨_, _, _, cfX12, by decide, aj_mem 1506 (by decide +kernel) (by decide +kernel), rfl⟩
set_option maxRecDepth 20000 in
theorem flX12_138 : aj_FL RX12 138 12 11 := ⟨_, _, _, cfX12, by decide, aj_mem 1507 (by decide +kernel) (by decide +kernel)⟩
set_option maxRecDepth 20000 in
theorem fpX12_138 : aj_FP RX12 138 12 11 := ⟨_, _, _, cfX12, by decide, aj_mem 1507 (by decide +kernel) (by decide +kernel), rfl⟩
set_option maxRecDepth 20000 in
theorem flX12_141 : aj_FL RX12 141 12 12 := ⟨_, _, _, cfX12, by decide, aj_mem 1508 (by decide +kernel) (by decide +kernel)⟩
set_option maxRecDepth 20000 in
theorem fpX12_141 : aj_FP RX12 141 12 12 := ⟨_, _, _, cfX12, by decide, aj_mem 1508 (by decide +kernel) (by decide +kernel), rfl⟩
set_option maxRecDepth 20000 in
theorem flX12_243 : aj_FL RX12 243 12 13 := ⟨_, _, _, cfX12, by decide, aj_mem 1509 (by decide +kernel) (by decide +kernel)⟩
set_option maxRecDepth 20000 in
theorem fpX12_243 : aj_FP RX12 243 12 13 := ⟨_, _, _, cfX12, by decide, aj_mem 1509 (by decide +kernel) (by decide +kernel), rfl⟩
set_option maxRecDepth 20000 in
theorem flX12_27 : aj_FL RX12 27 12 14 := ⟨_, _, _, cfX12, by decide, aj_mem 1510 (by decide +kernel) (by decide +kernel)⟩
set_option maxRecDepth 20000 in
theorem fpX12_27 : aj_FP RX12 27 12 14 := ⟨_, _, _, cfX12, by decide, aj_mem 1510 (by decide +kernel) (by decide +kernel), rfl⟩
set_option maxRecDepth 20000 in
theorem flX12_221 : aj_FL RX12 221 12 15 := ⟨_, _, _, cfX12, by decide, aj_mem 1511 (by decide +kernel) (by decide +kernel)⟩
set_option maxRecDepth 20000 in
theorem fpX12_221 : aj_FP RX12 221 12 15 := ⟨_, _, _, cfX12, by decide, aj_mem 1511 (by decide +kernel) (by decide +kernel), rfl⟩
set_option maxRecDepth 20000 in
theorem flX12_30 : aj_FL RX12 30 12 16 := ⟨_, _, _, cfX12, by decide, aj_mem 1512 (by decide +kernel) (by decide +kernel)⟩
set_option maxRecDepth 20000 in
theorem flX12_33 : aj_FL RX12 33 12 17 := ⟨_, _, _, cfX12, by decide, aj_mem 1513 (by decide +kernel) (by decide +kernel)⟩
set_option maxRecDepth 20000 in
theorem flX12_36 : aj_FL RX12 36 12 18 := ⟨_, _, _, cfX12, by decide, aj_mem 1514 (by decide +kernel) (by decide +kernel)⟩
set_option maxRecDepth 20000 in
theorem flX12_39 : aj_FL RX12 39 12 19 := ⟨_, _, _, cfX12, by decide, aj_mem 1515 (by decide +kernel) (by decide +kernel)⟩
set_option maxRecDepth 20000 in
theorem flX12_42 : aj_FL RX12 42 12 20 := ⟨_, _, _, cfX12, by decide, aj_mem 1516 (by decide +kernel) (by decide +kernel)⟩
set_option maxRecDepth 20000 in
theorem flX12_45 : aj_FL RX12 45 12 21 := ⟨_, _, _, cfX12, by decide, aj_mem 1517 (by decide +kernel) (by decide +kernel)⟩
set_option maxRecDepth 20000 in
theorem flX12_265 : aj_FL RX12 265 12 22 := ⟨_, _, _, cfX12, by decide, aj_mem 1518 (by decide +kernel) (by decide +kernel)⟩
set_option maxRecDepth 20000 in
theorem fpX12_265 : aj_FP RX12 265 12 22 := ⟨_, _, _, cfX12, by decide, aj_mem 1518 (by decide +kernel) (by decide +kernel), rfl⟩
set_option maxRecDepth 20000 in
theorem flX12_271 : aj_FL RX12 271 12 23 := ⟨_, _, _, cfX12, by decide, aj_mem 1519 (by decide +kernel) (by decide +kernel)⟩
set_option maxRecDepth 20000 in
theorem fpX12_271 : aj_FP RX12 271 12 23 := ⟨_, _, _, cfX12, by decide, aj_mem 1519 (by decide +kernel) (by decide +kernel), rfl⟩
set_option maxRecDepth 20000 in
theorem flX12_48 : aj_FL RX12 48 12 24 := ⟨_, _, _, cfX12, by decide, aj_mem 1520 (by decide +kernel) (by decide +kernel)⟩
set_option maxRecDepth 20000 in
theorem flX12_51 : aj_FL RX12 51 12 25 := ⟨_, _, _, cfX12, by decide, aj_mem 1521 (by decide +kernel) (by decide +kernel)⟩
set_option maxRecDepth 20000 in
theorem flX12_54 : aj_FL RX12 54 12 26 := ⟨_, _, _, cfX12, by decide, aj_mem 1522 (by decide +kernel) (by decide +kernel)⟩
set_option maxRecDepth 20000 in
theorem flX12_57 : aj_FL RX12 57 12 27 := ⟨_, _, _, cfX12, by decide, aj_mem 1523 (by decide +kernel) (by decide +kernel)⟩
set_option maxRecDepth 20000 in
theorem flX12_318 : aj_FL RX12 318 12 28 := ⟨_, _, _, cfX12, by decide, aj_mem 1524 (by decide +kernel) (by decide +kernel)⟩
set_option maxRecDepth 20000 in
theorem fpX12_318 : aj_FP RX12 318 12 28 := ⟨_, _, _, cfX12, by decide, aj_mem 1524 (by decide +kernel) (by decide +kernel), rfl⟩
set_option maxRecDepth 20000 in
theorem flX12_349 : aj_FL RX12 349 12 29 := ⟨_, _, _, cfX12, by decide, aj_mem 1525 (by decide +kernel) (by decide +kernel)⟩
set_option maxRecDepth 20000 in
theorem fpX12_349 : aj_FP RX12 349 12 29 := ⟨_, _, _, cfX12, by decide, aj_mem 1525 (by decide +kernel) (by decide +kernel), rfl⟩
set_option maxRecDepth 20000 in
theorem flX12_60 : aj_FL RX12 60 12 30 := ⟨_, _, _, cfX12, by decide, aj_mem 1526 (by decide +kernel) (by decide +kernel)⟩
set_option maxRecDepth 20000 in
theorem flX12_63 : aj_FL RX12 63 12 31 := ⟨_, _, _, cfX12, by decide, aj_mem 1527 (by decide +kernel) (by decide +kernel)⟩
set_option maxRecDepth 20000 in
theorem flX12_66 : aj_FL RX12 66 12 32 := ⟨_, _, _, cfX12, by decide, aj_mem 1528 (by decide +kernel) (by decide +kernel)⟩
set_option maxRecDepth 20000 in
theorem flX12_419 : aj_FL RX12 419 12 33 := ⟨_, _, _, cfX12, by decide, aj_mem 1529 (by decide +kernel) (by decide +kernel)⟩
set_option maxRecDepth 20000 in
theorem fpX12_419 : aj_FP RX12 419 12 33 := ⟨_, _, _, cfX12, by decide, aj_mem 1529 (by decide +kernel) (by decide +kernel), rfl⟩
set_option maxRecDepth 20000 in
theorem flX12_69 : aj_FL RX12 69 12 34 := ⟨_, _, _, cfX12, by decide, aj_mem 1530 (by decide +kernel) (by decide +kernel)⟩
set_option maxRecDepth 20000 in
theorem flX12_72 : aj_FL RX12 72 12 35 := ⟨_, _, _, cfX12, by decide, aj_mem 1531 (by decide +kernel) (by decide +kernel)⟩
set_option maxRecDepth 20000 in
theorem flX12_437 : aj_FL RX12 437 12 36 := ⟨_, _, _, cfX12, by decide, aj_mem 1532 (by decide +kernel) (by decide +kernel)⟩
set_option maxRecDepth 20000 in
theorem fpX12_437 : aj_FP RX12 437 12 36 := ⟨_, _, _, cfX12, by decide, aj_mem 1532 (by decide +kernel) (by decide +kernel), rfl⟩
set_option maxRecDepth 20000 in
theorem flX12_428 : aj_FL RX12 428 12 37 := ⟨_, _, _, cfX12, by decide, aj_mem 1533 (by decide +kernel) (by decide +kernel)⟩
set_option maxRecDepth 20000 in
theorem fpX12_428 : aj_FP RX12 428 12 37 := ⟨_, _, _, cfX12, by decide, aj_mem 1533 (by decide +kernel) (by decide +kernel), rfl⟩
set_option maxRecDepth 20000 in
theorem flX12_425 : aj_FL RX12 425 12 38 := ⟨_, _, _, cfX12, by decide, aj_mem 1534 (by decide +kernel) (by decide +kernel)⟩
set_option maxRecDepth 20000 in
theorem fpX12_425 : aj_FP RX12 425 12 38 := ⟨_, _, _, cfX12, by decide, aj_mem 1534 (by decide +kernel) (by decide +kernel), rfl⟩
set_option maxRecDepth 20000 in
theorem flX12_440 : aj_FL RX12 440 12 39 := ⟨_, _, _, cfX12, by decide, aj_mem 1535 (by decide +kernel) (by decide +kernel)⟩
set_option maxRecDepth 20000 in
theorem fpX12_440 : aj_FP RX12 440 12 39 := ⟨_, _, _, cfX12, by decide, aj_mem 1535 (by decide +kernel) (by decide +kernel), rfl⟩
set_option maxRecDepth 20000 in
theorem flX12_452 : aj_FL RX12 452 12 40 := ⟨_, _, _, cfX12, by decide, aj_mem 1536 (by decide +kernel) (by decide +kernel)⟩
set_option maxRecDepth 20000 in
theorem fpX12_452 : aj_FP RX12 452 12 40 := ⟨_, _, _, cfX12, by decide, aj_mem 1536 (by decide +kernel) (by decide +kernel), rfl⟩
set_option maxRecDepth 20000 in
theorem flX12_75 : aj_FL RX12 75 12 41 := ⟨_, _, _, cfX12, by decide, aj_mem 1537 (by decide +kernel) (by decide +kernel)⟩
set_option maxRecDepth 20000 in
theorem flX12_477 : aj_FL RX12 477 12 42 := ⟨_, _, _, cfX12, by decide, aj_mem 1538 (by decide +kernel) (by decide +kernel)⟩
set_option maxRecDepth 20000 in
theorem fpX12_477 : aj_FP RX12 477 12 42 := ⟨_, _, _, cfX12, by decide, aj_mem 1538 (by decide +kernel) (by decide +kernel), rfl⟩
set_option maxRecDepth 20000 in
theorem flX12_481 : aj_FL RX12 481 12 43 := ⟨_, _, _, cfX12, by decide, aj_mem 1539 (by decide +kernel) (by decide +kernel)⟩
set_option maxRecDepth 20000 in
theorem fpX12_481 : aj_FP RX12 481 12 43 := ⟨_, _, _, cfX12, by decide, aj_mem 1539 (by decide +kernel) (by decide +kernel), rfl⟩
set_option maxRecDepth 20000 in
theorem flX12_78 : aj_FL RX12 78 12 44 := ⟨_, _, _, cfX12, by decide, aj_mem 1540 (by decide +kernel) (by decide +kernel)⟩
set_option maxRecDepth 20000 in
theorem flX12_81 : aj_FL RX12 81 12 45 := ⟨_, _, _, cfX12, by decide, aj_mem 1541 (by decide +kernel) (by decide +kernel)⟩
set_option maxRecDepth 20000 in
theorem flX12_84 : aj_FL RX12 84 12 46 := ⟨_, _, _, cfX12, by decide, aj_mem 1542 (by decide +kernel) (by decide +kernel)⟩
set_option maxRecDepth 20000 in
theorem mvL_17 : aj_MV RL 17 yX12_feed cX12_feed 8 (some .int) 12 := ⟨⟨aj_mem 1639 (by decide +kernel) (by decide +kernel), aj_mem 142 (by decide +kernel) (by decide +kernel), aj_mem 1642 (by decide +kernel) (by decide +kernel), by decide +kernel, by decide⟩, aj_mem 1640 (by decide +kernel) (by decide +kernel), aj_mem 1641 (by decide +kernel) (by decide +kernel), _, _, rfl⟩
set_option maxRecDepth 20000 in
theorem mvL_35 : aj_MV RL 35 yX12_product cX12_product 3 (some .int) 12 := ⟨⟨aj_mem 1643 (by decide +kernel) (by decide +kernel), aj_mem 142 (by decide +kernel) (by decide +kernel), aj_mem 1646 (by decide +kernel) (by decide +kernel), by decide +kernel, by decide⟩, aj_mem 1644 (by decide +kernel) (by decide +kernel), aj_mem 1645 (by decide +kernel) (by decide +kernel), _, _, rfl⟩
set_option maxRecDepth 20000 in
theorem mvX12_205 : aj_MV RX12 205 yX12_isMember cX12_isMember 3 (some .boolean) 12 := ⟨⟨aj_mem 1647 (by decide +kernel) (by decide +kernel), aj_mem 142 (by decide +kernel) (by decide +kernel), aj_mem 1650 (by decide +kernel) (by decide +kernel), by decide +kernel, by decide⟩, aj_mem 1649 (by decide +kernel) (by decide +kernel), aj_mem 59 (by decide +kernel) (by decide +kernel), _, _, rfl⟩
set_option maxRecDepth 20000 in
theorem msX12_154 : aj_MS RX12 154 yX12_within cX12_within 6 (some .boolean) := ⟨⟨aj_mem 1651 (by decide +kernel) (by decide +kernel), aj_mem 142 (by decide +kernel) (by decide +kernel), aj_mem 1653 (by decide +kernel) (by decide +kernel), by decide +kernel, by decide⟩, aj_mem 1652 (by decide +kernel) (by decide +kernel)⟩
set_option maxRecDepth 20000 in
theorem mvX12_202 : aj_MV RX12 202 yX12_timesNow cX12_timesNow 3 (some .int) 12 := ⟨⟨aj_mem 1654 (by decide +kernel) (by decide +kernel), aj_mem 142 (by decide +kernel) (by decide +kernel), aj_mem 1657 (by decide +kernel) (by decide +kernel), by decide +kernel, by decide⟩, aj_mem 1656 (by decide +kernel) (by decide +kernel), aj_mem 60 (by decide +kernel) (by decide +kernel), _, _, rfl⟩
set_option maxRecDepth 20000 in
theorem msX12_198 : aj_MS RX12 198 yX12_times cX12_times 5 (some .int) := ⟨⟨aj_mem 1658 (by decide +kernel) (by decide +kernel), aj_mem 142 (by decide +kernel) (by decide +kernel), aj_mem 1660 (by decide +kernel) (by decide +kernel), by decide +kernel, by decide⟩, aj_mem 1659 (by decide +kernel) (by decide +kernel)⟩
set_option maxRecDepth 20000 in
theorem msX12_191 : aj_MS RX12 191 yX12_timesUnits cX12_timesUnits 6 (some .int) := ⟨⟨aj_mem 1661 (by decide +kernel) (by decide +kernel), aj_mem 142 (by decide +kernel) (by decide +kernel), aj_mem 1663 (by decide +kernel) (by decide +kernel), by decide +kernel, by decide⟩, aj_mem 1662 (by decide +kernel) (by decide +kernel)⟩
set_option maxRecDepth 20000 in
theorem msX12_195 : aj_MS RX12 195 yX12_restOf cX12_restOf 3 (some .int) := ⟨⟨aj_mem 1664 (by decide +kernel) (by decide +kernel), aj_mem 142 (by decide +kernel) (by decide +kernel), aj_mem 1666 (by decide +kernel) (by decide +kernel), by decide +kernel, by decide⟩, aj_mem 1665 (by decide +kernel) (by decide +kernel)⟩
set_option maxRecDepth 20000 in
theorem mvL_39 : aj_MV RL 39 yX12_inverse cX12_inverse 2 (some .int) 12 := ⟨⟨aj_mem 1667 (by decide +kernel) (by decide +kernel), aj_mem 142 (by decide +kernel) (by decide +kernel), aj_mem 1670 (by decide +kernel) (by decide +kernel), by decide +kernel, by decide⟩, aj_mem 1668 (by decide +kernel) (by decide +kernel), aj_mem 1669 (by decide +kernel) (by decide +kernel), _, _, rfl⟩
set_option maxRecDepth 20000 in
theorem mvX12_209 : aj_MV RX12 209 yX12_inverseOf cX12_inverseOf 3 (some .int) 12 := ⟨⟨aj_mem 1671 (by decide +kernel) (by decide +kernel), aj_mem 142 (by decide +kernel) (by decide +kernel), aj_mem 1674 (by decide +kernel) (by decide +kernel), by decide +kernel, by decide⟩, aj_mem 1673 (by decide +kernel) (by decide +kernel), aj_mem 61 (by decide +kernel) (by decide +kernel), _, _, rfl⟩
set_option maxRecDepth 20000 in
theorem mvL_43 : aj_MV RL 43 yX12_orderOf cX12_orderOf 2 (some .int) 12 := ⟨⟨aj_mem 1675 (by decide +kernel) (by decide +kernel), aj_mem 142 (by decide +kernel) (by decide +kernel), aj_mem 1678 (by decide +kernel) (by decide +kernel), by decide +kernel, by decide⟩, aj_mem 1676 (by decide +kernel) (by decide +kernel), aj_mem 1677 (by decide +kernel) (by decide +kernel), _, _, rfl⟩
set_option maxRecDepth 20000 in
theorem msX12_212 : aj_MS RX12 212 yX12_ordersOf cX12_ordersOf 4 (some .int) := ⟨⟨aj_mem 1679 (by decide +kernel) (by decide +kernel), aj_mem 142 (by decide +kernel) (by decide +kernel), aj_mem 1681 (by decide +kernel) (by decide +kernel), by decide +kernel, by decide⟩, aj_mem 1680 (by decide +kernel) (by decide +kernel)⟩
set_option maxRecDepth 20000 in
theorem mvL_48 : aj_MV RL 48 yX12_centre cX12_centre 5 (some .int) 12 := ⟨⟨aj_mem 1682 (by decide +kernel) (by decide +kernel), aj_mem 142 (by decide +kernel) (by decide +kernel), aj_mem 1685 (by decide +kernel) (by decide +kernel), by decide +kernel, by decide⟩, aj_mem 1683 (by decide +kernel) (by decide +kernel), aj_mem 1684 (by decide +kernel) (by decide +kernel), _, _, rfl⟩
set_option maxRecDepth 20000 in
theorem mvL_22 : aj_MV RL 22 yX12_works cX12_works 3 (some .int) 12 := ⟨⟨aj_mem 1686 (by decide +kernel) (by decide +kernel), aj_mem 142 (by decide +kernel) (by decide +kernel), aj_mem 1689 (by decide +kernel) (by decide +kernel), by decide +kernel, by decide⟩, aj_mem 1687 (by decide +kernel) (by decide +kernel), aj_mem 1688 (by decide +kernel) (by decide +kernel), _, _, rfl⟩
set_option maxRecDepth 20000 in
theorem mvX12_147 : aj_MV RX12 147 yX12_next cX12_next 2 none 12 := ⟨⟨aj_mem 1690 (by decide +kernel) (by decide +kernel), aj_mem 142 (by decide +kernel) (by decide +kernel), aj_mem 1693 (by decide +kernel) (by decide +kernel), by decide +kernel, by decide⟩, aj_mem 1692 (by decide +kernel) (by decide +kernel), aj_mem 62 (by decide +kernel) (by decide +kernel), _, _, rfl⟩
