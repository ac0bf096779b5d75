theorem dL_law_1436 : decode cL_law 1436 = .ok (.iaload, 1) := by decide +kernel
theorem dL_law_1437 : decode cL_law 1437 = .ok (.i2l, 1) := by decide +kernel
theorem dL_law_1438 : decode cL_law 1438 = .ok (.bipush 32, 2) := by decide +kernel
theorem dL_law_1440 : decode cL_law 1440 = .ok (.lshl, 1) := by decide +kernel
theorem dL_law_1441 : decode cL_law 1441 = .ok (.aload_n 0, 1) := by decide +kernel
theorem dL_law_1442 : decode cL_law 1442 = .ok (.iload_n 3, 1) := by decide +kernel
theorem dL_law_1443 : decode cL_law 1443 = .ok (.iconst 4, 1) := by decide +kernel
theorem dL_law_1444 : decode cL_law 1444 = .ok (.iadd, 1) := by decide +kernel
theorem dL_law_1445 : decode cL_law 1445 = .ok (.iaload, 1) := by decide +kernel
theorem dL_law_1446 : decode cL_law 1446 = .ok (.i2l, 1) := by decide +kernel
theorem dL_law_1447 : decode cL_law 1447 = .ok (.ldc2_w 193, 3) := by decide +kernel
theorem dL_law_1450 : decode cL_law 1450 = .ok (.land, 1) := by decide +kernel
theorem dL_law_1451 : decode cL_law 1451 = .ok (.lor, 1) := by decide +kernel
theorem dL_law_1452 : decode cL_law 1452 = .ok (.invokevirtual 195, 3) := by decide +kernel
theorem dL_law_1455 : decode cL_law 1455 = .ok (.aload_n 2, 1) := by decide +kernel
theorem dL_law_1456 : decode cL_law 1456 = .ok (.aload_n 0, 1) := by decide +kernel
theorem dL_law_1457 : decode cL_law 1457 = .ok (.iload_n 3, 1) := by decide +kernel
theorem dL_law_1458 : decode cL_law 1458 = .ok (.iconst 1, 1) := by decide +kernel
theorem dL_law_1459 : decode cL_law 1459 = .ok (.iadd, 1) := by decide +kernel
theorem dL_law_1460 : decode cL_law 1460 = .ok (.iaload, 1) := by decide +kernel
theorem dL_law_1461 : decode cL_law 1461 = .ok (.aload_n 0, 1) := by decide +kernel
theorem dL_law_1462 : decode cL_law 1462 = .ok (.iload_n 3, 1) := by decide +kernel
theorem dL_law_1463 : decode cL_law 1463 = .ok (.iconst 2, 1) := by decide +kernel
theorem dL_law_1464 : decode cL_law 1464 = .ok (.iadd, 1) := by decide +kernel
theorem dL_law_1465 : decode cL_law 1465 = .ok (.iaload, 1) := by decide +kernel
theorem dL_law_1466 : decode cL_law 1466 = .ok (.aload_n 0, 1) := by decide +kernel
theorem dL_law_1467 : decode cL_law 1467 = .ok (.iload_n 3, 1) := by decide +kernel
theorem dL_law_1468 : decode cL_law 1468 = .ok (.iconst 3, 1) := by decide +kernel
theorem dL_law_1469 : decode cL_law 1469 = .ok (.iadd, 1) := by decide +kernel
theorem dL_law_1470 : decode cL_law 1470 = .ok (.iaload, 1) := by decide +kernel
theorem dL_law_1471 : decode cL_law 1471 = .ok (.i2l, 1) := by decide +kernel
theorem dL_law_1472 : decode cL_law 1472 = .ok (.bipush 32, 2) := by decide +kernel
theorem dL_law_1474 : decode cL_law 1474 = .ok (.lshl, 1) := by decide +kernel
theorem dL_law_1475 : decode cL_law 1475 = .ok (.aload_n 0, 1) := by decide +kernel
theorem dL_law_1476 : decode cL_law 1476 = .ok (.iload_n 3, 1) := by decide +kernel
theorem dL_law_1477 : decode cL_law 1477 = .ok (.iconst 4, 1) := by decide +kernel
theorem dL_law_1478 : decode cL_law 1478 = .ok (.iadd, 1) := by decide +kernel
theorem dL_law_1479 : decode cL_law 1479 = .ok (.iaload, 1) := by decide +kernel
theorem dL_law_1480 : decode cL_law 1480 = .ok (.i2l, 1) := by decide +kernel
theorem dL_law_1481 : decode cL_law 1481 = .ok (.ldc2_w 193, 3) := by decide +kernel
theorem dL_law_1484 : decode cL_law 1484 = .ok (.land, 1) := by decide +kernel
theorem dL_law_1485 : decode cL_law 1485 = .ok (.lor, 1) := by decide +kernel
theorem dL_law_1486 : decode cL_law 1486 = .ok (.invokevirtual 199, 3) := by decide +kernel
theorem dL_law_1489 : decode cL_law 1489 = .ok (.lcmp, 1) := by decide +kernel
theorem dL_law_1490 : decode cL_law 1490 = .ok (.ifCond .eq 97, 3) := by decide +kernel
theorem dL_law_1493 : decode cL_law 1493 = .ok (.iconst 0, 1) := by decide +kernel
theorem dL_law_1494 : decode cL_law 1494 = .ok (.ireturn, 1) := by decide +kernel
theorem dL_law_1495 : decode cL_law 1495 = .ok (.aload_n 1, 1) := by decide +kernel
theorem dL_law_1496 : decode cL_law 1496 = .ok (.aload_n 0, 1) := by decide +kernel
theorem dL_law_1497 : decode cL_law 1497 = .ok (.iload_n 3, 1) := by decide +kernel
theorem dL_law_1498 : decode cL_law 1498 = .ok (.iconst 1, 1) := by decide +kernel
theorem dL_law_1499 : decode cL_law 1499 = .ok (.iadd, 1) := by decide +kernel
theorem dL_law_1500 : decode cL_law 1500 = .ok (.iaload, 1) := by decide +kernel
theorem dL_law_1501 : decode cL_law 1501 = .ok (.invokevirtual 200, 3) := by decide +kernel
theorem dL_law_1504 : decode cL_law 1504 = .ok (.aload_n 2, 1) := by decide +kernel
theorem dL_law_1505 : decode cL_law 1505 = .ok (.aload_n 0, 1) := by decide +kernel
theorem dL_law_1506 : decode cL_law 1506 = .ok (.iload_n 3, 1) := by decide +kernel
theorem dL_law_1507 : decode cL_law 1507 = .ok (.iconst 1, 1) := by decide +kernel
theorem dL_law_1508 : decode cL_law 1508 = .ok (.iadd, 1) := by decide +kernel
theorem dL_law_1509 : decode cL_law 1509 = .ok (.iaload, 1) := by decide +kernel
