/-! the law's instructions, 4 -/
theorem dl_1310 : decode code 1310 = .ok (.iload_n 3, 1) := by decide +kernel
theorem dl_1311 : decode code 1311 = .ok (.iconst 4, 1) := by decide +kernel
theorem dl_1312 : decode code 1312 = .ok (.iadd, 1) := by decide +kernel
theorem dl_1313 : decode code 1313 = .ok (.iaload, 1) := by decide +kernel
theorem dl_1314 : decode code 1314 = .ok (.invokevirtual 154, 3) := by decide +kernel
theorem dl_1317 : decode code 1317 = .ok (.if_icmp .eq 354, 3) := by decide +kernel
theorem dl_1320 : decode code 1320 = .ok (.iconst 0, 1) := by decide +kernel
theorem dl_1321 : decode code 1321 = .ok (.ireturn, 1) := by decide +kernel
theorem dl_1322 : decode code 1322 = .ok (.aload_n 1, 1) := by decide +kernel
theorem dl_1323 : decode code 1323 = .ok (.aload_n 0, 1) := by decide +kernel
theorem dl_1324 : decode code 1324 = .ok (.iload_n 3, 1) := by decide +kernel
theorem dl_1325 : decode code 1325 = .ok (.iconst 1, 1) := by decide +kernel
theorem dl_1326 : decode code 1326 = .ok (.iadd, 1) := by decide +kernel
theorem dl_1327 : decode code 1327 = .ok (.iaload, 1) := by decide +kernel
theorem dl_1328 : decode code 1328 = .ok (.aload_n 0, 1) := by decide +kernel
theorem dl_1329 : decode code 1329 = .ok (.iload_n 3, 1) := by decide +kernel
theorem dl_1330 : decode code 1330 = .ok (.iconst 2, 1) := by decide +kernel
theorem dl_1331 : decode code 1331 = .ok (.iadd, 1) := by decide +kernel
theorem dl_1332 : decode code 1332 = .ok (.iaload, 1) := by decide +kernel
theorem dl_1333 : decode code 1333 = .ok (.aload_n 0, 1) := by decide +kernel
theorem dl_1334 : decode code 1334 = .ok (.iload_n 3, 1) := by decide +kernel
theorem dl_1335 : decode code 1335 = .ok (.iconst 3, 1) := by decide +kernel
theorem dl_1336 : decode code 1336 = .ok (.iadd, 1) := by decide +kernel
theorem dl_1337 : decode code 1337 = .ok (.iaload, 1) := by decide +kernel
theorem dl_1338 : decode code 1338 = .ok (.aload_n 0, 1) := by decide +kernel
theorem dl_1339 : decode code 1339 = .ok (.iload_n 3, 1) := by decide +kernel
theorem dl_1340 : decode code 1340 = .ok (.iconst 4, 1) := by decide +kernel
theorem dl_1341 : decode code 1341 = .ok (.iadd, 1) := by decide +kernel
theorem dl_1342 : decode code 1342 = .ok (.iaload, 1) := by decide +kernel
theorem dl_1343 : decode code 1343 = .ok (.aload_n 0, 1) := by decide +kernel
theorem dl_1344 : decode code 1344 = .ok (.iload_n 3, 1) := by decide +kernel
theorem dl_1345 : decode code 1345 = .ok (.iconst 5, 1) := by decide +kernel
theorem dl_1346 : decode code 1346 = .ok (.iadd, 1) := by decide +kernel
theorem dl_1347 : decode code 1347 = .ok (.iaload, 1) := by decide +kernel
theorem dl_1348 : decode code 1348 = .ok (.invokevirtual 155, 3) := by decide +kernel
theorem dl_1351 : decode code 1351 = .ok (.aload_n 2, 1) := by decide +kernel
theorem dl_1352 : decode code 1352 = .ok (.aload_n 0, 1) := by decide +kernel
theorem dl_1353 : decode code 1353 = .ok (.iload_n 3, 1) := by decide +kernel
theorem dl_1354 : decode code 1354 = .ok (.iconst 1, 1) := by decide +kernel
theorem dl_1355 : decode code 1355 = .ok (.iadd, 1) := by decide +kernel
theorem dl_1356 : decode code 1356 = .ok (.iaload, 1) := by decide +kernel
theorem dl_1357 : decode code 1357 = .ok (.aload_n 0, 1) := by decide +kernel
theorem dl_1358 : decode code 1358 = .ok (.iload_n 3, 1) := by decide +kernel
theorem dl_1359 : decode code 1359 = .ok (.iconst 2, 1) := by decide +kernel
theorem dl_1360 : decode code 1360 = .ok (.iadd, 1) := by decide +kernel
theorem dl_1361 : decode code 1361 = .ok (.iaload, 1) := by decide +kernel
theorem dl_1362 : decode code 1362 = .ok (.aload_n 0, 1) := by decide +kernel
theorem dl_1363 : decode code 1363 = .ok (.iload_n 3, 1) := by decide +kernel
theorem dl_1364 : decode code 1364 = .ok (.iconst 3, 1) := by decide +kernel
theorem dl_1365 : decode code 1365 = .ok (.iadd, 1) := by decide +kernel
theorem dl_1366 : decode code 1366 = .ok (.iaload, 1) := by decide +kernel
theorem dl_1367 : decode code 1367 = .ok (.aload_n 0, 1) := by decide +kernel
theorem dl_1368 : decode code 1368 = .ok (.iload_n 3, 1) := by decide +kernel
theorem dl_1369 : decode code 1369 = .ok (.iconst 4, 1) := by decide +kernel
theorem dl_1370 : decode code 1370 = .ok (.iadd, 1) := by decide +kernel
theorem dl_1371 : decode code 1371 = .ok (.iaload, 1) := by decide +kernel
theorem dl_1372 : decode code 1372 = .ok (.aload_n 0, 1) := by decide +kernel
theorem dl_1373 : decode code 1373 = .ok (.iload_n 3, 1) := by decide +kernel
theorem dl_1374 : decode code 1374 = .ok (.iconst 5, 1) := by decide +kernel
theorem dl_1375 : decode code 1375 = .ok (.iadd, 1) := by decide +kernel
theorem dl_1376 : decode code 1376 = .ok (.iaload, 1) := by decide +kernel
theorem dl_1377 : decode code 1377 = .ok (.invokevirtual 158, 3) := by decide +kernel
theorem dl_1380 : decode code 1380 = .ok (.if_icmp .eq 291, 3) := by decide +kernel
theorem dl_1383 : decode code 1383 = .ok (.iconst 0, 1) := by decide +kernel
theorem dl_1384 : decode code 1384 = .ok (.ireturn, 1) := by decide +kernel
theorem dl_1385 : decode code 1385 = .ok (.aload_n 1, 1) := by decide +kernel
theorem dl_1386 : decode code 1386 = .ok (.aload_n 0, 1) := by decide +kernel
theorem dl_1387 : decode code 1387 = .ok (.iload_n 3, 1) := by decide +kernel
theorem dl_1388 : decode code 1388 = .ok (.iconst 1, 1) := by decide +kernel
theorem dl_1389 : decode code 1389 = .ok (.iadd, 1) := by decide +kernel
theorem dl_1390 : decode code 1390 = .ok (.iaload, 1) := by decide +kernel
theorem dl_1391 : decode code 1391 = .ok (.aload_n 0, 1) := by decide +kernel
theorem dl_1392 : decode code 1392 = .ok (.iload_n 3, 1) := by decide +kernel
theorem dl_1393 : decode code 1393 = .ok (.iconst 2, 1) := by decide +kernel
theorem dl_1394 : decode code 1394 = .ok (.iadd, 1) := by decide +kernel
theorem dl_1395 : decode code 1395 = .ok (.iaload, 1) := by decide +kernel
theorem dl_1396 : decode code 1396 = .ok (.aload_n 0, 1) := by decide +kernel
theorem dl_1397 : decode code 1397 = .ok (.iload_n 3, 1) := by decide +kernel
theorem dl_1398 : decode code 1398 = .ok (.iconst 3, 1) := by decide +kernel
theorem dl_1399 : decode code 1399 = .ok (.iadd, 1) := by decide +kernel
theorem dl_1400 : decode code 1400 = .ok (.iaload, 1) := by decide +kernel
theorem dl_1401 : decode code 1401 = .ok (.invokevirtual 159, 3) := by decide +kernel
theorem dl_1404 : decode code 1404 = .ok (.aload_n 2, 1) := by decide +kernel
theorem dl_1405 : decode code 1405 = .ok (.aload_n 0, 1) := by decide +kernel
theorem dl_1406 : decode code 1406 = .ok (.iload_n 3, 1) := by decide +kernel
theorem dl_1407 : decode code 1407 = .ok (.iconst 1, 1) := by decide +kernel
theorem dl_1408 : decode code 1408 = .ok (.iadd, 1) := by decide +kernel
theorem dl_1409 : decode code 1409 = .ok (.iaload, 1) := by decide +kernel
theorem dl_1410 : decode code 1410 = .ok (.aload_n 0, 1) := by decide +kernel
theorem dl_1411 : decode code 1411 = .ok (.iload_n 3, 1) := by decide +kernel
theorem dl_1412 : decode code 1412 = .ok (.iconst 2, 1) := by decide +kernel
theorem dl_1413 : decode code 1413 = .ok (.iadd, 1) := by decide +kernel
theorem dl_1414 : decode code 1414 = .ok (.iaload, 1) := by decide +kernel
theorem dl_1415 : decode code 1415 = .ok (.aload_n 0, 1) := by decide +kernel
theorem dl_1416 : decode code 1416 = .ok (.iload_n 3, 1) := by decide +kernel
theorem dl_1417 : decode code 1417 = .ok (.iconst 3, 1) := by decide +kernel
theorem dl_1418 : decode code 1418 = .ok (.iadd, 1) := by decide +kernel
theorem dl_1419 : decode code 1419 = .ok (.iaload, 1) := by decide +kernel
theorem dl_1420 : decode code 1420 = .ok (.invokevirtual 163, 3) := by decide +kernel
theorem dl_1423 : decode code 1423 = .ok (.lcmp, 1) := by decide +kernel
theorem dl_1424 : decode code 1424 = .ok (.ifCond .eq 247, 3) := by decide +kernel
theorem dl_1427 : decode code 1427 = .ok (.iconst 0, 1) := by decide +kernel
theorem dl_1428 : decode code 1428 = .ok (.ireturn, 1) := by decide +kernel
theorem dl_1429 : decode code 1429 = .ok (.aload_n 1, 1) := by decide +kernel
theorem dl_1430 : decode code 1430 = .ok (.aload_n 0, 1) := by decide +kernel
theorem dl_1431 : decode code 1431 = .ok (.iload_n 3, 1) := by decide +kernel
theorem dl_1432 : decode code 1432 = .ok (.iconst 1, 1) := by decide +kernel
theorem dl_1433 : decode code 1433 = .ok (.iadd, 1) := by decide +kernel
theorem dl_1434 : decode code 1434 = .ok (.iaload, 1) := by decide +kernel
theorem dl_1435 : decode code 1435 = .ok (.invokevirtual 164, 3) := by decide +kernel
theorem dl_1438 : decode code 1438 = .ok (.aload_n 2, 1) := by decide +kernel
theorem dl_1439 : decode code 1439 = .ok (.aload_n 0, 1) := by decide +kernel
theorem dl_1440 : decode code 1440 = .ok (.iload_n 3, 1) := by decide +kernel
theorem dl_1441 : decode code 1441 = .ok (.iconst 1, 1) := by decide +kernel
theorem dl_1442 : decode code 1442 = .ok (.iadd, 1) := by decide +kernel
theorem dl_1443 : decode code 1443 = .ok (.iaload, 1) := by decide +kernel
theorem dl_1444 : decode code 1444 = .ok (.invokevirtual 167, 3) := by decide +kernel
theorem dl_1447 : decode code 1447 = .ok (.if_icmp .eq 224, 3) := by decide +kernel
theorem dl_1450 : decode code 1450 = .ok (.iconst 0, 1) := by decide +kernel
theorem dl_1451 : decode code 1451 = .ok (.ireturn, 1) := by decide +kernel
theorem dl_1452 : decode code 1452 = .ok (.aload_n 1, 1) := by decide +kernel
theorem dl_1453 : decode code 1453 = .ok (.aload_n 0, 1) := by decide +kernel
theorem dl_1454 : decode code 1454 = .ok (.iload_n 3, 1) := by decide +kernel
theorem dl_1455 : decode code 1455 = .ok (.iconst 1, 1) := by decide +kernel
theorem dl_1456 : decode code 1456 = .ok (.iadd, 1) := by decide +kernel
theorem dl_1457 : decode code 1457 = .ok (.iaload, 1) := by decide +kernel
theorem dl_1458 : decode code 1458 = .ok (.aload_n 0, 1) := by decide +kernel
theorem dl_1459 : decode code 1459 = .ok (.iload_n 3, 1) := by decide +kernel
theorem dl_1460 : decode code 1460 = .ok (.iconst 2, 1) := by decide +kernel
theorem dl_1461 : decode code 1461 = .ok (.iadd, 1) := by decide +kernel
theorem dl_1462 : decode code 1462 = .ok (.iaload, 1) := by decide +kernel
theorem dl_1463 : decode code 1463 = .ok (.aload_n 0, 1) := by decide +kernel
theorem dl_1464 : decode code 1464 = .ok (.iload_n 3, 1) := by decide +kernel
theorem dl_1465 : decode code 1465 = .ok (.iconst 3, 1) := by decide +kernel
theorem dl_1466 : decode code 1466 = .ok (.iadd, 1) := by decide +kernel
theorem dl_1467 : decode code 1467 = .ok (.iaload, 1) := by decide +kernel
theorem dl_1468 : decode code 1468 = .ok (.invokevirtual 168, 3) := by decide +kernel
theorem dl_1471 : decode code 1471 = .ok (.aload_n 2, 1) := by decide +kernel
theorem dl_1472 : decode code 1472 = .ok (.aload_n 0, 1) := by decide +kernel
theorem dl_1473 : decode code 1473 = .ok (.iload_n 3, 1) := by decide +kernel
theorem dl_1474 : decode code 1474 = .ok (.iconst 1, 1) := by decide +kernel
theorem dl_1475 : decode code 1475 = .ok (.iadd, 1) := by decide +kernel
theorem dl_1476 : decode code 1476 = .ok (.iaload, 1) := by decide +kernel
theorem dl_1477 : decode code 1477 = .ok (.aload_n 0, 1) := by decide +kernel
theorem dl_1478 : decode code 1478 = .ok (.iload_n 3, 1) := by decide +kernel
theorem dl_1479 : decode code 1479 = .ok (.iconst 2, 1) := by decide +kernel
theorem dl_1480 : decode code 1480 = .ok (.iadd, 1) := by decide +kernel
theorem dl_1481 : decode code 1481 = .ok (.iaload, 1) := by decide +kernel
theorem dl_1482 : decode code 1482 = .ok (.aload_n 0, 1) := by decide +kernel
theorem dl_1483 : decode code 1483 = .ok (.iload_n 3, 1) := by decide +kernel
theorem dl_1484 : decode code 1484 = .ok (.iconst 3, 1) := by decide +kernel
theorem dl_1485 : decode code 1485 = .ok (.iadd, 1) := by decide +kernel
theorem dl_1486 : decode code 1486 = .ok (.iaload, 1) := by decide +kernel
theorem dl_1487 : decode code 1487 = .ok (.invokevirtual 171, 3) := by decide +kernel
theorem dl_1490 : decode code 1490 = .ok (.if_icmp .eq 181, 3) := by decide +kernel
theorem dl_1493 : decode code 1493 = .ok (.iconst 0, 1) := by decide +kernel
theorem dl_1494 : decode code 1494 = .ok (.ireturn, 1) := by decide +kernel
theorem dl_1495 : decode code 1495 = .ok (.aload_n 1, 1) := by decide +kernel
theorem dl_1496 : decode code 1496 = .ok (.aload_n 0, 1) := by decide +kernel
theorem dl_1497 : decode code 1497 = .ok (.iload_n 3, 1) := by decide +kernel
theorem dl_1498 : decode code 1498 = .ok (.iconst 1, 1) := by decide +kernel
theorem dl_1499 : decode code 1499 = .ok (.iadd, 1) := by decide +kernel
theorem dl_1500 : decode code 1500 = .ok (.iaload, 1) := by decide +kernel
theorem dl_1501 : decode code 1501 = .ok (.aload_n 0, 1) := by decide +kernel
theorem dl_1502 : decode code 1502 = .ok (.iload_n 3, 1) := by decide +kernel
theorem dl_1503 : decode code 1503 = .ok (.iconst 2, 1) := by decide +kernel
theorem dl_1504 : decode code 1504 = .ok (.iadd, 1) := by decide +kernel
theorem dl_1505 : decode code 1505 = .ok (.iaload, 1) := by decide +kernel
theorem dl_1506 : decode code 1506 = .ok (.aload_n 0, 1) := by decide +kernel
theorem dl_1507 : decode code 1507 = .ok (.iload_n 3, 1) := by decide +kernel
theorem dl_1508 : decode code 1508 = .ok (.iconst 3, 1) := by decide +kernel
theorem dl_1509 : decode code 1509 = .ok (.iadd, 1) := by decide +kernel
theorem dl_1510 : decode code 1510 = .ok (.iaload, 1) := by decide +kernel
theorem dl_1511 : decode code 1511 = .ok (.i2l, 1) := by decide +kernel
theorem dl_1512 : decode code 1512 = .ok (.bipush 32, 2) := by decide +kernel
theorem dl_1514 : decode code 1514 = .ok (.lshl, 1) := by decide +kernel
theorem dl_1515 : decode code 1515 = .ok (.aload_n 0, 1) := by decide +kernel
theorem dl_1516 : decode code 1516 = .ok (.iload_n 3, 1) := by decide +kernel
theorem dl_1517 : decode code 1517 = .ok (.iconst 4, 1) := by decide +kernel
theorem dl_1518 : decode code 1518 = .ok (.iadd, 1) := by decide +kernel
theorem dl_1519 : decode code 1519 = .ok (.iaload, 1) := by decide +kernel
theorem dl_1520 : decode code 1520 = .ok (.i2l, 1) := by decide +kernel
theorem dl_1521 : decode code 1521 = .ok (.ldc2_w 172, 3) := by decide +kernel
theorem dl_1524 : decode code 1524 = .ok (.land, 1) := by decide +kernel
theorem dl_1525 : decode code 1525 = .ok (.lor, 1) := by decide +kernel
theorem dl_1526 : decode code 1526 = .ok (.invokevirtual 174, 3) := by decide +kernel
theorem dl_1529 : decode code 1529 = .ok (.aload_n 2, 1) := by decide +kernel
theorem dl_1530 : decode code 1530 = .ok (.aload_n 0, 1) := by decide +kernel
theorem dl_1531 : decode code 1531 = .ok (.iload_n 3, 1) := by decide +kernel
theorem dl_1532 : decode code 1532 = .ok (.iconst 1, 1) := by decide +kernel
theorem dl_1533 : decode code 1533 = .ok (.iadd, 1) := by decide +kernel
theorem dl_1534 : decode code 1534 = .ok (.iaload, 1) := by decide +kernel
theorem dl_1535 : decode code 1535 = .ok (.aload_n 0, 1) := by decide +kernel
theorem dl_1536 : decode code 1536 = .ok (.iload_n 3, 1) := by decide +kernel
theorem dl_1537 : decode code 1537 = .ok (.iconst 2, 1) := by decide +kernel
theorem dl_1538 : decode code 1538 = .ok (.iadd, 1) := by decide +kernel
theorem dl_1539 : decode code 1539 = .ok (.iaload, 1) := by decide +kernel
theorem dl_1540 : decode code 1540 = .ok (.aload_n 0, 1) := by decide +kernel
theorem dl_1541 : decode code 1541 = .ok (.iload_n 3, 1) := by decide +kernel
theorem dl_1542 : decode code 1542 = .ok (.iconst 3, 1) := by decide +kernel
theorem dl_1543 : decode code 1543 = .ok (.iadd, 1) := by decide +kernel
theorem dl_1544 : decode code 1544 = .ok (.iaload, 1) := by decide +kernel
theorem dl_1545 : decode code 1545 = .ok (.i2l, 1) := by decide +kernel
theorem dl_1546 : decode code 1546 = .ok (.bipush 32, 2) := by decide +kernel
theorem dl_1548 : decode code 1548 = .ok (.lshl, 1) := by decide +kernel
theorem dl_1549 : decode code 1549 = .ok (.aload_n 0, 1) := by decide +kernel
theorem dl_1550 : decode code 1550 = .ok (.iload_n 3, 1) := by decide +kernel
theorem dl_1551 : decode code 1551 = .ok (.iconst 4, 1) := by decide +kernel
theorem dl_1552 : decode code 1552 = .ok (.iadd, 1) := by decide +kernel
theorem dl_1553 : decode code 1553 = .ok (.iaload, 1) := by decide +kernel
theorem dl_1554 : decode code 1554 = .ok (.i2l, 1) := by decide +kernel
theorem dl_1555 : decode code 1555 = .ok (.ldc2_w 172, 3) := by decide +kernel
theorem dl_1558 : decode code 1558 = .ok (.land, 1) := by decide +kernel
theorem dl_1559 : decode code 1559 = .ok (.lor, 1) := by decide +kernel
theorem dl_1560 : decode code 1560 = .ok (.invokevirtual 178, 3) := by decide +kernel
theorem dl_1563 : decode code 1563 = .ok (.lcmp, 1) := by decide +kernel
theorem dl_1564 : decode code 1564 = .ok (.ifCond .eq 107, 3) := by decide +kernel
theorem dl_1567 : decode code 1567 = .ok (.iconst 0, 1) := by decide +kernel
theorem dl_1568 : decode code 1568 = .ok (.ireturn, 1) := by decide +kernel
theorem dl_1569 : decode code 1569 = .ok (.aload_n 1, 1) := by decide +kernel
theorem dl_1570 : decode code 1570 = .ok (.aload_n 0, 1) := by decide +kernel
theorem dl_1571 : decode code 1571 = .ok (.iload_n 3, 1) := by decide +kernel
theorem dl_1572 : decode code 1572 = .ok (.iconst 1, 1) := by decide +kernel
theorem dl_1573 : decode code 1573 = .ok (.iadd, 1) := by decide +kernel
theorem dl_1574 : decode code 1574 = .ok (.iaload, 1) := by decide +kernel
theorem dl_1575 : decode code 1575 = .ok (.aload_n 0, 1) := by decide +kernel
theorem dl_1576 : decode code 1576 = .ok (.iload_n 3, 1) := by decide +kernel
theorem dl_1577 : decode code 1577 = .ok (.iconst 2, 1) := by decide +kernel
theorem dl_1578 : decode code 1578 = .ok (.iadd, 1) := by decide +kernel
theorem dl_1579 : decode code 1579 = .ok (.iaload, 1) := by decide +kernel
theorem dl_1580 : decode code 1580 = .ok (.invokevirtual 179, 3) := by decide +kernel
theorem dl_1583 : decode code 1583 = .ok (.aload_n 2, 1) := by decide +kernel
theorem dl_1584 : decode code 1584 = .ok (.aload_n 0, 1) := by decide +kernel
theorem dl_1585 : decode code 1585 = .ok (.iload_n 3, 1) := by decide +kernel
theorem dl_1586 : decode code 1586 = .ok (.iconst 1, 1) := by decide +kernel
theorem dl_1587 : decode code 1587 = .ok (.iadd, 1) := by decide +kernel
theorem dl_1588 : decode code 1588 = .ok (.iaload, 1) := by decide +kernel
theorem dl_1589 : decode code 1589 = .ok (.aload_n 0, 1) := by decide +kernel
theorem dl_1590 : decode code 1590 = .ok (.iload_n 3, 1) := by decide +kernel
theorem dl_1591 : decode code 1591 = .ok (.iconst 2, 1) := by decide +kernel
theorem dl_1592 : decode code 1592 = .ok (.iadd, 1) := by decide +kernel
theorem dl_1593 : decode code 1593 = .ok (.iaload, 1) := by decide +kernel
theorem dl_1594 : decode code 1594 = .ok (.invokevirtual 182, 3) := by decide +kernel
theorem dl_1597 : decode code 1597 = .ok (.if_icmp .eq 74, 3) := by decide +kernel
theorem dl_1600 : decode code 1600 = .ok (.iconst 0, 1) := by decide +kernel
theorem dl_1601 : decode code 1601 = .ok (.ireturn, 1) := by decide +kernel
theorem dl_1602 : decode code 1602 = .ok (.aload_n 1, 1) := by decide +kernel
theorem dl_1603 : decode code 1603 = .ok (.aload_n 0, 1) := by decide +kernel
theorem dl_1604 : decode code 1604 = .ok (.iload_n 3, 1) := by decide +kernel
theorem dl_1605 : decode code 1605 = .ok (.iconst 1, 1) := by decide +kernel
theorem dl_1606 : decode code 1606 = .ok (.iadd, 1) := by decide +kernel
theorem dl_1607 : decode code 1607 = .ok (.iaload, 1) := by decide +kernel
theorem dl_1608 : decode code 1608 = .ok (.invokevirtual 183, 3) := by decide +kernel
theorem dl_1611 : decode code 1611 = .ok (.aload_n 2, 1) := by decide +kernel
theorem dl_1612 : decode code 1612 = .ok (.aload_n 0, 1) := by decide +kernel
theorem dl_1613 : decode code 1613 = .ok (.iload_n 3, 1) := by decide +kernel
theorem dl_1614 : decode code 1614 = .ok (.iconst 1, 1) := by decide +kernel
theorem dl_1615 : decode code 1615 = .ok (.iadd, 1) := by decide +kernel
theorem dl_1616 : decode code 1616 = .ok (.iaload, 1) := by decide +kernel
theorem dl_1617 : decode code 1617 = .ok (.invokevirtual 186, 3) := by decide +kernel
theorem dl_1620 : decode code 1620 = .ok (.if_icmp .eq 51, 3) := by decide +kernel
theorem dl_1623 : decode code 1623 = .ok (.iconst 0, 1) := by decide +kernel
theorem dl_1624 : decode code 1624 = .ok (.ireturn, 1) := by decide +kernel
theorem dl_1625 : decode code 1625 = .ok (.aload_n 1, 1) := by decide +kernel
theorem dl_1626 : decode code 1626 = .ok (.aload_n 0, 1) := by decide +kernel
theorem dl_1627 : decode code 1627 = .ok (.iload_n 3, 1) := by decide +kernel
theorem dl_1628 : decode code 1628 = .ok (.iconst 1, 1) := by decide +kernel
theorem dl_1629 : decode code 1629 = .ok (.iadd, 1) := by decide +kernel
theorem dl_1630 : decode code 1630 = .ok (.iaload, 1) := by decide +kernel
theorem dl_1631 : decode code 1631 = .ok (.invokevirtual 187, 3) := by decide +kernel
theorem dl_1634 : decode code 1634 = .ok (.aload_n 2, 1) := by decide +kernel
theorem dl_1635 : decode code 1635 = .ok (.aload_n 0, 1) := by decide +kernel
theorem dl_1636 : decode code 1636 = .ok (.iload_n 3, 1) := by decide +kernel
theorem dl_1637 : decode code 1637 = .ok (.iconst 1, 1) := by decide +kernel
theorem dl_1638 : decode code 1638 = .ok (.iadd, 1) := by decide +kernel
theorem dl_1639 : decode code 1639 = .ok (.iaload, 1) := by decide +kernel
theorem dl_1640 : decode code 1640 = .ok (.invokevirtual 190, 3) := by decide +kernel
theorem dl_1643 : decode code 1643 = .ok (.if_icmp .eq 28, 3) := by decide +kernel
theorem dl_1646 : decode code 1646 = .ok (.iconst 0, 1) := by decide +kernel
theorem dl_1647 : decode code 1647 = .ok (.ireturn, 1) := by decide +kernel
theorem dl_1648 : decode code 1648 = .ok (.aload_n 1, 1) := by decide +kernel
theorem dl_1649 : decode code 1649 = .ok (.aload_n 0, 1) := by decide +kernel
theorem dl_1650 : decode code 1650 = .ok (.iload_n 3, 1) := by decide +kernel
theorem dl_1651 : decode code 1651 = .ok (.iconst 1, 1) := by decide +kernel
theorem dl_1652 : decode code 1652 = .ok (.iadd, 1) := by decide +kernel
theorem dl_1653 : decode code 1653 = .ok (.iaload, 1) := by decide +kernel
theorem dl_1654 : decode code 1654 = .ok (.invokevirtual 191, 3) := by decide +kernel
theorem dl_1657 : decode code 1657 = .ok (.aload_n 2, 1) := by decide +kernel
theorem dl_1658 : decode code 1658 = .ok (.aload_n 0, 1) := by decide +kernel
theorem dl_1659 : decode code 1659 = .ok (.iload_n 3, 1) := by decide +kernel
theorem dl_1660 : decode code 1660 = .ok (.iconst 1, 1) := by decide +kernel
theorem dl_1661 : decode code 1661 = .ok (.iadd, 1) := by decide +kernel
theorem dl_1662 : decode code 1662 = .ok (.iaload, 1) := by decide +kernel
theorem dl_1663 : decode code 1663 = .ok (.invokevirtual 194, 3) := by decide +kernel
theorem dl_1666 : decode code 1666 = .ok (.if_icmp .eq 5, 3) := by decide +kernel
theorem dl_1669 : decode code 1669 = .ok (.iconst 0, 1) := by decide +kernel
theorem dl_1670 : decode code 1670 = .ok (.ireturn, 1) := by decide +kernel
theorem dl_1671 : decode code 1671 = .ok (.iinc 3 6, 3) := by decide +kernel
theorem dl_1674 : decode code 1674 = .ok (.goto (-1656), 3) := by decide +kernel
theorem dl_1677 : decode code 1677 = .ok (.iconst 1, 1) := by decide +kernel
theorem dl_1678 : decode code 1678 = .ok (.ireturn, 1) := by decide +kernel
