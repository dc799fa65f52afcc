theorem dL_law_1250 : decode cL_law 1250 = .ok (.ireturn, 1) := by decide +kernel
theorem dL_law_1251 : decode cL_law 1251 = .ok (.iload 5, 2) := by decide +kernel
theorem dL_law_1253 : decode cL_law 1253 = .ok (.ifCond .ne 15, 3) := by decide +kernel
theorem dL_law_1256 : decode cL_law 1256 = .ok (.aload_n 3, 1) := by decide +kernel
theorem dL_law_1257 : decode cL_law 1257 = .ok (.iconst 0, 1) := by decide +kernel
theorem dL_law_1258 : decode cL_law 1258 = .ok (.laload, 1) := by decide +kernel
theorem dL_law_1259 : decode cL_law 1259 = .ok (.iload 6, 2) := by decide +kernel
theorem dL_law_1261 : decode cL_law 1261 = .ok (.i2l, 1) := by decide +kernel
theorem dL_law_1262 : decode cL_law 1262 = .ok (.lcmp, 1) := by decide +kernel
theorem dL_law_1263 : decode cL_law 1263 = .ok (.ifCond .eq 5, 3) := by decide +kernel
theorem dL_law_1266 : decode cL_law 1266 = .ok (.iconst 0, 1) := by decide +kernel
theorem dL_law_1267 : decode cL_law 1267 = .ok (.ireturn, 1) := by decide +kernel
theorem dL_law_1268 : decode cL_law 1268 = .ok (.goto 821, 3) := by decide +kernel
theorem dL_law_1271 : decode cL_law 1271 = .ok (.aload_n 1, 1) := by decide +kernel
theorem dL_law_1272 : decode cL_law 1272 = .ok (.aload_n 0, 1) := by decide +kernel
theorem dL_law_1273 : decode cL_law 1273 = .ok (.iload 4, 2) := by decide +kernel
theorem dL_law_1275 : decode cL_law 1275 = .ok (.iconst 1, 1) := by decide +kernel
theorem dL_law_1276 : decode cL_law 1276 = .ok (.iadd, 1) := by decide +kernel
theorem dL_law_1277 : decode cL_law 1277 = .ok (.iaload, 1) := by decide +kernel
theorem dL_law_1278 : decode cL_law 1278 = .ok (.aload_n 0, 1) := by decide +kernel
theorem dL_law_1279 : decode cL_law 1279 = .ok (.iload 4, 2) := by decide +kernel
theorem dL_law_1281 : decode cL_law 1281 = .ok (.iconst 2, 1) := by decide +kernel
theorem dL_law_1282 : decode cL_law 1282 = .ok (.iadd, 1) := by decide +kernel
theorem dL_law_1283 : decode cL_law 1283 = .ok (.iaload, 1) := by decide +kernel
theorem dL_law_1284 : decode cL_law 1284 = .ok (.aload_n 0, 1) := by decide +kernel
theorem dL_law_1285 : decode cL_law 1285 = .ok (.iload 4, 2) := by decide +kernel
theorem dL_law_1287 : decode cL_law 1287 = .ok (.iconst 3, 1) := by decide +kernel
theorem dL_law_1288 : decode cL_law 1288 = .ok (.iadd, 1) := by decide +kernel
theorem dL_law_1289 : decode cL_law 1289 = .ok (.iaload, 1) := by decide +kernel
theorem dL_law_1290 : decode cL_law 1290 = .ok (.i2l, 1) := by decide +kernel
theorem dL_law_1291 : decode cL_law 1291 = .ok (.bipush 32, 2) := by decide +kernel
theorem dL_law_1293 : decode cL_law 1293 = .ok (.lshl, 1) := by decide +kernel
theorem dL_law_1294 : decode cL_law 1294 = .ok (.aload_n 0, 1) := by decide +kernel
theorem dL_law_1295 : decode cL_law 1295 = .ok (.iload 4, 2) := by decide +kernel
theorem dL_law_1297 : decode cL_law 1297 = .ok (.iconst 4, 1) := by decide +kernel
theorem dL_law_1298 : decode cL_law 1298 = .ok (.iadd, 1) := by decide +kernel
theorem dL_law_1299 : decode cL_law 1299 = .ok (.iaload, 1) := by decide +kernel
theorem dL_law_1300 : decode cL_law 1300 = .ok (.i2l, 1) := by decide +kernel
theorem dL_law_1301 : decode cL_law 1301 = .ok (.ldc2_w 92, 3) := by decide +kernel
theorem dL_law_1304 : decode cL_law 1304 = .ok (.land, 1) := by decide +kernel
theorem dL_law_1305 : decode cL_law 1305 = .ok (.lor, 1) := by decide +kernel
theorem dL_law_1306 : decode cL_law 1306 = .ok (.aload_n 0, 1) := by decide +kernel
theorem dL_law_1307 : decode cL_law 1307 = .ok (.iload 4, 2) := by decide +kernel
theorem dL_law_1309 : decode cL_law 1309 = .ok (.iconst 5, 1) := by decide +kernel
theorem dL_law_1310 : decode cL_law 1310 = .ok (.iadd, 1) := by decide +kernel
theorem dL_law_1311 : decode cL_law 1311 = .ok (.iaload, 1) := by decide +kernel
theorem dL_law_1312 : decode cL_law 1312 = .ok (.aload_n 0, 1) := by decide +kernel
theorem dL_law_1313 : decode cL_law 1313 = .ok (.iload 4, 2) := by decide +kernel
theorem dL_law_1315 : decode cL_law 1315 = .ok (.bipush 6, 2) := by decide +kernel
theorem dL_law_1317 : decode cL_law 1317 = .ok (.iadd, 1) := by decide +kernel
theorem dL_law_1318 : decode cL_law 1318 = .ok (.iaload, 1) := by decide +kernel
theorem dL_law_1319 : decode cL_law 1319 = .ok (.aload_n 3, 1) := by decide +kernel
theorem dL_law_1320 : decode cL_law 1320 = .ok (.invokestatic 153, 3) := by decide +kernel
theorem dL_law_1323 : decode cL_law 1323 = .ok (.istore 5, 2) := by decide +kernel
theorem dL_law_1325 : decode cL_law 1325 = .ok (.aload_n 2, 1) := by decide +kernel
theorem dL_law_1326 : decode cL_law 1326 = .ok (.aload_n 0, 1) := by decide +kernel
theorem dL_law_1327 : decode cL_law 1327 = .ok (.iload 4, 2) := by decide +kernel
theorem dL_law_1329 : decode cL_law 1329 = .ok (.iconst 1, 1) := by decide +kernel
theorem dL_law_1330 : decode cL_law 1330 = .ok (.iadd, 1) := by decide +kernel
theorem dL_law_1331 : decode cL_law 1331 = .ok (.iaload, 1) := by decide +kernel
theorem dL_law_1332 : decode cL_law 1332 = .ok (.aload_n 0, 1) := by decide +kernel
theorem dL_law_1333 : decode cL_law 1333 = .ok (.iload 4, 2) := by decide +kernel
theorem dL_law_1335 : decode cL_law 1335 = .ok (.iconst 2, 1) := by decide +kernel
theorem dL_law_1336 : decode cL_law 1336 = .ok (.iadd, 1) := by decide +kernel
theorem dL_law_1337 : decode cL_law 1337 = .ok (.iaload, 1) := by decide +kernel
theorem dL_law_1338 : decode cL_law 1338 = .ok (.aload_n 0, 1) := by decide +kernel
theorem dL_law_1339 : decode cL_law 1339 = .ok (.iload 4, 2) := by decide +kernel
theorem dL_law_1341 : decode cL_law 1341 = .ok (.iconst 3, 1) := by decide +kernel
theorem dL_law_1342 : decode cL_law 1342 = .ok (.iadd, 1) := by decide +kernel
theorem dL_law_1343 : decode cL_law 1343 = .ok (.iaload, 1) := by decide +kernel
theorem dL_law_1344 : decode cL_law 1344 = .ok (.i2l, 1) := by decide +kernel
theorem dL_law_1345 : decode cL_law 1345 = .ok (.bipush 32, 2) := by decide +kernel
theorem dL_law_1347 : decode cL_law 1347 = .ok (.lshl, 1) := by decide +kernel
theorem dL_law_1348 : decode cL_law 1348 = .ok (.aload_n 0, 1) := by decide +kernel
theorem dL_law_1349 : decode cL_law 1349 = .ok (.iload 4, 2) := by decide +kernel
theorem dL_law_1351 : decode cL_law 1351 = .ok (.iconst 4, 1) := by decide +kernel
theorem dL_law_1352 : decode cL_law 1352 = .ok (.iadd, 1) := by decide +kernel
theorem dL_law_1353 : decode cL_law 1353 = .ok (.iaload, 1) := by decide +kernel
theorem dL_law_1354 : decode cL_law 1354 = .ok (.i2l, 1) := by decide +kernel
theorem dL_law_1355 : decode cL_law 1355 = .ok (.ldc2_w 92, 3) := by decide +kernel
theorem dL_law_1358 : decode cL_law 1358 = .ok (.land, 1) := by decide +kernel
theorem dL_law_1359 : decode cL_law 1359 = .ok (.lor, 1) := by decide +kernel
theorem dL_law_1360 : decode cL_law 1360 = .ok (.aload_n 0, 1) := by decide +kernel
theorem dL_law_1361 : decode cL_law 1361 = .ok (.iload 4, 2) := by decide +kernel
theorem dL_law_1363 : decode cL_law 1363 = .ok (.iconst 5, 1) := by decide +kernel
theorem dL_law_1364 : decode cL_law 1364 = .ok (.iadd, 1) := by decide +kernel
theorem dL_law_1365 : decode cL_law 1365 = .ok (.iaload, 1) := by decide +kernel
theorem dL_law_1366 : decode cL_law 1366 = .ok (.aload_n 0, 1) := by decide +kernel
theorem dL_law_1367 : decode cL_law 1367 = .ok (.iload 4, 2) := by decide +kernel
theorem dL_law_1369 : decode cL_law 1369 = .ok (.bipush 6, 2) := by decide +kernel
theorem dL_law_1371 : decode cL_law 1371 = .ok (.iadd, 1) := by decide +kernel
theorem dL_law_1372 : decode cL_law 1372 = .ok (.iaload, 1) := by decide +kernel
theorem dL_law_1373 : decode cL_law 1373 = .ok (.invokevirtual 156, 3) := by decide +kernel
theorem dL_law_1376 : decode cL_law 1376 = .ok (.istore 6, 2) := by decide +kernel
theorem dL_law_1378 : decode cL_law 1378 = .ok (.aload_n 2, 1) := by decide +kernel
theorem dL_law_1379 : decode cL_law 1379 = .ok (.invokevirtual 105, 3) := by decide +kernel
theorem dL_law_1382 : decode cL_law 1382 = .ok (.iload 5, 2) := by decide +kernel
theorem dL_law_1384 : decode cL_law 1384 = .ok (.if_icmp .eq 5, 3) := by decide +kernel
theorem dL_law_1387 : decode cL_law 1387 = .ok (.iconst 0, 1) := by decide +kernel
theorem dL_law_1388 : decode cL_law 1388 = .ok (.ireturn, 1) := by decide +kernel
theorem dL_law_1389 : decode cL_law 1389 = .ok (.iload 5, 2) := by decide +kernel
theorem dL_law_1391 : decode cL_law 1391 = .ok (.ifCond .ne 15, 3) := by decide +kernel
theorem dL_law_1394 : decode cL_law 1394 = .ok (.aload_n 3, 1) := by decide +kernel
theorem dL_law_1395 : decode cL_law 1395 = .ok (.iconst 0, 1) := by decide +kernel
theorem dL_law_1396 : decode cL_law 1396 = .ok (.laload, 1) := by decide +kernel
theorem dL_law_1397 : decode cL_law 1397 = .ok (.iload 6, 2) := by decide +kernel
theorem dL_law_1399 : decode cL_law 1399 = .ok (.i2l, 1) := by decide +kernel
theorem dL_law_1400 : decode cL_law 1400 = .ok (.lcmp, 1) := by decide +kernel
theorem dL_law_1401 : decode cL_law 1401 = .ok (.ifCond .eq 5, 3) := by decide +kernel
theorem dL_law_1404 : decode cL_law 1404 = .ok (.iconst 0, 1) := by decide +kernel
theorem dL_law_1405 : decode cL_law 1405 = .ok (.ireturn, 1) := by decide +kernel
theorem dL_law_1406 : decode cL_law 1406 = .ok (.goto 683, 3) := by decide +kernel
theorem dL_law_1409 : decode cL_law 1409 = .ok (.aload_n 1, 1) := by decide +kernel
theorem dL_law_1410 : decode cL_law 1410 = .ok (.aload_n 0, 1) := by decide +kernel
theorem dL_law_1411 : decode cL_law 1411 = .ok (.iload 4, 2) := by decide +kernel
theorem dL_law_1413 : decode cL_law 1413 = .ok (.iconst 1, 1) := by decide +kernel
theorem dL_law_1414 : decode cL_law 1414 = .ok (.iadd, 1) := by decide +kernel
theorem dL_law_1415 : decode cL_law 1415 = .ok (.iaload, 1) := by decide +kernel
theorem dL_law_1416 : decode cL_law 1416 = .ok (.aload_n 0, 1) := by decide +kernel
theorem dL_law_1417 : decode cL_law 1417 = .ok (.iload 4, 2) := by decide +kernel
theorem dL_law_1419 : decode cL_law 1419 = .ok (.iconst 2, 1) := by decide +kernel
theorem dL_law_1420 : decode cL_law 1420 = .ok (.iadd, 1) := by decide +kernel
theorem dL_law_1421 : decode cL_law 1421 = .ok (.iaload, 1) := by decide +kernel
theorem dL_law_1422 : decode cL_law 1422 = .ok (.aload_n 0, 1) := by decide +kernel
theorem dL_law_1423 : decode cL_law 1423 = .ok (.iload 4, 2) := by decide +kernel
theorem dL_law_1425 : decode cL_law 1425 = .ok (.iconst 3, 1) := by decide +kernel
theorem dL_law_1426 : decode cL_law 1426 = .ok (.iadd, 1) := by decide +kernel
theorem dL_law_1427 : decode cL_law 1427 = .ok (.iaload, 1) := by decide +kernel
theorem dL_law_1428 : decode cL_law 1428 = .ok (.i2l, 1) := by decide +kernel
theorem dL_law_1429 : decode cL_law 1429 = .ok (.bipush 32, 2) := by decide +kernel
theorem dL_law_1431 : decode cL_law 1431 = .ok (.lshl, 1) := by decide +kernel
theorem dL_law_1432 : decode cL_law 1432 = .ok (.aload_n 0, 1) := by decide +kernel
theorem dL_law_1433 : decode cL_law 1433 = .ok (.iload 4, 2) := by decide +kernel
theorem dL_law_1435 : decode cL_law 1435 = .ok (.iconst 4, 1) := by decide +kernel
theorem dL_law_1436 : decode cL_law 1436 = .ok (.iadd, 1) := by decide +kernel
theorem dL_law_1437 : decode cL_law 1437 = .ok (.iaload, 1) := by decide +kernel
theorem dL_law_1438 : decode cL_law 1438 = .ok (.i2l, 1) := by decide +kernel
theorem dL_law_1439 : decode cL_law 1439 = .ok (.ldc2_w 92, 3) := by decide +kernel
theorem dL_law_1442 : decode cL_law 1442 = .ok (.land, 1) := by decide +kernel
theorem dL_law_1443 : decode cL_law 1443 = .ok (.lor, 1) := by decide +kernel
theorem dL_law_1444 : decode cL_law 1444 = .ok (.aload_n 0, 1) := by decide +kernel
theorem dL_law_1445 : decode cL_law 1445 = .ok (.iload 4, 2) := by decide +kernel
theorem dL_law_1447 : decode cL_law 1447 = .ok (.iconst 5, 1) := by decide +kernel
theorem dL_law_1448 : decode cL_law 1448 = .ok (.iadd, 1) := by decide +kernel
theorem dL_law_1449 : decode cL_law 1449 = .ok (.iaload, 1) := by decide +kernel
theorem dL_law_1450 : decode cL_law 1450 = .ok (.aload_n 0, 1) := by decide +kernel
theorem dL_law_1451 : decode cL_law 1451 = .ok (.iload 4, 2) := by decide +kernel
theorem dL_law_1453 : decode cL_law 1453 = .ok (.bipush 6, 2) := by decide +kernel
theorem dL_law_1455 : decode cL_law 1455 = .ok (.iadd, 1) := by decide +kernel
theorem dL_law_1456 : decode cL_law 1456 = .ok (.iaload, 1) := by decide +kernel
theorem dL_law_1457 : decode cL_law 1457 = .ok (.aload_n 0, 1) := by decide +kernel
theorem dL_law_1458 : decode cL_law 1458 = .ok (.iload 4, 2) := by decide +kernel
theorem dL_law_1460 : decode cL_law 1460 = .ok (.bipush 7, 2) := by decide +kernel
theorem dL_law_1462 : decode cL_law 1462 = .ok (.iadd, 1) := by decide +kernel
theorem dL_law_1463 : decode cL_law 1463 = .ok (.iaload, 1) := by decide +kernel
theorem dL_law_1464 : decode cL_law 1464 = .ok (.aload_n 3, 1) := by decide +kernel
theorem dL_law_1465 : decode cL_law 1465 = .ok (.invokestatic 157, 3) := by decide +kernel
theorem dL_law_1468 : decode cL_law 1468 = .ok (.istore 5, 2) := by decide +kernel
theorem dL_law_1470 : decode cL_law 1470 = .ok (.aload_n 2, 1) := by decide +kernel
theorem dL_law_1471 : decode cL_law 1471 = .ok (.aload_n 0, 1) := by decide +kernel
theorem dL_law_1472 : decode cL_law 1472 = .ok (.iload 4, 2) := by decide +kernel
theorem dL_law_1474 : decode cL_law 1474 = .ok (.iconst 1, 1) := by decide +kernel
theorem dL_law_1475 : decode cL_law 1475 = .ok (.iadd, 1) := by decide +kernel
theorem dL_law_1476 : decode cL_law 1476 = .ok (.iaload, 1) := by decide +kernel
theorem dL_law_1477 : decode cL_law 1477 = .ok (.aload_n 0, 1) := by decide +kernel
theorem dL_law_1478 : decode cL_law 1478 = .ok (.iload 4, 2) := by decide +kernel
theorem dL_law_1480 : decode cL_law 1480 = .ok (.iconst 2, 1) := by decide +kernel
theorem dL_law_1481 : decode cL_law 1481 = .ok (.iadd, 1) := by decide +kernel
theorem dL_law_1482 : decode cL_law 1482 = .ok (.iaload, 1) := by decide +kernel
theorem dL_law_1483 : decode cL_law 1483 = .ok (.aload_n 0, 1) := by decide +kernel
theorem dL_law_1484 : decode cL_law 1484 = .ok (.iload 4, 2) := by decide +kernel
theorem dL_law_1486 : decode cL_law 1486 = .ok (.iconst 3, 1) := by decide +kernel
theorem dL_law_1487 : decode cL_law 1487 = .ok (.iadd, 1) := by decide +kernel
theorem dL_law_1488 : decode cL_law 1488 = .ok (.iaload, 1) := by decide +kernel
theorem dL_law_1489 : decode cL_law 1489 = .ok (.i2l, 1) := by decide +kernel
theorem dL_law_1490 : decode cL_law 1490 = .ok (.bipush 32, 2) := by decide +kernel
theorem dL_law_1492 : decode cL_law 1492 = .ok (.lshl, 1) := by decide +kernel
theorem dL_law_1493 : decode cL_law 1493 = .ok (.aload_n 0, 1) := by decide +kernel
theorem dL_law_1494 : decode cL_law 1494 = .ok (.iload 4, 2) := by decide +kernel
theorem dL_law_1496 : decode cL_law 1496 = .ok (.iconst 4, 1) := by decide +kernel
theorem dL_law_1497 : decode cL_law 1497 = .ok (.iadd, 1) := by decide +kernel
theorem dL_law_1498 : decode cL_law 1498 = .ok (.iaload, 1) := by decide +kernel
theorem dL_law_1499 : decode cL_law 1499 = .ok (.i2l, 1) := by decide +kernel
theorem dL_law_1500 : decode cL_law 1500 = .ok (.ldc2_w 92, 3) := by decide +kernel
theorem dL_law_1503 : decode cL_law 1503 = .ok (.land, 1) := by decide +kernel
theorem dL_law_1504 : decode cL_law 1504 = .ok (.lor, 1) := by decide +kernel
theorem dL_law_1505 : decode cL_law 1505 = .ok (.aload_n 0, 1) := by decide +kernel
theorem dL_law_1506 : decode cL_law 1506 = .ok (.iload 4, 2) := by decide +kernel
theorem dL_law_1508 : decode cL_law 1508 = .ok (.iconst 5, 1) := by decide +kernel
theorem dL_law_1509 : decode cL_law 1509 = .ok (.iadd, 1) := by decide +kernel
theorem dL_law_1510 : decode cL_law 1510 = .ok (.iaload, 1) := by decide +kernel
theorem dL_law_1511 : decode cL_law 1511 = .ok (.aload_n 0, 1) := by decide +kernel
theorem dL_law_1512 : decode cL_law 1512 = .ok (.iload 4, 2) := by decide +kernel
theorem dL_law_1514 : decode cL_law 1514 = .ok (.bipush 6, 2) := by decide +kernel
theorem dL_law_1516 : decode cL_law 1516 = .ok (.iadd, 1) := by decide +kernel
theorem dL_law_1517 : decode cL_law 1517 = .ok (.iaload, 1) := by decide +kernel
theorem dL_law_1518 : decode cL_law 1518 = .ok (.aload_n 0, 1) := by decide +kernel
theorem dL_law_1519 : decode cL_law 1519 = .ok (.iload 4, 2) := by decide +kernel
theorem dL_law_1521 : decode cL_law 1521 = .ok (.bipush 7, 2) := by decide +kernel
theorem dL_law_1523 : decode cL_law 1523 = .ok (.iadd, 1) := by decide +kernel
theorem dL_law_1524 : decode cL_law 1524 = .ok (.iaload, 1) := by decide +kernel
theorem dL_law_1525 : decode cL_law 1525 = .ok (.invokevirtual 160, 3) := by decide +kernel
theorem dL_law_1528 : decode cL_law 1528 = .ok (.istore 6, 2) := by decide +kernel
theorem dL_law_1530 : decode cL_law 1530 = .ok (.aload_n 2, 1) := by decide +kernel
theorem dL_law_1531 : decode cL_law 1531 = .ok (.invokevirtual 105, 3) := by decide +kernel
theorem dL_law_1534 : decode cL_law 1534 = .ok (.iload 5, 2) := by decide +kernel
theorem dL_law_1536 : decode cL_law 1536 = .ok (.if_icmp .eq 5, 3) := by decide +kernel
theorem dL_law_1539 : decode cL_law 1539 = .ok (.iconst 0, 1) := by decide +kernel
theorem dL_law_1540 : decode cL_law 1540 = .ok (.ireturn, 1) := by decide +kernel
theorem dL_law_1541 : decode cL_law 1541 = .ok (.iload 5, 2) := by decide +kernel
theorem dL_law_1543 : decode cL_law 1543 = .ok (.ifCond .ne 15, 3) := by decide +kernel
theorem dL_law_1546 : decode cL_law 1546 = .ok (.aload_n 3, 1) := by decide +kernel
theorem dL_law_1547 : decode cL_law 1547 = .ok (.iconst 0, 1) := by decide +kernel
theorem dL_law_1548 : decode cL_law 1548 = .ok (.laload, 1) := by decide +kernel
theorem dL_law_1549 : decode cL_law 1549 = .ok (.iload 6, 2) := by decide +kernel
theorem dL_law_1551 : decode cL_law 1551 = .ok (.i2l, 1) := by decide +kernel
theorem dL_law_1552 : decode cL_law 1552 = .ok (.lcmp, 1) := by decide +kernel
theorem dL_law_1553 : decode cL_law 1553 = .ok (.ifCond .eq 5, 3) := by decide +kernel
theorem dL_law_1556 : decode cL_law 1556 = .ok (.iconst 0, 1) := by decide +kernel
theorem dL_law_1557 : decode cL_law 1557 = .ok (.ireturn, 1) := by decide +kernel
theorem dL_law_1558 : decode cL_law 1558 = .ok (.goto 531, 3) := by decide +kernel
theorem dL_law_1561 : decode cL_law 1561 = .ok (.aload_n 1, 1) := by decide +kernel
theorem dL_law_1562 : decode cL_law 1562 = .ok (.aload_n 0, 1) := by decide +kernel
theorem dL_law_1563 : decode cL_law 1563 = .ok (.iload 4, 2) := by decide +kernel
theorem dL_law_1565 : decode cL_law 1565 = .ok (.iconst 1, 1) := by decide +kernel
theorem dL_law_1566 : decode cL_law 1566 = .ok (.iadd, 1) := by decide +kernel
theorem dL_law_1567 : decode cL_law 1567 = .ok (.iaload, 1) := by decide +kernel
theorem dL_law_1568 : decode cL_law 1568 = .ok (.aload_n 0, 1) := by decide +kernel
theorem dL_law_1569 : decode cL_law 1569 = .ok (.iload 4, 2) := by decide +kernel
theorem dL_law_1571 : decode cL_law 1571 = .ok (.iconst 2, 1) := by decide +kernel
theorem dL_law_1572 : decode cL_law 1572 = .ok (.iadd, 1) := by decide +kernel
theorem dL_law_1573 : decode cL_law 1573 = .ok (.iaload, 1) := by decide +kernel
theorem dL_law_1574 : decode cL_law 1574 = .ok (.aload_n 0, 1) := by decide +kernel
theorem dL_law_1575 : decode cL_law 1575 = .ok (.iload 4, 2) := by decide +kernel
theorem dL_law_1577 : decode cL_law 1577 = .ok (.iconst 3, 1) := by decide +kernel
theorem dL_law_1578 : decode cL_law 1578 = .ok (.iadd, 1) := by decide +kernel
theorem dL_law_1579 : decode cL_law 1579 = .ok (.iaload, 1) := by decide +kernel
theorem dL_law_1580 : decode cL_law 1580 = .ok (.i2l, 1) := by decide +kernel
theorem dL_law_1581 : decode cL_law 1581 = .ok (.bipush 32, 2) := by decide +kernel
theorem dL_law_1583 : decode cL_law 1583 = .ok (.lshl, 1) := by decide +kernel
theorem dL_law_1584 : decode cL_law 1584 = .ok (.aload_n 0, 1) := by decide +kernel
theorem dL_law_1585 : decode cL_law 1585 = .ok (.iload 4, 2) := by decide +kernel
theorem dL_law_1587 : decode cL_law 1587 = .ok (.iconst 4, 1) := by decide +kernel
theorem dL_law_1588 : decode cL_law 1588 = .ok (.iadd, 1) := by decide +kernel
theorem dL_law_1589 : decode cL_law 1589 = .ok (.iaload, 1) := by decide +kernel
theorem dL_law_1590 : decode cL_law 1590 = .ok (.i2l, 1) := by decide +kernel
theorem dL_law_1591 : decode cL_law 1591 = .ok (.ldc2_w 92, 3) := by decide +kernel
theorem dL_law_1594 : decode cL_law 1594 = .ok (.land, 1) := by decide +kernel
theorem dL_law_1595 : decode cL_law 1595 = .ok (.lor, 1) := by decide +kernel
theorem dL_law_1596 : decode cL_law 1596 = .ok (.aload_n 0, 1) := by decide +kernel
theorem dL_law_1597 : decode cL_law 1597 = .ok (.iload 4, 2) := by decide +kernel
theorem dL_law_1599 : decode cL_law 1599 = .ok (.iconst 5, 1) := by decide +kernel
theorem dL_law_1600 : decode cL_law 1600 = .ok (.iadd, 1) := by decide +kernel
theorem dL_law_1601 : decode cL_law 1601 = .ok (.iaload, 1) := by decide +kernel
theorem dL_law_1602 : decode cL_law 1602 = .ok (.aload_n 3, 1) := by decide +kernel
theorem dL_law_1603 : decode cL_law 1603 = .ok (.invokestatic 161, 3) := by decide +kernel
theorem dL_law_1606 : decode cL_law 1606 = .ok (.istore 5, 2) := by decide +kernel
theorem dL_law_1608 : decode cL_law 1608 = .ok (.aload_n 2, 1) := by decide +kernel
theorem dL_law_1609 : decode cL_law 1609 = .ok (.aload_n 0, 1) := by decide +kernel
theorem dL_law_1610 : decode cL_law 1610 = .ok (.iload 4, 2) := by decide +kernel
theorem dL_law_1612 : decode cL_law 1612 = .ok (.iconst 1, 1) := by decide +kernel
theorem dL_law_1613 : decode cL_law 1613 = .ok (.iadd, 1) := by decide +kernel
theorem dL_law_1614 : decode cL_law 1614 = .ok (.iaload, 1) := by decide +kernel
theorem dL_law_1615 : decode cL_law 1615 = .ok (.aload_n 0, 1) := by decide +kernel
theorem dL_law_1616 : decode cL_law 1616 = .ok (.iload 4, 2) := by decide +kernel
theorem dL_law_1618 : decode cL_law 1618 = .ok (.iconst 2, 1) := by decide +kernel
theorem dL_law_1619 : decode cL_law 1619 = .ok (.iadd, 1) := by decide +kernel
theorem dL_law_1620 : decode cL_law 1620 = .ok (.iaload, 1) := by decide +kernel
theorem dL_law_1621 : decode cL_law 1621 = .ok (.aload_n 0, 1) := by decide +kernel
theorem dL_law_1622 : decode cL_law 1622 = .ok (.iload 4, 2) := by decide +kernel
theorem dL_law_1624 : decode cL_law 1624 = .ok (.iconst 3, 1) := by decide +kernel
theorem dL_law_1625 : decode cL_law 1625 = .ok (.iadd, 1) := by decide +kernel
theorem dL_law_1626 : decode cL_law 1626 = .ok (.iaload, 1) := by decide +kernel
theorem dL_law_1627 : decode cL_law 1627 = .ok (.i2l, 1) := by decide +kernel
theorem dL_law_1628 : decode cL_law 1628 = .ok (.bipush 32, 2) := by decide +kernel
theorem dL_law_1630 : decode cL_law 1630 = .ok (.lshl, 1) := by decide +kernel
theorem dL_law_1631 : decode cL_law 1631 = .ok (.aload_n 0, 1) := by decide +kernel
theorem dL_law_1632 : decode cL_law 1632 = .ok (.iload 4, 2) := by decide +kernel
theorem dL_law_1634 : decode cL_law 1634 = .ok (.iconst 4, 1) := by decide +kernel
theorem dL_law_1635 : decode cL_law 1635 = .ok (.iadd, 1) := by decide +kernel
theorem dL_law_1636 : decode cL_law 1636 = .ok (.iaload, 1) := by decide +kernel
theorem dL_law_1637 : decode cL_law 1637 = .ok (.i2l, 1) := by decide +kernel
theorem dL_law_1638 : decode cL_law 1638 = .ok (.ldc2_w 92, 3) := by decide +kernel
theorem dL_law_1641 : decode cL_law 1641 = .ok (.land, 1) := by decide +kernel
theorem dL_law_1642 : decode cL_law 1642 = .ok (.lor, 1) := by decide +kernel
theorem dL_law_1643 : decode cL_law 1643 = .ok (.aload_n 0, 1) := by decide +kernel
theorem dL_law_1644 : decode cL_law 1644 = .ok (.iload 4, 2) := by decide +kernel
theorem dL_law_1646 : decode cL_law 1646 = .ok (.iconst 5, 1) := by decide +kernel
theorem dL_law_1647 : decode cL_law 1647 = .ok (.iadd, 1) := by decide +kernel
theorem dL_law_1648 : decode cL_law 1648 = .ok (.iaload, 1) := by decide +kernel
theorem dL_law_1649 : decode cL_law 1649 = .ok (.invokevirtual 163, 3) := by decide +kernel
theorem dL_law_1652 : decode cL_law 1652 = .ok (.istore 6, 2) := by decide +kernel
theorem dL_law_1654 : decode cL_law 1654 = .ok (.aload_n 2, 1) := by decide +kernel
theorem dL_law_1655 : decode cL_law 1655 = .ok (.invokevirtual 105, 3) := by decide +kernel
theorem dL_law_1658 : decode cL_law 1658 = .ok (.iload 5, 2) := by decide +kernel
theorem dL_law_1660 : decode cL_law 1660 = .ok (.if_icmp .eq 5, 3) := by decide +kernel
theorem dL_law_1663 : decode cL_law 1663 = .ok (.iconst 0, 1) := by decide +kernel
theorem dL_law_1664 : decode cL_law 1664 = .ok (.ireturn, 1) := by decide +kernel
theorem dL_law_1665 : decode cL_law 1665 = .ok (.iload 5, 2) := by decide +kernel
theorem dL_law_1667 : decode cL_law 1667 = .ok (.ifCond .ne 15, 3) := by decide +kernel
theorem dL_law_1670 : decode cL_law 1670 = .ok (.aload_n 3, 1) := by decide +kernel
theorem dL_law_1671 : decode cL_law 1671 = .ok (.iconst 0, 1) := by decide +kernel
theorem dL_law_1672 : decode cL_law 1672 = .ok (.laload, 1) := by decide +kernel
theorem dL_law_1673 : decode cL_law 1673 = .ok (.iload 6, 2) := by decide +kernel
theorem dL_law_1675 : decode cL_law 1675 = .ok (.i2l, 1) := by decide +kernel
theorem dL_law_1676 : decode cL_law 1676 = .ok (.lcmp, 1) := by decide +kernel
theorem dL_law_1677 : decode cL_law 1677 = .ok (.ifCond .eq 5, 3) := by decide +kernel
theorem dL_law_1680 : decode cL_law 1680 = .ok (.iconst 0, 1) := by decide +kernel
theorem dL_law_1681 : decode cL_law 1681 = .ok (.ireturn, 1) := by decide +kernel
theorem dL_law_1682 : decode cL_law 1682 = .ok (.goto 407, 3) := by decide +kernel
theorem dL_law_1685 : decode cL_law 1685 = .ok (.aload_n 1, 1) := by decide +kernel
theorem dL_law_1686 : decode cL_law 1686 = .ok (.aload_n 0, 1) := by decide +kernel
theorem dL_law_1687 : decode cL_law 1687 = .ok (.iload 4, 2) := by decide +kernel
theorem dL_law_1689 : decode cL_law 1689 = .ok (.iconst 1, 1) := by decide +kernel
theorem dL_law_1690 : decode cL_law 1690 = .ok (.iadd, 1) := by decide +kernel
theorem dL_law_1691 : decode cL_law 1691 = .ok (.iaload, 1) := by decide +kernel
theorem dL_law_1692 : decode cL_law 1692 = .ok (.aload_n 0, 1) := by decide +kernel
theorem dL_law_1693 : decode cL_law 1693 = .ok (.iload 4, 2) := by decide +kernel
theorem dL_law_1695 : decode cL_law 1695 = .ok (.iconst 2, 1) := by decide +kernel
theorem dL_law_1696 : decode cL_law 1696 = .ok (.iadd, 1) := by decide +kernel
theorem dL_law_1697 : decode cL_law 1697 = .ok (.iaload, 1) := by decide +kernel
theorem dL_law_1698 : decode cL_law 1698 = .ok (.aload_n 3, 1) := by decide +kernel
theorem dL_law_1699 : decode cL_law 1699 = .ok (.invokestatic 164, 3) := by decide +kernel
theorem dL_law_1702 : decode cL_law 1702 = .ok (.istore 5, 2) := by decide +kernel
theorem dL_law_1704 : decode cL_law 1704 = .ok (.aload_n 2, 1) := by decide +kernel
theorem dL_law_1705 : decode cL_law 1705 = .ok (.aload_n 0, 1) := by decide +kernel
theorem dL_law_1706 : decode cL_law 1706 = .ok (.iload 4, 2) := by decide +kernel
theorem dL_law_1708 : decode cL_law 1708 = .ok (.iconst 1, 1) := by decide +kernel
theorem dL_law_1709 : decode cL_law 1709 = .ok (.iadd, 1) := by decide +kernel
theorem dL_law_1710 : decode cL_law 1710 = .ok (.iaload, 1) := by decide +kernel
theorem dL_law_1711 : decode cL_law 1711 = .ok (.aload_n 0, 1) := by decide +kernel
theorem dL_law_1712 : decode cL_law 1712 = .ok (.iload 4, 2) := by decide +kernel
theorem dL_law_1714 : decode cL_law 1714 = .ok (.iconst 2, 1) := by decide +kernel
theorem dL_law_1715 : decode cL_law 1715 = .ok (.iadd, 1) := by decide +kernel
theorem dL_law_1716 : decode cL_law 1716 = .ok (.iaload, 1) := by decide +kernel
theorem dL_law_1717 : decode cL_law 1717 = .ok (.invokevirtual 166, 3) := by decide +kernel
theorem dL_law_1720 : decode cL_law 1720 = .ok (.istore 6, 2) := by decide +kernel
theorem dL_law_1722 : decode cL_law 1722 = .ok (.aload_n 2, 1) := by decide +kernel
theorem dL_law_1723 : decode cL_law 1723 = .ok (.invokevirtual 105, 3) := by decide +kernel
theorem dL_law_1726 : decode cL_law 1726 = .ok (.iload 5, 2) := by decide +kernel
theorem dL_law_1728 : decode cL_law 1728 = .ok (.if_icmp .eq 5, 3) := by decide +kernel
theorem dL_law_1731 : decode cL_law 1731 = .ok (.iconst 0, 1) := by decide +kernel
theorem dL_law_1732 : decode cL_law 1732 = .ok (.ireturn, 1) := by decide +kernel
theorem dL_law_1733 : decode cL_law 1733 = .ok (.iload 5, 2) := by decide +kernel
theorem dL_law_1735 : decode cL_law 1735 = .ok (.ifCond .ne 15, 3) := by decide +kernel
theorem dL_law_1738 : decode cL_law 1738 = .ok (.aload_n 3, 1) := by decide +kernel
theorem dL_law_1739 : decode cL_law 1739 = .ok (.iconst 0, 1) := by decide +kernel
theorem dL_law_1740 : decode cL_law 1740 = .ok (.laload, 1) := by decide +kernel
theorem dL_law_1741 : decode cL_law 1741 = .ok (.iload 6, 2) := by decide +kernel
theorem dL_law_1743 : decode cL_law 1743 = .ok (.i2l, 1) := by decide +kernel
theorem dL_law_1744 : decode cL_law 1744 = .ok (.lcmp, 1) := by decide +kernel
theorem dL_law_1745 : decode cL_law 1745 = .ok (.ifCond .eq 5, 3) := by decide +kernel
theorem dL_law_1748 : decode cL_law 1748 = .ok (.iconst 0, 1) := by decide +kernel
theorem dL_law_1749 : decode cL_law 1749 = .ok (.ireturn, 1) := by decide +kernel
theorem dL_law_1750 : decode cL_law 1750 = .ok (.goto 339, 3) := by decide +kernel
theorem dL_law_1753 : decode cL_law 1753 = .ok (.aload_n 1, 1) := by decide +kernel
theorem dL_law_1754 : decode cL_law 1754 = .ok (.aload_n 0, 1) := by decide +kernel
theorem dL_law_1755 : decode cL_law 1755 = .ok (.iload 4, 2) := by decide +kernel
theorem dL_law_1757 : decode cL_law 1757 = .ok (.iconst 1, 1) := by decide +kernel
theorem dL_law_1758 : decode cL_law 1758 = .ok (.iadd, 1) := by decide +kernel
theorem dL_law_1759 : decode cL_law 1759 = .ok (.iaload, 1) := by decide +kernel
theorem dL_law_1760 : decode cL_law 1760 = .ok (.aload_n 3, 1) := by decide +kernel
theorem dL_law_1761 : decode cL_law 1761 = .ok (.invokestatic 167, 3) := by decide +kernel
theorem dL_law_1764 : decode cL_law 1764 = .ok (.istore 5, 2) := by decide +kernel
theorem dL_law_1766 : decode cL_law 1766 = .ok (.aload_n 2, 1) := by decide +kernel
theorem dL_law_1767 : decode cL_law 1767 = .ok (.aload_n 0, 1) := by decide +kernel
theorem dL_law_1768 : decode cL_law 1768 = .ok (.iload 4, 2) := by decide +kernel
theorem dL_law_1770 : decode cL_law 1770 = .ok (.iconst 1, 1) := by decide +kernel
theorem dL_law_1771 : decode cL_law 1771 = .ok (.iadd, 1) := by decide +kernel
theorem dL_law_1772 : decode cL_law 1772 = .ok (.iaload, 1) := by decide +kernel
theorem dL_law_1773 : decode cL_law 1773 = .ok (.invokevirtual 169, 3) := by decide +kernel
theorem dL_law_1776 : decode cL_law 1776 = .ok (.istore 6, 2) := by decide +kernel
theorem dL_law_1778 : decode cL_law 1778 = .ok (.aload_n 2, 1) := by decide +kernel
theorem dL_law_1779 : decode cL_law 1779 = .ok (.invokevirtual 105, 3) := by decide +kernel
theorem dL_law_1782 : decode cL_law 1782 = .ok (.iload 5, 2) := by decide +kernel
theorem dL_law_1784 : decode cL_law 1784 = .ok (.if_icmp .eq 5, 3) := by decide +kernel
theorem dL_law_1787 : decode cL_law 1787 = .ok (.iconst 0, 1) := by decide +kernel
theorem dL_law_1788 : decode cL_law 1788 = .ok (.ireturn, 1) := by decide +kernel
theorem dL_law_1789 : decode cL_law 1789 = .ok (.iload 5, 2) := by decide +kernel
theorem dL_law_1791 : decode cL_law 1791 = .ok (.ifCond .ne 15, 3) := by decide +kernel
theorem dL_law_1794 : decode cL_law 1794 = .ok (.aload_n 3, 1) := by decide +kernel
theorem dL_law_1795 : decode cL_law 1795 = .ok (.iconst 0, 1) := by decide +kernel
theorem dL_law_1796 : decode cL_law 1796 = .ok (.laload, 1) := by decide +kernel
theorem dL_law_1797 : decode cL_law 1797 = .ok (.iload 6, 2) := by decide +kernel
theorem dL_law_1799 : decode cL_law 1799 = .ok (.i2l, 1) := by decide +kernel
theorem dL_law_1800 : decode cL_law 1800 = .ok (.lcmp, 1) := by decide +kernel
theorem dL_law_1801 : decode cL_law 1801 = .ok (.ifCond .eq 5, 3) := by decide +kernel
theorem dL_law_1804 : decode cL_law 1804 = .ok (.iconst 0, 1) := by decide +kernel
theorem dL_law_1805 : decode cL_law 1805 = .ok (.ireturn, 1) := by decide +kernel
theorem dL_law_1806 : decode cL_law 1806 = .ok (.goto 283, 3) := by decide +kernel
theorem dL_law_1809 : decode cL_law 1809 = .ok (.aload_n 1, 1) := by decide +kernel
theorem dL_law_1810 : decode cL_law 1810 = .ok (.aload_n 0, 1) := by decide +kernel
theorem dL_law_1811 : decode cL_law 1811 = .ok (.iload 4, 2) := by decide +kernel
theorem dL_law_1813 : decode cL_law 1813 = .ok (.iconst 1, 1) := by decide +kernel
theorem dL_law_1814 : decode cL_law 1814 = .ok (.iadd, 1) := by decide +kernel
theorem dL_law_1815 : decode cL_law 1815 = .ok (.iaload, 1) := by decide +kernel
theorem dL_law_1816 : decode cL_law 1816 = .ok (.aload_n 3, 1) := by decide +kernel
theorem dL_law_1817 : decode cL_law 1817 = .ok (.invokestatic 170, 3) := by decide +kernel
theorem dL_law_1820 : decode cL_law 1820 = .ok (.istore 5, 2) := by decide +kernel
theorem dL_law_1822 : decode cL_law 1822 = .ok (.aload_n 2, 1) := by decide +kernel
theorem dL_law_1823 : decode cL_law 1823 = .ok (.aload_n 0, 1) := by decide +kernel
theorem dL_law_1824 : decode cL_law 1824 = .ok (.iload 4, 2) := by decide +kernel
theorem dL_law_1826 : decode cL_law 1826 = .ok (.iconst 1, 1) := by decide +kernel
theorem dL_law_1827 : decode cL_law 1827 = .ok (.iadd, 1) := by decide +kernel
theorem dL_law_1828 : decode cL_law 1828 = .ok (.iaload, 1) := by decide +kernel
theorem dL_law_1829 : decode cL_law 1829 = .ok (.invokevirtual 172, 3) := by decide +kernel
theorem dL_law_1832 : decode cL_law 1832 = .ok (.istore 6, 2) := by decide +kernel
theorem dL_law_1834 : decode cL_law 1834 = .ok (.aload_n 2, 1) := by decide +kernel
theorem dL_law_1835 : decode cL_law 1835 = .ok (.invokevirtual 105, 3) := by decide +kernel
theorem dL_law_1838 : decode cL_law 1838 = .ok (.iload 5, 2) := by decide +kernel
theorem dL_law_1840 : decode cL_law 1840 = .ok (.if_icmp .eq 5, 3) := by decide +kernel
theorem dL_law_1843 : decode cL_law 1843 = .ok (.iconst 0, 1) := by decide +kernel
theorem dL_law_1844 : decode cL_law 1844 = .ok (.ireturn, 1) := by decide +kernel
theorem dL_law_1845 : decode cL_law 1845 = .ok (.iload 5, 2) := by decide +kernel
theorem dL_law_1847 : decode cL_law 1847 = .ok (.ifCond .ne 15, 3) := by decide +kernel
theorem dL_law_1850 : decode cL_law 1850 = .ok (.aload_n 3, 1) := by decide +kernel
theorem dL_law_1851 : decode cL_law 1851 = .ok (.iconst 0, 1) := by decide +kernel
theorem dL_law_1852 : decode cL_law 1852 = .ok (.laload, 1) := by decide +kernel
theorem dL_law_1853 : decode cL_law 1853 = .ok (.iload 6, 2) := by decide +kernel
theorem dL_law_1855 : decode cL_law 1855 = .ok (.i2l, 1) := by decide +kernel
theorem dL_law_1856 : decode cL_law 1856 = .ok (.lcmp, 1) := by decide +kernel
theorem dL_law_1857 : decode cL_law 1857 = .ok (.ifCond .eq 5, 3) := by decide +kernel
theorem dL_law_1860 : decode cL_law 1860 = .ok (.iconst 0, 1) := by decide +kernel
theorem dL_law_1861 : decode cL_law 1861 = .ok (.ireturn, 1) := by decide +kernel
theorem dL_law_1862 : decode cL_law 1862 = .ok (.goto 227, 3) := by decide +kernel
theorem dL_law_1865 : decode cL_law 1865 = .ok (.aload_n 1, 1) := by decide +kernel
theorem dL_law_1866 : decode cL_law 1866 = .ok (.aload_n 0, 1) := by decide +kernel
theorem dL_law_1867 : decode cL_law 1867 = .ok (.iload 4, 2) := by decide +kernel
theorem dL_law_1869 : decode cL_law 1869 = .ok (.iconst 1, 1) := by decide +kernel
theorem dL_law_1870 : decode cL_law 1870 = .ok (.iadd, 1) := by decide +kernel
theorem dL_law_1871 : decode cL_law 1871 = .ok (.iaload, 1) := by decide +kernel
theorem dL_law_1872 : decode cL_law 1872 = .ok (.aload_n 3, 1) := by decide +kernel
theorem dL_law_1873 : decode cL_law 1873 = .ok (.invokestatic 173, 3) := by decide +kernel
theorem dL_law_1876 : decode cL_law 1876 = .ok (.istore 5, 2) := by decide +kernel
theorem dL_law_1878 : decode cL_law 1878 = .ok (.aload_n 2, 1) := by decide +kernel
theorem dL_law_1879 : decode cL_law 1879 = .ok (.aload_n 0, 1) := by decide +kernel
theorem dL_law_1880 : decode cL_law 1880 = .ok (.iload 4, 2) := by decide +kernel
theorem dL_law_1882 : decode cL_law 1882 = .ok (.iconst 1, 1) := by decide +kernel
theorem dL_law_1883 : decode cL_law 1883 = .ok (.iadd, 1) := by decide +kernel
theorem dL_law_1884 : decode cL_law 1884 = .ok (.iaload, 1) := by decide +kernel
theorem dL_law_1885 : decode cL_law 1885 = .ok (.invokevirtual 175, 3) := by decide +kernel
theorem dL_law_1888 : decode cL_law 1888 = .ok (.istore 6, 2) := by decide +kernel
theorem dL_law_1890 : decode cL_law 1890 = .ok (.aload_n 2, 1) := by decide +kernel
theorem dL_law_1891 : decode cL_law 1891 = .ok (.invokevirtual 105, 3) := by decide +kernel
theorem dL_law_1894 : decode cL_law 1894 = .ok (.iload 5, 2) := by decide +kernel
theorem dL_law_1896 : decode cL_law 1896 = .ok (.if_icmp .eq 5, 3) := by decide +kernel
theorem dL_law_1899 : decode cL_law 1899 = .ok (.iconst 0, 1) := by decide +kernel
theorem dL_law_1900 : decode cL_law 1900 = .ok (.ireturn, 1) := by decide +kernel
theorem dL_law_1901 : decode cL_law 1901 = .ok (.iload 5, 2) := by decide +kernel
theorem dL_law_1903 : decode cL_law 1903 = .ok (.ifCond .ne 15, 3) := by decide +kernel
theorem dL_law_1906 : decode cL_law 1906 = .ok (.aload_n 3, 1) := by decide +kernel
theorem dL_law_1907 : decode cL_law 1907 = .ok (.iconst 0, 1) := by decide +kernel
theorem dL_law_1908 : decode cL_law 1908 = .ok (.laload, 1) := by decide +kernel
theorem dL_law_1909 : decode cL_law 1909 = .ok (.iload 6, 2) := by decide +kernel
theorem dL_law_1911 : decode cL_law 1911 = .ok (.i2l, 1) := by decide +kernel
theorem dL_law_1912 : decode cL_law 1912 = .ok (.lcmp, 1) := by decide +kernel
theorem dL_law_1913 : decode cL_law 1913 = .ok (.ifCond .eq 5, 3) := by decide +kernel
theorem dL_law_1916 : decode cL_law 1916 = .ok (.iconst 0, 1) := by decide +kernel
theorem dL_law_1917 : decode cL_law 1917 = .ok (.ireturn, 1) := by decide +kernel
theorem dL_law_1918 : decode cL_law 1918 = .ok (.goto 171, 3) := by decide +kernel
theorem dL_law_1921 : decode cL_law 1921 = .ok (.aload_n 1, 1) := by decide +kernel
theorem dL_law_1922 : decode cL_law 1922 = .ok (.aload_n 0, 1) := by decide +kernel
theorem dL_law_1923 : decode cL_law 1923 = .ok (.iload 4, 2) := by decide +kernel
theorem dL_law_1925 : decode cL_law 1925 = .ok (.iconst 1, 1) := by decide +kernel
theorem dL_law_1926 : decode cL_law 1926 = .ok (.iadd, 1) := by decide +kernel
theorem dL_law_1927 : decode cL_law 1927 = .ok (.iaload, 1) := by decide +kernel
theorem dL_law_1928 : decode cL_law 1928 = .ok (.aload_n 3, 1) := by decide +kernel
theorem dL_law_1929 : decode cL_law 1929 = .ok (.invokestatic 176, 3) := by decide +kernel
theorem dL_law_1932 : decode cL_law 1932 = .ok (.istore 5, 2) := by decide +kernel
theorem dL_law_1934 : decode cL_law 1934 = .ok (.aload_n 2, 1) := by decide +kernel
theorem dL_law_1935 : decode cL_law 1935 = .ok (.aload_n 0, 1) := by decide +kernel
theorem dL_law_1936 : decode cL_law 1936 = .ok (.iload 4, 2) := by decide +kernel
theorem dL_law_1938 : decode cL_law 1938 = .ok (.iconst 1, 1) := by decide +kernel
theorem dL_law_1939 : decode cL_law 1939 = .ok (.iadd, 1) := by decide +kernel
theorem dL_law_1940 : decode cL_law 1940 = .ok (.iaload, 1) := by decide +kernel
theorem dL_law_1941 : decode cL_law 1941 = .ok (.invokevirtual 178, 3) := by decide +kernel
theorem dL_law_1944 : decode cL_law 1944 = .ok (.istore 6, 2) := by decide +kernel
theorem dL_law_1946 : decode cL_law 1946 = .ok (.aload_n 2, 1) := by decide +kernel
theorem dL_law_1947 : decode cL_law 1947 = .ok (.invokevirtual 105, 3) := by decide +kernel
theorem dL_law_1950 : decode cL_law 1950 = .ok (.iload 5, 2) := by decide +kernel
theorem dL_law_1952 : decode cL_law 1952 = .ok (.if_icmp .eq 5, 3) := by decide +kernel
theorem dL_law_1955 : decode cL_law 1955 = .ok (.iconst 0, 1) := by decide +kernel
theorem dL_law_1956 : decode cL_law 1956 = .ok (.ireturn, 1) := by decide +kernel
theorem dL_law_1957 : decode cL_law 1957 = .ok (.iload 5, 2) := by decide +kernel
theorem dL_law_1959 : decode cL_law 1959 = .ok (.ifCond .ne 15, 3) := by decide +kernel
theorem dL_law_1962 : decode cL_law 1962 = .ok (.aload_n 3, 1) := by decide +kernel
theorem dL_law_1963 : decode cL_law 1963 = .ok (.iconst 0, 1) := by decide +kernel
theorem dL_law_1964 : decode cL_law 1964 = .ok (.laload, 1) := by decide +kernel
theorem dL_law_1965 : decode cL_law 1965 = .ok (.iload 6, 2) := by decide +kernel
theorem dL_law_1967 : decode cL_law 1967 = .ok (.i2l, 1) := by decide +kernel
theorem dL_law_1968 : decode cL_law 1968 = .ok (.lcmp, 1) := by decide +kernel
theorem dL_law_1969 : decode cL_law 1969 = .ok (.ifCond .eq 5, 3) := by decide +kernel
theorem dL_law_1972 : decode cL_law 1972 = .ok (.iconst 0, 1) := by decide +kernel
theorem dL_law_1973 : decode cL_law 1973 = .ok (.ireturn, 1) := by decide +kernel
theorem dL_law_1974 : decode cL_law 1974 = .ok (.goto 115, 3) := by decide +kernel
theorem dL_law_1977 : decode cL_law 1977 = .ok (.aload_n 1, 1) := by decide +kernel
theorem dL_law_1978 : decode cL_law 1978 = .ok (.aload_n 0, 1) := by decide +kernel
theorem dL_law_1979 : decode cL_law 1979 = .ok (.iload 4, 2) := by decide +kernel
theorem dL_law_1981 : decode cL_law 1981 = .ok (.iconst 1, 1) := by decide +kernel
theorem dL_law_1982 : decode cL_law 1982 = .ok (.iadd, 1) := by decide +kernel
theorem dL_law_1983 : decode cL_law 1983 = .ok (.iaload, 1) := by decide +kernel
theorem dL_law_1984 : decode cL_law 1984 = .ok (.aload_n 3, 1) := by decide +kernel
theorem dL_law_1985 : decode cL_law 1985 = .ok (.invokestatic 179, 3) := by decide +kernel
theorem dL_law_1988 : decode cL_law 1988 = .ok (.istore 5, 2) := by decide +kernel
theorem dL_law_1990 : decode cL_law 1990 = .ok (.aload_n 2, 1) := by decide +kernel
theorem dL_law_1991 : decode cL_law 1991 = .ok (.aload_n 0, 1) := by decide +kernel
theorem dL_law_1992 : decode cL_law 1992 = .ok (.iload 4, 2) := by decide +kernel
theorem dL_law_1994 : decode cL_law 1994 = .ok (.iconst 1, 1) := by decide +kernel
theorem dL_law_1995 : decode cL_law 1995 = .ok (.iadd, 1) := by decide +kernel
theorem dL_law_1996 : decode cL_law 1996 = .ok (.iaload, 1) := by decide +kernel
theorem dL_law_1997 : decode cL_law 1997 = .ok (.invokevirtual 181, 3) := by decide +kernel
theorem dL_law_2000 : decode cL_law 2000 = .ok (.istore 6, 2) := by decide +kernel
theorem dL_law_2002 : decode cL_law 2002 = .ok (.aload_n 2, 1) := by decide +kernel
theorem dL_law_2003 : decode cL_law 2003 = .ok (.invokevirtual 105, 3) := by decide +kernel
theorem dL_law_2006 : decode cL_law 2006 = .ok (.iload 5, 2) := by decide +kernel
theorem dL_law_2008 : decode cL_law 2008 = .ok (.if_icmp .eq 5, 3) := by decide +kernel
theorem dL_law_2011 : decode cL_law 2011 = .ok (.iconst 0, 1) := by decide +kernel
theorem dL_law_2012 : decode cL_law 2012 = .ok (.ireturn, 1) := by decide +kernel
theorem dL_law_2013 : decode cL_law 2013 = .ok (.iload 5, 2) := by decide +kernel
theorem dL_law_2015 : decode cL_law 2015 = .ok (.ifCond .ne 15, 3) := by decide +kernel
theorem dL_law_2018 : decode cL_law 2018 = .ok (.aload_n 3, 1) := by decide +kernel
theorem dL_law_2019 : decode cL_law 2019 = .ok (.iconst 0, 1) := by decide +kernel
theorem dL_law_2020 : decode cL_law 2020 = .ok (.laload, 1) := by decide +kernel
theorem dL_law_2021 : decode cL_law 2021 = .ok (.iload 6, 2) := by decide +kernel
theorem dL_law_2023 : decode cL_law 2023 = .ok (.i2l, 1) := by decide +kernel
theorem dL_law_2024 : decode cL_law 2024 = .ok (.lcmp, 1) := by decide +kernel
theorem dL_law_2025 : decode cL_law 2025 = .ok (.ifCond .eq 5, 3) := by decide +kernel
theorem dL_law_2028 : decode cL_law 2028 = .ok (.iconst 0, 1) := by decide +kernel
theorem dL_law_2029 : decode cL_law 2029 = .ok (.ireturn, 1) := by decide +kernel
theorem dL_law_2030 : decode cL_law 2030 = .ok (.goto 59, 3) := by decide +kernel
theorem dL_law_2033 : decode cL_law 2033 = .ok (.aload_n 1, 1) := by decide +kernel
theorem dL_law_2034 : decode cL_law 2034 = .ok (.aload_n 0, 1) := by decide +kernel
theorem dL_law_2035 : decode cL_law 2035 = .ok (.iload 4, 2) := by decide +kernel
theorem dL_law_2037 : decode cL_law 2037 = .ok (.iconst 1, 1) := by decide +kernel
theorem dL_law_2038 : decode cL_law 2038 = .ok (.iadd, 1) := by decide +kernel
theorem dL_law_2039 : decode cL_law 2039 = .ok (.iaload, 1) := by decide +kernel
theorem dL_law_2040 : decode cL_law 2040 = .ok (.aload_n 3, 1) := by decide +kernel
theorem dL_law_2041 : decode cL_law 2041 = .ok (.invokestatic 182, 3) := by decide +kernel
theorem dL_law_2044 : decode cL_law 2044 = .ok (.istore 5, 2) := by decide +kernel
theorem dL_law_2046 : decode cL_law 2046 = .ok (.aload_n 2, 1) := by decide +kernel
theorem dL_law_2047 : decode cL_law 2047 = .ok (.aload_n 0, 1) := by decide +kernel
theorem dL_law_2048 : decode cL_law 2048 = .ok (.iload 4, 2) := by decide +kernel
theorem dL_law_2050 : decode cL_law 2050 = .ok (.iconst 1, 1) := by decide +kernel
theorem dL_law_2051 : decode cL_law 2051 = .ok (.iadd, 1) := by decide +kernel
theorem dL_law_2052 : decode cL_law 2052 = .ok (.iaload, 1) := by decide +kernel
theorem dL_law_2053 : decode cL_law 2053 = .ok (.invokevirtual 184, 3) := by decide +kernel
theorem dL_law_2056 : decode cL_law 2056 = .ok (.istore 6, 2) := by decide +kernel
theorem dL_law_2058 : decode cL_law 2058 = .ok (.aload_n 2, 1) := by decide +kernel
theorem dL_law_2059 : decode cL_law 2059 = .ok (.invokevirtual 105, 3) := by decide +kernel
theorem dL_law_2062 : decode cL_law 2062 = .ok (.iload 5, 2) := by decide +kernel
theorem dL_law_2064 : decode cL_law 2064 = .ok (.if_icmp .eq 5, 3) := by decide +kernel
theorem dL_law_2067 : decode cL_law 2067 = .ok (.iconst 0, 1) := by decide +kernel
theorem dL_law_2068 : decode cL_law 2068 = .ok (.ireturn, 1) := by decide +kernel
theorem dL_law_2069 : decode cL_law 2069 = .ok (.iload 5, 2) := by decide +kernel
theorem dL_law_2071 : decode cL_law 2071 = .ok (.ifCond .ne 15, 3) := by decide +kernel
theorem dL_law_2074 : decode cL_law 2074 = .ok (.aload_n 3, 1) := by decide +kernel
theorem dL_law_2075 : decode cL_law 2075 = .ok (.iconst 0, 1) := by decide +kernel
theorem dL_law_2076 : decode cL_law 2076 = .ok (.laload, 1) := by decide +kernel
theorem dL_law_2077 : decode cL_law 2077 = .ok (.iload 6, 2) := by decide +kernel
theorem dL_law_2079 : decode cL_law 2079 = .ok (.i2l, 1) := by decide +kernel
theorem dL_law_2080 : decode cL_law 2080 = .ok (.lcmp, 1) := by decide +kernel
theorem dL_law_2081 : decode cL_law 2081 = .ok (.ifCond .eq 5, 3) := by decide +kernel
theorem dL_law_2084 : decode cL_law 2084 = .ok (.iconst 0, 1) := by decide +kernel
theorem dL_law_2085 : decode cL_law 2085 = .ok (.ireturn, 1) := by decide +kernel
theorem dL_law_2086 : decode cL_law 2086 = .ok (.goto 3, 3) := by decide +kernel
theorem dL_law_2089 : decode cL_law 2089 = .ok (.iinc 4 8, 3) := by decide +kernel
theorem dL_law_2092 : decode cL_law 2092 = .ok (.goto (-2069), 3) := by decide +kernel
theorem dL_law_2095 : decode cL_law 2095 = .ok (.iconst 1, 1) := by decide +kernel
theorem dL_law_2096 : decode cL_law 2096 = .ok (.ireturn, 1) := by decide +kernel
