/-! ===== equations: LiarsCockLaw, its instructions (printed by wip/whole/gen17.py) ===== -/
theorem D309_1253 : decode (mB 309) 1253 = .ok (.iconst 2, 1) := by decide +kernel
theorem D309_1254 : decode (mB 309) 1254 = .ok (.iadd, 1) := by decide +kernel
theorem D309_1255 : decode (mB 309) 1255 = .ok (.iaload, 1) := by decide +kernel
theorem D309_1256 : CS 309 1256 186 0 := ⟨.invokevirtual 126, by decide +kernel, by decide +kernel, by decide +kernel, by decide⟩
theorem D309_1259 : decode (mB 309) 1259 = .ok (.aload_n 2, 1) := by decide +kernel
theorem D309_1260 : decode (mB 309) 1260 = .ok (.aload_n 0, 1) := by decide +kernel
theorem D309_1261 : decode (mB 309) 1261 = .ok (.iload 4, 2) := by decide +kernel
theorem D309_1263 : decode (mB 309) 1263 = .ok (.iconst 1, 1) := by decide +kernel
theorem D309_1264 : decode (mB 309) 1264 = .ok (.iadd, 1) := by decide +kernel
theorem D309_1265 : decode (mB 309) 1265 = .ok (.iaload, 1) := by decide +kernel
theorem D309_1266 : decode (mB 309) 1266 = .ok (.aload_n 0, 1) := by decide +kernel
theorem D309_1267 : decode (mB 309) 1267 = .ok (.iload 4, 2) := by decide +kernel
theorem D309_1269 : decode (mB 309) 1269 = .ok (.iconst 2, 1) := by decide +kernel
theorem D309_1270 : decode (mB 309) 1270 = .ok (.iadd, 1) := by decide +kernel
theorem D309_1271 : decode (mB 309) 1271 = .ok (.iaload, 1) := by decide +kernel
theorem D309_1272 : CS 309 1272 287 0 := ⟨.invokevirtual 129, by decide +kernel, by decide +kernel, by decide +kernel, by decide⟩
theorem D309_1275 : BR 309 1275 (.if_icmp .eq 543) (543) 1818 := ⟨by decide +kernel, by decide, by decide⟩
theorem D309_1278 : decode (mB 309) 1278 = .ok (.iconst 0, 1) := by decide +kernel
theorem D309_1279 : decode (mB 309) 1279 = .ok (.ireturn, 1) := by decide +kernel
theorem D309_1280 : decode (mB 309) 1280 = .ok (.aload_n 1, 1) := by decide +kernel
theorem D309_1281 : decode (mB 309) 1281 = .ok (.aload_n 0, 1) := by decide +kernel
theorem D309_1282 : decode (mB 309) 1282 = .ok (.iload 4, 2) := by decide +kernel
theorem D309_1284 : decode (mB 309) 1284 = .ok (.iconst 1, 1) := by decide +kernel
theorem D309_1285 : decode (mB 309) 1285 = .ok (.iadd, 1) := by decide +kernel
theorem D309_1286 : decode (mB 309) 1286 = .ok (.iaload, 1) := by decide +kernel
theorem D309_1287 : decode (mB 309) 1287 = .ok (.aload_n 0, 1) := by decide +kernel
theorem D309_1288 : decode (mB 309) 1288 = .ok (.iload 4, 2) := by decide +kernel
theorem D309_1290 : decode (mB 309) 1290 = .ok (.iconst 2, 1) := by decide +kernel
theorem D309_1291 : decode (mB 309) 1291 = .ok (.iadd, 1) := by decide +kernel
theorem D309_1292 : decode (mB 309) 1292 = .ok (.iaload, 1) := by decide +kernel
theorem D309_1293 : decode (mB 309) 1293 = .ok (.aload_n 0, 1) := by decide +kernel
theorem D309_1294 : decode (mB 309) 1294 = .ok (.iload 4, 2) := by decide +kernel
theorem D309_1296 : decode (mB 309) 1296 = .ok (.iconst 3, 1) := by decide +kernel
theorem D309_1297 : decode (mB 309) 1297 = .ok (.iadd, 1) := by decide +kernel
theorem D309_1298 : decode (mB 309) 1298 = .ok (.iaload, 1) := by decide +kernel
theorem D309_1299 : decode (mB 309) 1299 = .ok (.aload_n 0, 1) := by decide +kernel
theorem D309_1300 : decode (mB 309) 1300 = .ok (.iload 4, 2) := by decide +kernel
theorem D309_1302 : decode (mB 309) 1302 = .ok (.iconst 4, 1) := by decide +kernel
theorem D309_1303 : decode (mB 309) 1303 = .ok (.iadd, 1) := by decide +kernel
theorem D309_1304 : decode (mB 309) 1304 = .ok (.iaload, 1) := by decide +kernel
theorem D309_1305 : decode (mB 309) 1305 = .ok (.aload_n 0, 1) := by decide +kernel
theorem D309_1306 : decode (mB 309) 1306 = .ok (.iload 4, 2) := by decide +kernel
theorem D309_1308 : decode (mB 309) 1308 = .ok (.iconst 5, 1) := by decide +kernel
theorem D309_1309 : decode (mB 309) 1309 = .ok (.iadd, 1) := by decide +kernel
theorem D309_1310 : decode (mB 309) 1310 = .ok (.iaload, 1) := by decide +kernel
theorem D309_1311 : decode (mB 309) 1311 = .ok (.aload_n 3, 1) := by decide +kernel
theorem D309_1312 : CS 309 1312 308 2 := ⟨.invokestatic 130, by decide +kernel, by decide +kernel, by decide +kernel, by decide⟩
theorem D309_1315 : decode (mB 309) 1315 = .ok (.istore 5, 2) := by decide +kernel
theorem D309_1317 : decode (mB 309) 1317 = .ok (.aload_n 2, 1) := by decide +kernel
theorem D309_1318 : decode (mB 309) 1318 = .ok (.aload_n 0, 1) := by decide +kernel
theorem D309_1319 : decode (mB 309) 1319 = .ok (.iload 4, 2) := by decide +kernel
theorem D309_1321 : decode (mB 309) 1321 = .ok (.iconst 1, 1) := by decide +kernel
theorem D309_1322 : decode (mB 309) 1322 = .ok (.iadd, 1) := by decide +kernel
theorem D309_1323 : decode (mB 309) 1323 = .ok (.iaload, 1) := by decide +kernel
theorem D309_1324 : decode (mB 309) 1324 = .ok (.aload_n 0, 1) := by decide +kernel
theorem D309_1325 : decode (mB 309) 1325 = .ok (.iload 4, 2) := by decide +kernel
theorem D309_1327 : decode (mB 309) 1327 = .ok (.iconst 2, 1) := by decide +kernel
theorem D309_1328 : decode (mB 309) 1328 = .ok (.iadd, 1) := by decide +kernel
theorem D309_1329 : decode (mB 309) 1329 = .ok (.iaload, 1) := by decide +kernel
theorem D309_1330 : decode (mB 309) 1330 = .ok (.aload_n 0, 1) := by decide +kernel
theorem D309_1331 : decode (mB 309) 1331 = .ok (.iload 4, 2) := by decide +kernel
theorem D309_1333 : decode (mB 309) 1333 = .ok (.iconst 3, 1) := by decide +kernel
theorem D309_1334 : decode (mB 309) 1334 = .ok (.iadd, 1) := by decide +kernel
theorem D309_1335 : decode (mB 309) 1335 = .ok (.iaload, 1) := by decide +kernel
theorem D309_1336 : decode (mB 309) 1336 = .ok (.aload_n 0, 1) := by decide +kernel
theorem D309_1337 : decode (mB 309) 1337 = .ok (.iload 4, 2) := by decide +kernel
theorem D309_1339 : decode (mB 309) 1339 = .ok (.iconst 4, 1) := by decide +kernel
theorem D309_1340 : decode (mB 309) 1340 = .ok (.iadd, 1) := by decide +kernel
theorem D309_1341 : decode (mB 309) 1341 = .ok (.iaload, 1) := by decide +kernel
theorem D309_1342 : decode (mB 309) 1342 = .ok (.aload_n 0, 1) := by decide +kernel
theorem D309_1343 : decode (mB 309) 1343 = .ok (.iload 4, 2) := by decide +kernel
theorem D309_1345 : decode (mB 309) 1345 = .ok (.iconst 5, 1) := by decide +kernel
theorem D309_1346 : decode (mB 309) 1346 = .ok (.iadd, 1) := by decide +kernel
theorem D309_1347 : decode (mB 309) 1347 = .ok (.iaload, 1) := by decide +kernel
theorem D309_1348 : CS 309 1348 288 0 := ⟨.invokevirtual 135, by decide +kernel, by decide +kernel, by decide +kernel, by decide⟩
theorem D309_1351 : decode (mB 309) 1351 = .ok (.lstore 6, 2) := by decide +kernel
theorem D309_1353 : decode (mB 309) 1353 = .ok (.aload_n 2, 1) := by decide +kernel
theorem D309_1354 : CS 309 1354 206 0 := ⟨.invokevirtual 136, by decide +kernel, by decide +kernel, by decide +kernel, by decide⟩
theorem D309_1357 : decode (mB 309) 1357 = .ok (.iload 5, 2) := by decide +kernel
theorem D309_1359 : BR 309 1359 (.if_icmp .eq 5) (5) 1364 := ⟨by decide +kernel, by decide, by decide⟩
theorem D309_1364 : decode (mB 309) 1364 = .ok (.iload 5, 2) := by decide +kernel
theorem D309_1366 : BR 309 1366 (.ifCond .ne 14) (14) 1380 := ⟨by decide +kernel, by decide, by decide⟩
theorem D309_1380 : BR 309 1380 (.goto 438) (438) 1818 := ⟨by decide +kernel, by decide, by decide⟩
theorem D309_1369 : decode (mB 309) 1369 = .ok (.aload_n 3, 1) := by decide +kernel
theorem D309_1370 : decode (mB 309) 1370 = .ok (.iconst 0, 1) := by decide +kernel
theorem D309_1371 : decode (mB 309) 1371 = .ok (.laload, 1) := by decide +kernel
theorem D309_1372 : decode (mB 309) 1372 = .ok (.lload 6, 2) := by decide +kernel
theorem D309_1374 : decode (mB 309) 1374 = .ok (.lcmp, 1) := by decide +kernel
theorem D309_1375 : BR 309 1375 (.ifCond .eq 5) (5) 1380 := ⟨by decide +kernel, by decide, by decide⟩
theorem D309_1378 : decode (mB 309) 1378 = .ok (.iconst 0, 1) := by decide +kernel
theorem D309_1379 : decode (mB 309) 1379 = .ok (.ireturn, 1) := by decide +kernel
theorem D309_1362 : decode (mB 309) 1362 = .ok (.iconst 0, 1) := by decide +kernel
theorem D309_1363 : decode (mB 309) 1363 = .ok (.ireturn, 1) := by decide +kernel
theorem D309_1383 : decode (mB 309) 1383 = .ok (.aload_n 1, 1) := by decide +kernel
theorem D309_1384 : decode (mB 309) 1384 = .ok (.aload_n 0, 1) := by decide +kernel
theorem D309_1385 : decode (mB 309) 1385 = .ok (.iload 4, 2) := by decide +kernel
theorem D309_1387 : decode (mB 309) 1387 = .ok (.iconst 1, 1) := by decide +kernel
theorem D309_1388 : decode (mB 309) 1388 = .ok (.iadd, 1) := by decide +kernel
theorem D309_1389 : decode (mB 309) 1389 = .ok (.iaload, 1) := by decide +kernel
theorem D309_1390 : decode (mB 309) 1390 = .ok (.aload_n 0, 1) := by decide +kernel
theorem D309_1391 : decode (mB 309) 1391 = .ok (.iload 4, 2) := by decide +kernel
theorem D309_1393 : decode (mB 309) 1393 = .ok (.iconst 2, 1) := by decide +kernel
theorem D309_1394 : decode (mB 309) 1394 = .ok (.iadd, 1) := by decide +kernel
theorem D309_1395 : decode (mB 309) 1395 = .ok (.iaload, 1) := by decide +kernel
theorem D309_1396 : CS 309 1396 187 0 := ⟨.invokevirtual 139, by decide +kernel, by decide +kernel, by decide +kernel, by decide⟩
theorem D309_1399 : decode (mB 309) 1399 = .ok (.aload_n 2, 1) := by decide +kernel
theorem D309_1400 : decode (mB 309) 1400 = .ok (.aload_n 0, 1) := by decide +kernel
theorem D309_1401 : decode (mB 309) 1401 = .ok (.iload 4, 2) := by decide +kernel
theorem D309_1403 : decode (mB 309) 1403 = .ok (.iconst 1, 1) := by decide +kernel
theorem D309_1404 : decode (mB 309) 1404 = .ok (.iadd, 1) := by decide +kernel
theorem D309_1405 : decode (mB 309) 1405 = .ok (.iaload, 1) := by decide +kernel
theorem D309_1406 : decode (mB 309) 1406 = .ok (.aload_n 0, 1) := by decide +kernel
theorem D309_1407 : decode (mB 309) 1407 = .ok (.iload 4, 2) := by decide +kernel
theorem D309_1409 : decode (mB 309) 1409 = .ok (.iconst 2, 1) := by decide +kernel
theorem D309_1410 : decode (mB 309) 1410 = .ok (.iadd, 1) := by decide +kernel
theorem D309_1411 : decode (mB 309) 1411 = .ok (.iaload, 1) := by decide +kernel
theorem D309_1412 : CS 309 1412 289 0 := ⟨.invokevirtual 142, by decide +kernel, by decide +kernel, by decide +kernel, by decide⟩
theorem D309_1415 : BR 309 1415 (.if_icmp .eq 403) (403) 1818 := ⟨by decide +kernel, by decide, by decide⟩
theorem D309_1418 : decode (mB 309) 1418 = .ok (.iconst 0, 1) := by decide +kernel
theorem D309_1419 : decode (mB 309) 1419 = .ok (.ireturn, 1) := by decide +kernel
theorem D309_1420 : decode (mB 309) 1420 = .ok (.aload_n 1, 1) := by decide +kernel
theorem D309_1421 : decode (mB 309) 1421 = .ok (.aload_n 0, 1) := by decide +kernel
theorem D309_1422 : decode (mB 309) 1422 = .ok (.iload 4, 2) := by decide +kernel
theorem D309_1424 : decode (mB 309) 1424 = .ok (.iconst 1, 1) := by decide +kernel
theorem D309_1425 : decode (mB 309) 1425 = .ok (.iadd, 1) := by decide +kernel
theorem D309_1426 : decode (mB 309) 1426 = .ok (.iaload, 1) := by decide +kernel
theorem D309_1427 : decode (mB 309) 1427 = .ok (.aload_n 0, 1) := by decide +kernel
theorem D309_1428 : decode (mB 309) 1428 = .ok (.iload 4, 2) := by decide +kernel
theorem D309_1430 : decode (mB 309) 1430 = .ok (.iconst 2, 1) := by decide +kernel
theorem D309_1431 : decode (mB 309) 1431 = .ok (.iadd, 1) := by decide +kernel
theorem D309_1432 : decode (mB 309) 1432 = .ok (.iaload, 1) := by decide +kernel
theorem D309_1433 : CS 309 1433 188 0 := ⟨.invokevirtual 143, by decide +kernel, by decide +kernel, by decide +kernel, by decide⟩
theorem D309_1436 : decode (mB 309) 1436 = .ok (.aload_n 2, 1) := by decide +kernel
theorem D309_1437 : decode (mB 309) 1437 = .ok (.aload_n 0, 1) := by decide +kernel
theorem D309_1438 : decode (mB 309) 1438 = .ok (.iload 4, 2) := by decide +kernel
theorem D309_1440 : decode (mB 309) 1440 = .ok (.iconst 1, 1) := by decide +kernel
theorem D309_1441 : decode (mB 309) 1441 = .ok (.iadd, 1) := by decide +kernel
theorem D309_1442 : decode (mB 309) 1442 = .ok (.iaload, 1) := by decide +kernel
theorem D309_1443 : decode (mB 309) 1443 = .ok (.aload_n 0, 1) := by decide +kernel
theorem D309_1444 : decode (mB 309) 1444 = .ok (.iload 4, 2) := by decide +kernel
theorem D309_1446 : decode (mB 309) 1446 = .ok (.iconst 2, 1) := by decide +kernel
theorem D309_1447 : decode (mB 309) 1447 = .ok (.iadd, 1) := by decide +kernel
theorem D309_1448 : decode (mB 309) 1448 = .ok (.iaload, 1) := by decide +kernel
theorem D309_1449 : CS 309 1449 290 0 := ⟨.invokevirtual 146, by decide +kernel, by decide +kernel, by decide +kernel, by decide⟩
theorem D309_1452 : BR 309 1452 (.if_icmp .eq 366) (366) 1818 := ⟨by decide +kernel, by decide, by decide⟩
theorem D309_1455 : decode (mB 309) 1455 = .ok (.iconst 0, 1) := by decide +kernel
theorem D309_1456 : decode (mB 309) 1456 = .ok (.ireturn, 1) := by decide +kernel
theorem D309_1457 : decode (mB 309) 1457 = .ok (.aload_n 1, 1) := by decide +kernel
theorem D309_1458 : decode (mB 309) 1458 = .ok (.aload_n 0, 1) := by decide +kernel
theorem D309_1459 : decode (mB 309) 1459 = .ok (.iload 4, 2) := by decide +kernel
theorem D309_1461 : decode (mB 309) 1461 = .ok (.iconst 1, 1) := by decide +kernel
theorem D309_1462 : decode (mB 309) 1462 = .ok (.iadd, 1) := by decide +kernel
theorem D309_1463 : decode (mB 309) 1463 = .ok (.iaload, 1) := by decide +kernel
theorem D309_1464 : CS 309 1464 191 0 := ⟨.invokevirtual 147, by decide +kernel, by decide +kernel, by decide +kernel, by decide⟩
theorem D309_1467 : decode (mB 309) 1467 = .ok (.aload_n 2, 1) := by decide +kernel
theorem D309_1468 : decode (mB 309) 1468 = .ok (.aload_n 0, 1) := by decide +kernel
theorem D309_1469 : decode (mB 309) 1469 = .ok (.iload 4, 2) := by decide +kernel
theorem D309_1471 : decode (mB 309) 1471 = .ok (.iconst 1, 1) := by decide +kernel
theorem D309_1472 : decode (mB 309) 1472 = .ok (.iadd, 1) := by decide +kernel
theorem D309_1473 : decode (mB 309) 1473 = .ok (.iaload, 1) := by decide +kernel
theorem D309_1474 : CS 309 1474 291 0 := ⟨.invokevirtual 150, by decide +kernel, by decide +kernel, by decide +kernel, by decide⟩
theorem D309_1477 : BR 309 1477 (.if_icmp .eq 341) (341) 1818 := ⟨by decide +kernel, by decide, by decide⟩
theorem D309_1480 : decode (mB 309) 1480 = .ok (.iconst 0, 1) := by decide +kernel
theorem D309_1481 : decode (mB 309) 1481 = .ok (.ireturn, 1) := by decide +kernel
theorem D309_1482 : decode (mB 309) 1482 = .ok (.aload_n 1, 1) := by decide +kernel
theorem D309_1483 : decode (mB 309) 1483 = .ok (.aload_n 0, 1) := by decide +kernel
theorem D309_1484 : decode (mB 309) 1484 = .ok (.iload 4, 2) := by decide +kernel
theorem D309_1486 : decode (mB 309) 1486 = .ok (.iconst 1, 1) := by decide +kernel
theorem D309_1487 : decode (mB 309) 1487 = .ok (.iadd, 1) := by decide +kernel
theorem D309_1488 : decode (mB 309) 1488 = .ok (.iaload, 1) := by decide +kernel
theorem D309_1489 : decode (mB 309) 1489 = .ok (.aload_n 0, 1) := by decide +kernel
theorem D309_1490 : decode (mB 309) 1490 = .ok (.iload 4, 2) := by decide +kernel
theorem D309_1492 : decode (mB 309) 1492 = .ok (.iconst 2, 1) := by decide +kernel
theorem D309_1493 : decode (mB 309) 1493 = .ok (.iadd, 1) := by decide +kernel
theorem D309_1494 : decode (mB 309) 1494 = .ok (.iaload, 1) := by decide +kernel
theorem D309_1495 : CS 309 1495 193 0 := ⟨.invokevirtual 151, by decide +kernel, by decide +kernel, by decide +kernel, by decide⟩
theorem D309_1498 : decode (mB 309) 1498 = .ok (.aload_n 2, 1) := by decide +kernel
theorem D309_1499 : decode (mB 309) 1499 = .ok (.aload_n 0, 1) := by decide +kernel
theorem D309_1500 : decode (mB 309) 1500 = .ok (.iload 4, 2) := by decide +kernel
theorem D309_1502 : decode (mB 309) 1502 = .ok (.iconst 1, 1) := by decide +kernel
theorem D309_1503 : decode (mB 309) 1503 = .ok (.iadd, 1) := by decide +kernel
theorem D309_1504 : decode (mB 309) 1504 = .ok (.iaload, 1) := by decide +kernel
theorem D309_1505 : decode (mB 309) 1505 = .ok (.aload_n 0, 1) := by decide +kernel
theorem D309_1506 : decode (mB 309) 1506 = .ok (.iload 4, 2) := by decide +kernel
theorem D309_1508 : decode (mB 309) 1508 = .ok (.iconst 2, 1) := by decide +kernel
theorem D309_1509 : decode (mB 309) 1509 = .ok (.iadd, 1) := by decide +kernel
theorem D309_1510 : decode (mB 309) 1510 = .ok (.iaload, 1) := by decide +kernel
theorem D309_1511 : CS 309 1511 293 0 := ⟨.invokevirtual 154, by decide +kernel, by decide +kernel, by decide +kernel, by decide⟩
theorem D309_1514 : BR 309 1514 (.if_icmp .eq 304) (304) 1818 := ⟨by decide +kernel, by decide, by decide⟩
theorem D309_1517 : decode (mB 309) 1517 = .ok (.iconst 0, 1) := by decide +kernel
theorem D309_1518 : decode (mB 309) 1518 = .ok (.ireturn, 1) := by decide +kernel
theorem D309_1519 : decode (mB 309) 1519 = .ok (.aload_n 1, 1) := by decide +kernel
theorem D309_1520 : decode (mB 309) 1520 = .ok (.aload_n 0, 1) := by decide +kernel
theorem D309_1521 : decode (mB 309) 1521 = .ok (.iload 4, 2) := by decide +kernel
theorem D309_1523 : decode (mB 309) 1523 = .ok (.iconst 1, 1) := by decide +kernel
theorem D309_1524 : decode (mB 309) 1524 = .ok (.iadd, 1) := by decide +kernel
theorem D309_1525 : decode (mB 309) 1525 = .ok (.iaload, 1) := by decide +kernel
theorem D309_1526 : decode (mB 309) 1526 = .ok (.aload_n 0, 1) := by decide +kernel
theorem D309_1527 : decode (mB 309) 1527 = .ok (.iload 4, 2) := by decide +kernel
theorem D309_1529 : decode (mB 309) 1529 = .ok (.iconst 2, 1) := by decide +kernel
theorem D309_1530 : decode (mB 309) 1530 = .ok (.iadd, 1) := by decide +kernel
theorem D309_1531 : decode (mB 309) 1531 = .ok (.iaload, 1) := by decide +kernel
theorem D309_1532 : CS 309 1532 194 0 := ⟨.invokevirtual 155, by decide +kernel, by decide +kernel, by decide +kernel, by decide⟩
theorem D309_1535 : decode (mB 309) 1535 = .ok (.aload_n 2, 1) := by decide +kernel
theorem D309_1536 : decode (mB 309) 1536 = .ok (.aload_n 0, 1) := by decide +kernel
theorem D309_1537 : decode (mB 309) 1537 = .ok (.iload 4, 2) := by decide +kernel
theorem D309_1539 : decode (mB 309) 1539 = .ok (.iconst 1, 1) := by decide +kernel
theorem D309_1540 : decode (mB 309) 1540 = .ok (.iadd, 1) := by decide +kernel
theorem D309_1541 : decode (mB 309) 1541 = .ok (.iaload, 1) := by decide +kernel
theorem D309_1542 : decode (mB 309) 1542 = .ok (.aload_n 0, 1) := by decide +kernel
theorem D309_1543 : decode (mB 309) 1543 = .ok (.iload 4, 2) := by decide +kernel
theorem D309_1545 : decode (mB 309) 1545 = .ok (.iconst 2, 1) := by decide +kernel
theorem D309_1546 : decode (mB 309) 1546 = .ok (.iadd, 1) := by decide +kernel
theorem D309_1547 : decode (mB 309) 1547 = .ok (.iaload, 1) := by decide +kernel
theorem D309_1548 : CS 309 1548 294 0 := ⟨.invokevirtual 158, by decide +kernel, by decide +kernel, by decide +kernel, by decide⟩
theorem D309_1551 : BR 309 1551 (.if_icmp .eq 267) (267) 1818 := ⟨by decide +kernel, by decide, by decide⟩
theorem D309_1554 : decode (mB 309) 1554 = .ok (.iconst 0, 1) := by decide +kernel
theorem D309_1555 : decode (mB 309) 1555 = .ok (.ireturn, 1) := by decide +kernel
theorem D309_1556 : decode (mB 309) 1556 = .ok (.aload_n 1, 1) := by decide +kernel
theorem D309_1557 : decode (mB 309) 1557 = .ok (.aload_n 0, 1) := by decide +kernel
theorem D309_1558 : decode (mB 309) 1558 = .ok (.iload 4, 2) := by decide +kernel
theorem D309_1560 : decode (mB 309) 1560 = .ok (.iconst 1, 1) := by decide +kernel
theorem D309_1561 : decode (mB 309) 1561 = .ok (.iadd, 1) := by decide +kernel
theorem D309_1562 : decode (mB 309) 1562 = .ok (.iaload, 1) := by decide +kernel
theorem D309_1563 : decode (mB 309) 1563 = .ok (.aload_n 0, 1) := by decide +kernel
theorem D309_1564 : decode (mB 309) 1564 = .ok (.iload 4, 2) := by decide +kernel
theorem D309_1566 : decode (mB 309) 1566 = .ok (.iconst 2, 1) := by decide +kernel
theorem D309_1567 : decode (mB 309) 1567 = .ok (.iadd, 1) := by decide +kernel
theorem D309_1568 : decode (mB 309) 1568 = .ok (.iaload, 1) := by decide +kernel
theorem D309_1569 : decode (mB 309) 1569 = .ok (.aload_n 0, 1) := by decide +kernel
theorem D309_1570 : decode (mB 309) 1570 = .ok (.iload 4, 2) := by decide +kernel
theorem D309_1572 : decode (mB 309) 1572 = .ok (.iconst 3, 1) := by decide +kernel
theorem D309_1573 : decode (mB 309) 1573 = .ok (.iadd, 1) := by decide +kernel
theorem D309_1574 : decode (mB 309) 1574 = .ok (.iaload, 1) := by decide +kernel
theorem D309_1575 : CS 309 1575 150 0 := ⟨.invokevirtual 159, by decide +kernel, by decide +kernel, by decide +kernel, by decide⟩
theorem D309_1578 : decode (mB 309) 1578 = .ok (.aload_n 2, 1) := by decide +kernel
theorem D309_1579 : decode (mB 309) 1579 = .ok (.aload_n 0, 1) := by decide +kernel
theorem D309_1580 : decode (mB 309) 1580 = .ok (.iload 4, 2) := by decide +kernel
theorem D309_1582 : decode (mB 309) 1582 = .ok (.iconst 1, 1) := by decide +kernel
theorem D309_1583 : decode (mB 309) 1583 = .ok (.iadd, 1) := by decide +kernel
theorem D309_1584 : decode (mB 309) 1584 = .ok (.iaload, 1) := by decide +kernel
theorem D309_1585 : decode (mB 309) 1585 = .ok (.aload_n 0, 1) := by decide +kernel
theorem D309_1586 : decode (mB 309) 1586 = .ok (.iload 4, 2) := by decide +kernel
theorem D309_1588 : decode (mB 309) 1588 = .ok (.iconst 2, 1) := by decide +kernel
theorem D309_1589 : decode (mB 309) 1589 = .ok (.iadd, 1) := by decide +kernel
theorem D309_1590 : decode (mB 309) 1590 = .ok (.iaload, 1) := by decide +kernel
theorem D309_1591 : decode (mB 309) 1591 = .ok (.aload_n 0, 1) := by decide +kernel
theorem D309_1592 : decode (mB 309) 1592 = .ok (.iload 4, 2) := by decide +kernel
theorem D309_1594 : decode (mB 309) 1594 = .ok (.iconst 3, 1) := by decide +kernel
theorem D309_1595 : decode (mB 309) 1595 = .ok (.iadd, 1) := by decide +kernel
theorem D309_1596 : decode (mB 309) 1596 = .ok (.iaload, 1) := by decide +kernel
theorem D309_1597 : CS 309 1597 295 0 := ⟨.invokevirtual 162, by decide +kernel, by decide +kernel, by decide +kernel, by decide⟩
theorem D309_1600 : BR 309 1600 (.if_icmp .eq 218) (218) 1818 := ⟨by decide +kernel, by decide, by decide⟩
theorem D309_1603 : decode (mB 309) 1603 = .ok (.iconst 0, 1) := by decide +kernel
theorem D309_1604 : decode (mB 309) 1604 = .ok (.ireturn, 1) := by decide +kernel
theorem D309_1605 : decode (mB 309) 1605 = .ok (.aload_n 1, 1) := by decide +kernel
theorem D309_1606 : decode (mB 309) 1606 = .ok (.aload_n 0, 1) := by decide +kernel
theorem D309_1607 : decode (mB 309) 1607 = .ok (.iload 4, 2) := by decide +kernel
theorem D309_1609 : decode (mB 309) 1609 = .ok (.iconst 1, 1) := by decide +kernel
theorem D309_1610 : decode (mB 309) 1610 = .ok (.iadd, 1) := by decide +kernel
theorem D309_1611 : decode (mB 309) 1611 = .ok (.iaload, 1) := by decide +kernel
theorem D309_1612 : decode (mB 309) 1612 = .ok (.aload_n 0, 1) := by decide +kernel
theorem D309_1613 : decode (mB 309) 1613 = .ok (.iload 4, 2) := by decide +kernel
theorem D309_1615 : decode (mB 309) 1615 = .ok (.iconst 2, 1) := by decide +kernel
theorem D309_1616 : decode (mB 309) 1616 = .ok (.iadd, 1) := by decide +kernel
theorem D309_1617 : decode (mB 309) 1617 = .ok (.iaload, 1) := by decide +kernel
theorem D309_1618 : CS 309 1618 177 0 := ⟨.invokevirtual 163, by decide +kernel, by decide +kernel, by decide +kernel, by decide⟩
theorem D309_1621 : decode (mB 309) 1621 = .ok (.aload_n 2, 1) := by decide +kernel
theorem D309_1622 : decode (mB 309) 1622 = .ok (.aload_n 0, 1) := by decide +kernel
theorem D309_1623 : decode (mB 309) 1623 = .ok (.iload 4, 2) := by decide +kernel
theorem D309_1625 : decode (mB 309) 1625 = .ok (.iconst 1, 1) := by decide +kernel
theorem D309_1626 : decode (mB 309) 1626 = .ok (.iadd, 1) := by decide +kernel
theorem D309_1627 : decode (mB 309) 1627 = .ok (.iaload, 1) := by decide +kernel
theorem D309_1628 : decode (mB 309) 1628 = .ok (.aload_n 0, 1) := by decide +kernel
theorem D309_1629 : decode (mB 309) 1629 = .ok (.iload 4, 2) := by decide +kernel
theorem D309_1631 : decode (mB 309) 1631 = .ok (.iconst 2, 1) := by decide +kernel
theorem D309_1632 : decode (mB 309) 1632 = .ok (.iadd, 1) := by decide +kernel
theorem D309_1633 : decode (mB 309) 1633 = .ok (.iaload, 1) := by decide +kernel
theorem D309_1634 : CS 309 1634 300 0 := ⟨.invokevirtual 166, by decide +kernel, by decide +kernel, by decide +kernel, by decide⟩
theorem D309_1637 : BR 309 1637 (.if_icmp .eq 181) (181) 1818 := ⟨by decide +kernel, by decide, by decide⟩
theorem D309_1640 : decode (mB 309) 1640 = .ok (.iconst 0, 1) := by decide +kernel
theorem D309_1641 : decode (mB 309) 1641 = .ok (.ireturn, 1) := by decide +kernel
theorem D309_1642 : decode (mB 309) 1642 = .ok (.aload_n 1, 1) := by decide +kernel
theorem D309_1643 : decode (mB 309) 1643 = .ok (.aload_n 0, 1) := by decide +kernel
theorem D309_1644 : decode (mB 309) 1644 = .ok (.iload 4, 2) := by decide +kernel
theorem D309_1646 : decode (mB 309) 1646 = .ok (.iconst 1, 1) := by decide +kernel
theorem D309_1647 : decode (mB 309) 1647 = .ok (.iadd, 1) := by decide +kernel
theorem D309_1648 : decode (mB 309) 1648 = .ok (.iaload, 1) := by decide +kernel
theorem D309_1649 : decode (mB 309) 1649 = .ok (.aload_n 0, 1) := by decide +kernel
theorem D309_1650 : decode (mB 309) 1650 = .ok (.iload 4, 2) := by decide +kernel
theorem D309_1652 : decode (mB 309) 1652 = .ok (.iconst 2, 1) := by decide +kernel
theorem D309_1653 : decode (mB 309) 1653 = .ok (.iadd, 1) := by decide +kernel
theorem D309_1654 : decode (mB 309) 1654 = .ok (.iaload, 1) := by decide +kernel
theorem D309_1655 : decode (mB 309) 1655 = .ok (.aload_n 0, 1) := by decide +kernel
theorem D309_1656 : decode (mB 309) 1656 = .ok (.iload 4, 2) := by decide +kernel
theorem D309_1658 : decode (mB 309) 1658 = .ok (.iconst 3, 1) := by decide +kernel
theorem D309_1659 : decode (mB 309) 1659 = .ok (.iadd, 1) := by decide +kernel
theorem D309_1660 : decode (mB 309) 1660 = .ok (.iaload, 1) := by decide +kernel
theorem D309_1661 : decode (mB 309) 1661 = .ok (.aload_n 0, 1) := by decide +kernel
theorem D309_1662 : decode (mB 309) 1662 = .ok (.iload 4, 2) := by decide +kernel
theorem D309_1664 : decode (mB 309) 1664 = .ok (.iconst 4, 1) := by decide +kernel
theorem D309_1665 : decode (mB 309) 1665 = .ok (.iadd, 1) := by decide +kernel
theorem D309_1666 : decode (mB 309) 1666 = .ok (.iaload, 1) := by decide +kernel
theorem D309_1667 : CS 309 1667 173 0 := ⟨.invokevirtual 167, by decide +kernel, by decide +kernel, by decide +kernel, by decide⟩
theorem D309_1670 : decode (mB 309) 1670 = .ok (.aload_n 2, 1) := by decide +kernel
theorem D309_1671 : decode (mB 309) 1671 = .ok (.aload_n 0, 1) := by decide +kernel
theorem D309_1672 : decode (mB 309) 1672 = .ok (.iload 4, 2) := by decide +kernel
theorem D309_1674 : decode (mB 309) 1674 = .ok (.iconst 1, 1) := by decide +kernel
theorem D309_1675 : decode (mB 309) 1675 = .ok (.iadd, 1) := by decide +kernel
theorem D309_1676 : decode (mB 309) 1676 = .ok (.iaload, 1) := by decide +kernel
theorem D309_1677 : decode (mB 309) 1677 = .ok (.aload_n 0, 1) := by decide +kernel
theorem D309_1678 : decode (mB 309) 1678 = .ok (.iload 4, 2) := by decide +kernel
theorem D309_1680 : decode (mB 309) 1680 = .ok (.iconst 2, 1) := by decide +kernel
theorem D309_1681 : decode (mB 309) 1681 = .ok (.iadd, 1) := by decide +kernel
theorem D309_1682 : decode (mB 309) 1682 = .ok (.iaload, 1) := by decide +kernel
theorem D309_1683 : decode (mB 309) 1683 = .ok (.aload_n 0, 1) := by decide +kernel
theorem D309_1684 : decode (mB 309) 1684 = .ok (.iload 4, 2) := by decide +kernel
theorem D309_1686 : decode (mB 309) 1686 = .ok (.iconst 3, 1) := by decide +kernel
theorem D309_1687 : decode (mB 309) 1687 = .ok (.iadd, 1) := by decide +kernel
theorem D309_1688 : decode (mB 309) 1688 = .ok (.iaload, 1) := by decide +kernel
theorem D309_1689 : decode (mB 309) 1689 = .ok (.aload_n 0, 1) := by decide +kernel
theorem D309_1690 : decode (mB 309) 1690 = .ok (.iload 4, 2) := by decide +kernel
theorem D309_1692 : decode (mB 309) 1692 = .ok (.iconst 4, 1) := by decide +kernel
theorem D309_1693 : decode (mB 309) 1693 = .ok (.iadd, 1) := by decide +kernel
theorem D309_1694 : decode (mB 309) 1694 = .ok (.iaload, 1) := by decide +kernel
theorem D309_1695 : CS 309 1695 301 0 := ⟨.invokevirtual 170, by decide +kernel, by decide +kernel, by decide +kernel, by decide⟩
theorem D309_1698 : BR 309 1698 (.if_icmp .eq 120) (120) 1818 := ⟨by decide +kernel, by decide, by decide⟩
theorem D309_1701 : decode (mB 309) 1701 = .ok (.iconst 0, 1) := by decide +kernel
theorem D309_1702 : decode (mB 309) 1702 = .ok (.ireturn, 1) := by decide +kernel
theorem D309_1703 : decode (mB 309) 1703 = .ok (.aload_n 1, 1) := by decide +kernel
theorem D309_1704 : decode (mB 309) 1704 = .ok (.aload_n 0, 1) := by decide +kernel
theorem D309_1705 : decode (mB 309) 1705 = .ok (.iload 4, 2) := by decide +kernel
theorem D309_1707 : decode (mB 309) 1707 = .ok (.iconst 1, 1) := by decide +kernel
theorem D309_1708 : decode (mB 309) 1708 = .ok (.iadd, 1) := by decide +kernel
theorem D309_1709 : decode (mB 309) 1709 = .ok (.iaload, 1) := by decide +kernel
theorem D309_1710 : decode (mB 309) 1710 = .ok (.aload_n 0, 1) := by decide +kernel
theorem D309_1711 : decode (mB 309) 1711 = .ok (.iload 4, 2) := by decide +kernel
theorem D309_1713 : decode (mB 309) 1713 = .ok (.iconst 2, 1) := by decide +kernel
theorem D309_1714 : decode (mB 309) 1714 = .ok (.iadd, 1) := by decide +kernel
theorem D309_1715 : decode (mB 309) 1715 = .ok (.iaload, 1) := by decide +kernel
theorem D309_1716 : CS 309 1716 175 0 := ⟨.invokevirtual 171, by decide +kernel, by decide +kernel, by decide +kernel, by decide⟩
theorem D309_1719 : decode (mB 309) 1719 = .ok (.aload_n 2, 1) := by decide +kernel
theorem D309_1720 : decode (mB 309) 1720 = .ok (.aload_n 0, 1) := by decide +kernel
theorem D309_1721 : decode (mB 309) 1721 = .ok (.iload 4, 2) := by decide +kernel
theorem D309_1723 : decode (mB 309) 1723 = .ok (.iconst 1, 1) := by decide +kernel
theorem D309_1724 : decode (mB 309) 1724 = .ok (.iadd, 1) := by decide +kernel
theorem D309_1725 : decode (mB 309) 1725 = .ok (.iaload, 1) := by decide +kernel
theorem D309_1726 : decode (mB 309) 1726 = .ok (.aload_n 0, 1) := by decide +kernel
theorem D309_1727 : decode (mB 309) 1727 = .ok (.iload 4, 2) := by decide +kernel
theorem D309_1729 : decode (mB 309) 1729 = .ok (.iconst 2, 1) := by decide +kernel
theorem D309_1730 : decode (mB 309) 1730 = .ok (.iadd, 1) := by decide +kernel
theorem D309_1731 : decode (mB 309) 1731 = .ok (.iaload, 1) := by decide +kernel
theorem D309_1732 : CS 309 1732 302 0 := ⟨.invokevirtual 174, by decide +kernel, by decide +kernel, by decide +kernel, by decide⟩
theorem D309_1735 : BR 309 1735 (.if_icmp .eq 83) (83) 1818 := ⟨by decide +kernel, by decide, by decide⟩
theorem D309_1738 : decode (mB 309) 1738 = .ok (.iconst 0, 1) := by decide +kernel
theorem D309_1739 : decode (mB 309) 1739 = .ok (.ireturn, 1) := by decide +kernel
theorem D309_1740 : decode (mB 309) 1740 = .ok (.aload_n 1, 1) := by decide +kernel
theorem D309_1741 : decode (mB 309) 1741 = .ok (.aload_n 0, 1) := by decide +kernel
theorem D309_1742 : decode (mB 309) 1742 = .ok (.iload 4, 2) := by decide +kernel
theorem D309_1744 : decode (mB 309) 1744 = .ok (.iconst 1, 1) := by decide +kernel
theorem D309_1745 : decode (mB 309) 1745 = .ok (.iadd, 1) := by decide +kernel
theorem D309_1746 : decode (mB 309) 1746 = .ok (.iaload, 1) := by decide +kernel
theorem D309_1747 : decode (mB 309) 1747 = .ok (.aload_n 0, 1) := by decide +kernel
theorem D309_1748 : decode (mB 309) 1748 = .ok (.iload 4, 2) := by decide +kernel
theorem D309_1750 : decode (mB 309) 1750 = .ok (.iconst 2, 1) := by decide +kernel
theorem D309_1751 : decode (mB 309) 1751 = .ok (.iadd, 1) := by decide +kernel
theorem D309_1752 : decode (mB 309) 1752 = .ok (.iaload, 1) := by decide +kernel
theorem D309_1753 : BR 309 1753 (.ifCond .eq 7) (7) 1760 := ⟨by decide +kernel, by decide, by decide⟩
theorem D309_1760 : decode (mB 309) 1760 = .ok (.iconst 0, 1) := by decide +kernel
theorem D309_1756 : decode (mB 309) 1756 = .ok (.iconst 1, 1) := by decide +kernel
theorem D309_1757 : BR 309 1757 (.goto 4) (4) 1761 := ⟨by decide +kernel, by decide, by decide⟩
theorem D309_1761 : CS 309 1761 196 0 := ⟨.invokevirtual 175, by decide +kernel, by decide +kernel, by decide +kernel, by decide⟩
theorem D309_1764 : decode (mB 309) 1764 = .ok (.aload_n 2, 1) := by decide +kernel
theorem D309_1765 : decode (mB 309) 1765 = .ok (.aload_n 0, 1) := by decide +kernel
theorem D309_1766 : decode (mB 309) 1766 = .ok (.iload 4, 2) := by decide +kernel
theorem D309_1768 : decode (mB 309) 1768 = .ok (.iconst 1, 1) := by decide +kernel
theorem D309_1769 : decode (mB 309) 1769 = .ok (.iadd, 1) := by decide +kernel
theorem D309_1770 : decode (mB 309) 1770 = .ok (.iaload, 1) := by decide +kernel
theorem D309_1771 : decode (mB 309) 1771 = .ok (.aload_n 0, 1) := by decide +kernel
theorem D309_1772 : decode (mB 309) 1772 = .ok (.iload 4, 2) := by decide +kernel
theorem D309_1774 : decode (mB 309) 1774 = .ok (.iconst 2, 1) := by decide +kernel
theorem D309_1775 : decode (mB 309) 1775 = .ok (.iadd, 1) := by decide +kernel
theorem D309_1776 : decode (mB 309) 1776 = .ok (.iaload, 1) := by decide +kernel
theorem D309_1777 : BR 309 1777 (.ifCond .eq 7) (7) 1784 := ⟨by decide +kernel, by decide, by decide⟩
theorem D309_1784 : decode (mB 309) 1784 = .ok (.iconst 0, 1) := by decide +kernel
theorem D309_1785 : CS 309 1785 303 0 := ⟨.invokevirtual 179, by decide +kernel, by decide +kernel, by decide +kernel, by decide⟩
theorem D309_1788 : BR 309 1788 (.if_icmp .eq 30) (30) 1818 := ⟨by decide +kernel, by decide, by decide⟩
theorem D309_1791 : decode (mB 309) 1791 = .ok (.iconst 0, 1) := by decide +kernel
theorem D309_1792 : decode (mB 309) 1792 = .ok (.ireturn, 1) := by decide +kernel
theorem D309_1780 : decode (mB 309) 1780 = .ok (.iconst 1, 1) := by decide +kernel
theorem D309_1781 : BR 309 1781 (.goto 4) (4) 1785 := ⟨by decide +kernel, by decide, by decide⟩
theorem D309_1793 : decode (mB 309) 1793 = .ok (.aload_n 1, 1) := by decide +kernel
theorem D309_1794 : decode (mB 309) 1794 = .ok (.aload_n 0, 1) := by decide +kernel
theorem D309_1795 : decode (mB 309) 1795 = .ok (.iload 4, 2) := by decide +kernel
theorem D309_1797 : decode (mB 309) 1797 = .ok (.iconst 1, 1) := by decide +kernel
theorem D309_1798 : decode (mB 309) 1798 = .ok (.iadd, 1) := by decide +kernel
theorem D309_1799 : decode (mB 309) 1799 = .ok (.iaload, 1) := by decide +kernel
theorem D309_1800 : CS 309 1800 199 0 := ⟨.invokevirtual 180, by decide +kernel, by decide +kernel, by decide +kernel, by decide⟩
theorem D309_1803 : decode (mB 309) 1803 = .ok (.aload_n 2, 1) := by decide +kernel
theorem D309_1804 : decode (mB 309) 1804 = .ok (.aload_n 0, 1) := by decide +kernel
theorem D309_1805 : decode (mB 309) 1805 = .ok (.iload 4, 2) := by decide +kernel
theorem D309_1807 : decode (mB 309) 1807 = .ok (.iconst 1, 1) := by decide +kernel
theorem D309_1808 : decode (mB 309) 1808 = .ok (.iadd, 1) := by decide +kernel
theorem D309_1809 : decode (mB 309) 1809 = .ok (.iaload, 1) := by decide +kernel
theorem D309_1810 : CS 309 1810 307 0 := ⟨.invokevirtual 183, by decide +kernel, by decide +kernel, by decide +kernel, by decide⟩
theorem D309_1813 : BR 309 1813 (.if_icmp .eq 5) (5) 1818 := ⟨by decide +kernel, by decide, by decide⟩
theorem D309_1816 : decode (mB 309) 1816 = .ok (.iconst 0, 1) := by decide +kernel
theorem D309_1817 : decode (mB 309) 1817 = .ok (.ireturn, 1) := by decide +kernel
theorem D309_1818 : decode (mB 309) 1818 = .ok (.iinc 4 7, 3) := by decide +kernel
theorem D309_1821 : BR 309 1821 (.goto (-1798)) (-1798) 23 := ⟨by decide +kernel, by decide, by decide⟩
