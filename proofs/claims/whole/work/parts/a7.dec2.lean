/-! the law, instruction by instruction -/
theorem dL_law_1175 : decode code 1175 = .ok (.laload, 1) := by decide +kernel
theorem dL_law_1176 : decode code 1176 = .ok (.iload 6, 2) := by decide +kernel
theorem dL_law_1178 : decode code 1178 = .ok (.i2l, 1) := by decide +kernel
theorem dL_law_1179 : decode code 1179 = .ok (.lcmp, 1) := by decide +kernel
theorem dL_law_1180 : decode code 1180 = .ok (.ifCond .eq 5, 3) := by decide +kernel
theorem dL_law_1183 : decode code 1183 = .ok (.iconst 0, 1) := by decide +kernel
theorem dL_law_1184 : decode code 1184 = .ok (.ireturn, 1) := by decide +kernel
theorem dL_law_1185 : decode code 1185 = .ok (.goto 990, 3) := by decide +kernel
theorem dL_law_1188 : decode code 1188 = .ok (.aload_n 1, 1) := by decide +kernel
theorem dL_law_1189 : decode code 1189 = .ok (.aload_n 0, 1) := by decide +kernel
theorem dL_law_1190 : decode code 1190 = .ok (.iload 4, 2) := by decide +kernel
theorem dL_law_1192 : decode code 1192 = .ok (.iconst 1, 1) := by decide +kernel
theorem dL_law_1193 : decode code 1193 = .ok (.iadd, 1) := by decide +kernel
theorem dL_law_1194 : decode code 1194 = .ok (.iaload, 1) := by decide +kernel
theorem dL_law_1195 : decode code 1195 = .ok (.aload_n 0, 1) := by decide +kernel
theorem dL_law_1196 : decode code 1196 = .ok (.iload 4, 2) := by decide +kernel
theorem dL_law_1198 : decode code 1198 = .ok (.iconst 2, 1) := by decide +kernel
theorem dL_law_1199 : decode code 1199 = .ok (.iadd, 1) := by decide +kernel
theorem dL_law_1200 : decode code 1200 = .ok (.iaload, 1) := by decide +kernel
theorem dL_law_1201 : decode code 1201 = .ok (.aload_n 0, 1) := by decide +kernel
theorem dL_law_1202 : decode code 1202 = .ok (.iload 4, 2) := by decide +kernel
theorem dL_law_1204 : decode code 1204 = .ok (.iconst 3, 1) := by decide +kernel
theorem dL_law_1205 : decode code 1205 = .ok (.iadd, 1) := by decide +kernel
theorem dL_law_1206 : decode code 1206 = .ok (.iaload, 1) := by decide +kernel
theorem dL_law_1207 : decode code 1207 = .ok (.aload_n 3, 1) := by decide +kernel
theorem dL_law_1208 : decode code 1208 = .ok (.invokestatic 163, 3) := by decide +kernel
theorem dL_law_1211 : decode code 1211 = .ok (.istore 5, 2) := by decide +kernel
theorem dL_law_1213 : decode code 1213 = .ok (.aload_n 2, 1) := by decide +kernel
theorem dL_law_1214 : decode code 1214 = .ok (.aload_n 0, 1) := by decide +kernel
theorem dL_law_1215 : decode code 1215 = .ok (.iload 4, 2) := by decide +kernel
theorem dL_law_1217 : decode code 1217 = .ok (.iconst 1, 1) := by decide +kernel
theorem dL_law_1218 : decode code 1218 = .ok (.iadd, 1) := by decide +kernel
theorem dL_law_1219 : decode code 1219 = .ok (.iaload, 1) := by decide +kernel
theorem dL_law_1220 : decode code 1220 = .ok (.aload_n 0, 1) := by decide +kernel
theorem dL_law_1221 : decode code 1221 = .ok (.iload 4, 2) := by decide +kernel
theorem dL_law_1223 : decode code 1223 = .ok (.iconst 2, 1) := by decide +kernel
theorem dL_law_1224 : decode code 1224 = .ok (.iadd, 1) := by decide +kernel
theorem dL_law_1225 : decode code 1225 = .ok (.iaload, 1) := by decide +kernel
theorem dL_law_1226 : decode code 1226 = .ok (.aload_n 0, 1) := by decide +kernel
theorem dL_law_1227 : decode code 1227 = .ok (.iload 4, 2) := by decide +kernel
theorem dL_law_1229 : decode code 1229 = .ok (.iconst 3, 1) := by decide +kernel
theorem dL_law_1230 : decode code 1230 = .ok (.iadd, 1) := by decide +kernel
theorem dL_law_1231 : decode code 1231 = .ok (.iaload, 1) := by decide +kernel
theorem dL_law_1232 : decode code 1232 = .ok (.invokevirtual 165, 3) := by decide +kernel
theorem dL_law_1235 : decode code 1235 = .ok (.istore 6, 2) := by decide +kernel
theorem dL_law_1237 : decode code 1237 = .ok (.aload_n 2, 1) := by decide +kernel
theorem dL_law_1238 : decode code 1238 = .ok (.invokevirtual 109, 3) := by decide +kernel
theorem dL_law_1241 : decode code 1241 = .ok (.iload 5, 2) := by decide +kernel
theorem dL_law_1243 : decode code 1243 = .ok (.if_icmp .eq 5, 3) := by decide +kernel
theorem dL_law_1246 : decode code 1246 = .ok (.iconst 0, 1) := by decide +kernel
theorem dL_law_1247 : decode code 1247 = .ok (.ireturn, 1) := by decide +kernel
theorem dL_law_1248 : decode code 1248 = .ok (.iload 5, 2) := by decide +kernel
theorem dL_law_1250 : decode code 1250 = .ok (.ifCond .ne 15, 3) := by decide +kernel
theorem dL_law_1253 : decode code 1253 = .ok (.aload_n 3, 1) := by decide +kernel
theorem dL_law_1254 : decode code 1254 = .ok (.iconst 0, 1) := by decide +kernel
theorem dL_law_1255 : decode code 1255 = .ok (.laload, 1) := by decide +kernel
theorem dL_law_1256 : decode code 1256 = .ok (.iload 6, 2) := by decide +kernel
theorem dL_law_1258 : decode code 1258 = .ok (.i2l, 1) := by decide +kernel
theorem dL_law_1259 : decode code 1259 = .ok (.lcmp, 1) := by decide +kernel
theorem dL_law_1260 : decode code 1260 = .ok (.ifCond .eq 5, 3) := by decide +kernel
theorem dL_law_1263 : decode code 1263 = .ok (.iconst 0, 1) := by decide +kernel
theorem dL_law_1264 : decode code 1264 = .ok (.ireturn, 1) := by decide +kernel
theorem dL_law_1265 : decode code 1265 = .ok (.goto 910, 3) := by decide +kernel
theorem dL_law_1268 : decode code 1268 = .ok (.aload_n 1, 1) := by decide +kernel
theorem dL_law_1269 : decode code 1269 = .ok (.aload_n 0, 1) := by decide +kernel
theorem dL_law_1270 : decode code 1270 = .ok (.iload 4, 2) := by decide +kernel
theorem dL_law_1272 : decode code 1272 = .ok (.iconst 1, 1) := by decide +kernel
theorem dL_law_1273 : decode code 1273 = .ok (.iadd, 1) := by decide +kernel
theorem dL_law_1274 : decode code 1274 = .ok (.iaload, 1) := by decide +kernel
theorem dL_law_1275 : decode code 1275 = .ok (.aload_n 0, 1) := by decide +kernel
theorem dL_law_1276 : decode code 1276 = .ok (.iload 4, 2) := by decide +kernel
theorem dL_law_1278 : decode code 1278 = .ok (.iconst 2, 1) := by decide +kernel
theorem dL_law_1279 : decode code 1279 = .ok (.iadd, 1) := by decide +kernel
theorem dL_law_1280 : decode code 1280 = .ok (.iaload, 1) := by decide +kernel
theorem dL_law_1281 : decode code 1281 = .ok (.aload_n 3, 1) := by decide +kernel
theorem dL_law_1282 : decode code 1282 = .ok (.invokestatic 166, 3) := by decide +kernel
theorem dL_law_1285 : decode code 1285 = .ok (.istore 5, 2) := by decide +kernel
theorem dL_law_1287 : decode code 1287 = .ok (.aload_n 2, 1) := by decide +kernel
theorem dL_law_1288 : decode code 1288 = .ok (.aload_n 0, 1) := by decide +kernel
theorem dL_law_1289 : decode code 1289 = .ok (.iload 4, 2) := by decide +kernel
theorem dL_law_1291 : decode code 1291 = .ok (.iconst 1, 1) := by decide +kernel
theorem dL_law_1292 : decode code 1292 = .ok (.iadd, 1) := by decide +kernel
theorem dL_law_1293 : decode code 1293 = .ok (.iaload, 1) := by decide +kernel
theorem dL_law_1294 : decode code 1294 = .ok (.aload_n 0, 1) := by decide +kernel
theorem dL_law_1295 : decode code 1295 = .ok (.iload 4, 2) := by decide +kernel
theorem dL_law_1297 : decode code 1297 = .ok (.iconst 2, 1) := by decide +kernel
theorem dL_law_1298 : decode code 1298 = .ok (.iadd, 1) := by decide +kernel
theorem dL_law_1299 : decode code 1299 = .ok (.iaload, 1) := by decide +kernel
theorem dL_law_1300 : decode code 1300 = .ok (.invokevirtual 168, 3) := by decide +kernel
theorem dL_law_1303 : decode code 1303 = .ok (.istore 6, 2) := by decide +kernel
theorem dL_law_1305 : decode code 1305 = .ok (.aload_n 2, 1) := by decide +kernel
theorem dL_law_1306 : decode code 1306 = .ok (.invokevirtual 109, 3) := by decide +kernel
theorem dL_law_1309 : decode code 1309 = .ok (.iload 5, 2) := by decide +kernel
theorem dL_law_1311 : decode code 1311 = .ok (.if_icmp .eq 5, 3) := by decide +kernel
theorem dL_law_1314 : decode code 1314 = .ok (.iconst 0, 1) := by decide +kernel
theorem dL_law_1315 : decode code 1315 = .ok (.ireturn, 1) := by decide +kernel
theorem dL_law_1316 : decode code 1316 = .ok (.iload 5, 2) := by decide +kernel
theorem dL_law_1318 : decode code 1318 = .ok (.ifCond .ne 15, 3) := by decide +kernel
theorem dL_law_1321 : decode code 1321 = .ok (.aload_n 3, 1) := by decide +kernel
theorem dL_law_1322 : decode code 1322 = .ok (.iconst 0, 1) := by decide +kernel
theorem dL_law_1323 : decode code 1323 = .ok (.laload, 1) := by decide +kernel
theorem dL_law_1324 : decode code 1324 = .ok (.iload 6, 2) := by decide +kernel
theorem dL_law_1326 : decode code 1326 = .ok (.i2l, 1) := by decide +kernel
theorem dL_law_1327 : decode code 1327 = .ok (.lcmp, 1) := by decide +kernel
theorem dL_law_1328 : decode code 1328 = .ok (.ifCond .eq 5, 3) := by decide +kernel
theorem dL_law_1331 : decode code 1331 = .ok (.iconst 0, 1) := by decide +kernel
theorem dL_law_1332 : decode code 1332 = .ok (.ireturn, 1) := by decide +kernel
theorem dL_law_1333 : decode code 1333 = .ok (.goto 842, 3) := by decide +kernel
theorem dL_law_1336 : decode code 1336 = .ok (.aload_n 1, 1) := by decide +kernel
theorem dL_law_1337 : decode code 1337 = .ok (.aload_n 0, 1) := by decide +kernel
theorem dL_law_1338 : decode code 1338 = .ok (.iload 4, 2) := by decide +kernel
theorem dL_law_1340 : decode code 1340 = .ok (.iconst 1, 1) := by decide +kernel
theorem dL_law_1341 : decode code 1341 = .ok (.iadd, 1) := by decide +kernel
theorem dL_law_1342 : decode code 1342 = .ok (.iaload, 1) := by decide +kernel
theorem dL_law_1343 : decode code 1343 = .ok (.aload_n 0, 1) := by decide +kernel
theorem dL_law_1344 : decode code 1344 = .ok (.iload 4, 2) := by decide +kernel
theorem dL_law_1346 : decode code 1346 = .ok (.iconst 2, 1) := by decide +kernel
theorem dL_law_1347 : decode code 1347 = .ok (.iadd, 1) := by decide +kernel
theorem dL_law_1348 : decode code 1348 = .ok (.iaload, 1) := by decide +kernel
theorem dL_law_1349 : decode code 1349 = .ok (.aload_n 0, 1) := by decide +kernel
theorem dL_law_1350 : decode code 1350 = .ok (.iload 4, 2) := by decide +kernel
theorem dL_law_1352 : decode code 1352 = .ok (.iconst 3, 1) := by decide +kernel
theorem dL_law_1353 : decode code 1353 = .ok (.iadd, 1) := by decide +kernel
theorem dL_law_1354 : decode code 1354 = .ok (.iaload, 1) := by decide +kernel
theorem dL_law_1355 : decode code 1355 = .ok (.aload_n 0, 1) := by decide +kernel
theorem dL_law_1356 : decode code 1356 = .ok (.iload 4, 2) := by decide +kernel
theorem dL_law_1358 : decode code 1358 = .ok (.iconst 4, 1) := by decide +kernel
theorem dL_law_1359 : decode code 1359 = .ok (.iadd, 1) := by decide +kernel
theorem dL_law_1360 : decode code 1360 = .ok (.iaload, 1) := by decide +kernel
theorem dL_law_1361 : decode code 1361 = .ok (.aload_n 3, 1) := by decide +kernel
theorem dL_law_1362 : decode code 1362 = .ok (.invokestatic 169, 3) := by decide +kernel
theorem dL_law_1365 : decode code 1365 = .ok (.istore 5, 2) := by decide +kernel
theorem dL_law_1367 : decode code 1367 = .ok (.aload_n 2, 1) := by decide +kernel
theorem dL_law_1368 : decode code 1368 = .ok (.aload_n 0, 1) := by decide +kernel
theorem dL_law_1369 : decode code 1369 = .ok (.iload 4, 2) := by decide +kernel
theorem dL_law_1371 : decode code 1371 = .ok (.iconst 1, 1) := by decide +kernel
theorem dL_law_1372 : decode code 1372 = .ok (.iadd, 1) := by decide +kernel
theorem dL_law_1373 : decode code 1373 = .ok (.iaload, 1) := by decide +kernel
theorem dL_law_1374 : decode code 1374 = .ok (.aload_n 0, 1) := by decide +kernel
theorem dL_law_1375 : decode code 1375 = .ok (.iload 4, 2) := by decide +kernel
theorem dL_law_1377 : decode code 1377 = .ok (.iconst 2, 1) := by decide +kernel
theorem dL_law_1378 : decode code 1378 = .ok (.iadd, 1) := by decide +kernel
theorem dL_law_1379 : decode code 1379 = .ok (.iaload, 1) := by decide +kernel
theorem dL_law_1380 : decode code 1380 = .ok (.aload_n 0, 1) := by decide +kernel
theorem dL_law_1381 : decode code 1381 = .ok (.iload 4, 2) := by decide +kernel
theorem dL_law_1383 : decode code 1383 = .ok (.iconst 3, 1) := by decide +kernel
theorem dL_law_1384 : decode code 1384 = .ok (.iadd, 1) := by decide +kernel
theorem dL_law_1385 : decode code 1385 = .ok (.iaload, 1) := by decide +kernel
theorem dL_law_1386 : decode code 1386 = .ok (.aload_n 0, 1) := by decide +kernel
theorem dL_law_1387 : decode code 1387 = .ok (.iload 4, 2) := by decide +kernel
theorem dL_law_1389 : decode code 1389 = .ok (.iconst 4, 1) := by decide +kernel
theorem dL_law_1390 : decode code 1390 = .ok (.iadd, 1) := by decide +kernel
theorem dL_law_1391 : decode code 1391 = .ok (.iaload, 1) := by decide +kernel
theorem dL_law_1392 : decode code 1392 = .ok (.invokevirtual 172, 3) := by decide +kernel
theorem dL_law_1395 : decode code 1395 = .ok (.istore 6, 2) := by decide +kernel
theorem dL_law_1397 : decode code 1397 = .ok (.aload_n 2, 1) := by decide +kernel
theorem dL_law_1398 : decode code 1398 = .ok (.invokevirtual 109, 3) := by decide +kernel
theorem dL_law_1401 : decode code 1401 = .ok (.iload 5, 2) := by decide +kernel
theorem dL_law_1403 : decode code 1403 = .ok (.if_icmp .eq 5, 3) := by decide +kernel
theorem dL_law_1406 : decode code 1406 = .ok (.iconst 0, 1) := by decide +kernel
theorem dL_law_1407 : decode code 1407 = .ok (.ireturn, 1) := by decide +kernel
theorem dL_law_1408 : decode code 1408 = .ok (.iload 5, 2) := by decide +kernel
theorem dL_law_1410 : decode code 1410 = .ok (.ifCond .ne 15, 3) := by decide +kernel
theorem dL_law_1413 : decode code 1413 = .ok (.aload_n 3, 1) := by decide +kernel
theorem dL_law_1414 : decode code 1414 = .ok (.iconst 0, 1) := by decide +kernel
theorem dL_law_1415 : decode code 1415 = .ok (.laload, 1) := by decide +kernel
theorem dL_law_1416 : decode code 1416 = .ok (.iload 6, 2) := by decide +kernel
theorem dL_law_1418 : decode code 1418 = .ok (.i2l, 1) := by decide +kernel
theorem dL_law_1419 : decode code 1419 = .ok (.lcmp, 1) := by decide +kernel
theorem dL_law_1420 : decode code 1420 = .ok (.ifCond .eq 5, 3) := by decide +kernel
theorem dL_law_1423 : decode code 1423 = .ok (.iconst 0, 1) := by decide +kernel
theorem dL_law_1424 : decode code 1424 = .ok (.ireturn, 1) := by decide +kernel
theorem dL_law_1425 : decode code 1425 = .ok (.goto 750, 3) := by decide +kernel
theorem dL_law_1428 : decode code 1428 = .ok (.aload_n 1, 1) := by decide +kernel
theorem dL_law_1429 : decode code 1429 = .ok (.aload_n 0, 1) := by decide +kernel
theorem dL_law_1430 : decode code 1430 = .ok (.iload 4, 2) := by decide +kernel
theorem dL_law_1432 : decode code 1432 = .ok (.iconst 1, 1) := by decide +kernel
theorem dL_law_1433 : decode code 1433 = .ok (.iadd, 1) := by decide +kernel
theorem dL_law_1434 : decode code 1434 = .ok (.iaload, 1) := by decide +kernel
theorem dL_law_1435 : decode code 1435 = .ok (.aload_n 0, 1) := by decide +kernel
theorem dL_law_1436 : decode code 1436 = .ok (.iload 4, 2) := by decide +kernel
theorem dL_law_1438 : decode code 1438 = .ok (.iconst 2, 1) := by decide +kernel
theorem dL_law_1439 : decode code 1439 = .ok (.iadd, 1) := by decide +kernel
theorem dL_law_1440 : decode code 1440 = .ok (.iaload, 1) := by decide +kernel
theorem dL_law_1441 : decode code 1441 = .ok (.aload_n 0, 1) := by decide +kernel
theorem dL_law_1442 : decode code 1442 = .ok (.iload 4, 2) := by decide +kernel
theorem dL_law_1444 : decode code 1444 = .ok (.iconst 3, 1) := by decide +kernel
theorem dL_law_1445 : decode code 1445 = .ok (.iadd, 1) := by decide +kernel
theorem dL_law_1446 : decode code 1446 = .ok (.iaload, 1) := by decide +kernel
theorem dL_law_1447 : decode code 1447 = .ok (.aload_n 0, 1) := by decide +kernel
theorem dL_law_1448 : decode code 1448 = .ok (.iload 4, 2) := by decide +kernel
theorem dL_law_1450 : decode code 1450 = .ok (.iconst 4, 1) := by decide +kernel
theorem dL_law_1451 : decode code 1451 = .ok (.iadd, 1) := by decide +kernel
theorem dL_law_1452 : decode code 1452 = .ok (.iaload, 1) := by decide +kernel
theorem dL_law_1453 : decode code 1453 = .ok (.aload_n 3, 1) := by decide +kernel
theorem dL_law_1454 : decode code 1454 = .ok (.invokestatic 173, 3) := by decide +kernel
theorem dL_law_1457 : decode code 1457 = .ok (.istore 5, 2) := by decide +kernel
theorem dL_law_1459 : decode code 1459 = .ok (.aload_n 2, 1) := by decide +kernel
theorem dL_law_1460 : decode code 1460 = .ok (.aload_n 0, 1) := by decide +kernel
theorem dL_law_1461 : decode code 1461 = .ok (.iload 4, 2) := by decide +kernel
theorem dL_law_1463 : decode code 1463 = .ok (.iconst 1, 1) := by decide +kernel
theorem dL_law_1464 : decode code 1464 = .ok (.iadd, 1) := by decide +kernel
theorem dL_law_1465 : decode code 1465 = .ok (.iaload, 1) := by decide +kernel
theorem dL_law_1466 : decode code 1466 = .ok (.aload_n 0, 1) := by decide +kernel
theorem dL_law_1467 : decode code 1467 = .ok (.iload 4, 2) := by decide +kernel
theorem dL_law_1469 : decode code 1469 = .ok (.iconst 2, 1) := by decide +kernel
theorem dL_law_1470 : decode code 1470 = .ok (.iadd, 1) := by decide +kernel
theorem dL_law_1471 : decode code 1471 = .ok (.iaload, 1) := by decide +kernel
theorem dL_law_1472 : decode code 1472 = .ok (.aload_n 0, 1) := by decide +kernel
theorem dL_law_1473 : decode code 1473 = .ok (.iload 4, 2) := by decide +kernel
theorem dL_law_1475 : decode code 1475 = .ok (.iconst 3, 1) := by decide +kernel
theorem dL_law_1476 : decode code 1476 = .ok (.iadd, 1) := by decide +kernel
theorem dL_law_1477 : decode code 1477 = .ok (.iaload, 1) := by decide +kernel
theorem dL_law_1478 : decode code 1478 = .ok (.aload_n 0, 1) := by decide +kernel
theorem dL_law_1479 : decode code 1479 = .ok (.iload 4, 2) := by decide +kernel
theorem dL_law_1481 : decode code 1481 = .ok (.iconst 4, 1) := by decide +kernel
theorem dL_law_1482 : decode code 1482 = .ok (.iadd, 1) := by decide +kernel
theorem dL_law_1483 : decode code 1483 = .ok (.iaload, 1) := by decide +kernel
theorem dL_law_1484 : decode code 1484 = .ok (.invokevirtual 175, 3) := by decide +kernel
theorem dL_law_1487 : decode code 1487 = .ok (.istore 6, 2) := by decide +kernel
theorem dL_law_1489 : decode code 1489 = .ok (.aload_n 2, 1) := by decide +kernel
theorem dL_law_1490 : decode code 1490 = .ok (.invokevirtual 109, 3) := by decide +kernel
theorem dL_law_1493 : decode code 1493 = .ok (.iload 5, 2) := by decide +kernel
theorem dL_law_1495 : decode code 1495 = .ok (.if_icmp .eq 5, 3) := by decide +kernel
theorem dL_law_1498 : decode code 1498 = .ok (.iconst 0, 1) := by decide +kernel
theorem dL_law_1499 : decode code 1499 = .ok (.ireturn, 1) := by decide +kernel
theorem dL_law_1500 : decode code 1500 = .ok (.iload 5, 2) := by decide +kernel
theorem dL_law_1502 : decode code 1502 = .ok (.ifCond .ne 15, 3) := by decide +kernel
theorem dL_law_1505 : decode code 1505 = .ok (.aload_n 3, 1) := by decide +kernel
theorem dL_law_1506 : decode code 1506 = .ok (.iconst 0, 1) := by decide +kernel
theorem dL_law_1507 : decode code 1507 = .ok (.laload, 1) := by decide +kernel
theorem dL_law_1508 : decode code 1508 = .ok (.iload 6, 2) := by decide +kernel
theorem dL_law_1510 : decode code 1510 = .ok (.i2l, 1) := by decide +kernel
theorem dL_law_1511 : decode code 1511 = .ok (.lcmp, 1) := by decide +kernel
theorem dL_law_1512 : decode code 1512 = .ok (.ifCond .eq 5, 3) := by decide +kernel
theorem dL_law_1515 : decode code 1515 = .ok (.iconst 0, 1) := by decide +kernel
theorem dL_law_1516 : decode code 1516 = .ok (.ireturn, 1) := by decide +kernel
theorem dL_law_1517 : decode code 1517 = .ok (.goto 658, 3) := by decide +kernel
theorem dL_law_1520 : decode code 1520 = .ok (.aload_n 1, 1) := by decide +kernel
theorem dL_law_1521 : decode code 1521 = .ok (.aload_n 0, 1) := by decide +kernel
theorem dL_law_1522 : decode code 1522 = .ok (.iload 4, 2) := by decide +kernel
theorem dL_law_1524 : decode code 1524 = .ok (.iconst 1, 1) := by decide +kernel
theorem dL_law_1525 : decode code 1525 = .ok (.iadd, 1) := by decide +kernel
theorem dL_law_1526 : decode code 1526 = .ok (.iaload, 1) := by decide +kernel
theorem dL_law_1527 : decode code 1527 = .ok (.aload_n 0, 1) := by decide +kernel
theorem dL_law_1528 : decode code 1528 = .ok (.iload 4, 2) := by decide +kernel
theorem dL_law_1530 : decode code 1530 = .ok (.iconst 2, 1) := by decide +kernel
theorem dL_law_1531 : decode code 1531 = .ok (.iadd, 1) := by decide +kernel
theorem dL_law_1532 : decode code 1532 = .ok (.iaload, 1) := by decide +kernel
theorem dL_law_1533 : decode code 1533 = .ok (.aload_n 0, 1) := by decide +kernel
theorem dL_law_1534 : decode code 1534 = .ok (.iload 4, 2) := by decide +kernel
theorem dL_law_1536 : decode code 1536 = .ok (.iconst 3, 1) := by decide +kernel
theorem dL_law_1537 : decode code 1537 = .ok (.iadd, 1) := by decide +kernel
theorem dL_law_1538 : decode code 1538 = .ok (.iaload, 1) := by decide +kernel
theorem dL_law_1539 : decode code 1539 = .ok (.aload_n 3, 1) := by decide +kernel
theorem dL_law_1540 : decode code 1540 = .ok (.invokestatic 176, 3) := by decide +kernel
theorem dL_law_1543 : decode code 1543 = .ok (.istore 5, 2) := by decide +kernel
theorem dL_law_1545 : decode code 1545 = .ok (.aload_n 2, 1) := by decide +kernel
theorem dL_law_1546 : decode code 1546 = .ok (.aload_n 0, 1) := by decide +kernel
theorem dL_law_1547 : decode code 1547 = .ok (.iload 4, 2) := by decide +kernel
theorem dL_law_1549 : decode code 1549 = .ok (.iconst 1, 1) := by decide +kernel
theorem dL_law_1550 : decode code 1550 = .ok (.iadd, 1) := by decide +kernel
theorem dL_law_1551 : decode code 1551 = .ok (.iaload, 1) := by decide +kernel
theorem dL_law_1552 : decode code 1552 = .ok (.aload_n 0, 1) := by decide +kernel
theorem dL_law_1553 : decode code 1553 = .ok (.iload 4, 2) := by decide +kernel
theorem dL_law_1555 : decode code 1555 = .ok (.iconst 2, 1) := by decide +kernel
theorem dL_law_1556 : decode code 1556 = .ok (.iadd, 1) := by decide +kernel
theorem dL_law_1557 : decode code 1557 = .ok (.iaload, 1) := by decide +kernel
theorem dL_law_1558 : decode code 1558 = .ok (.aload_n 0, 1) := by decide +kernel
theorem dL_law_1559 : decode code 1559 = .ok (.iload 4, 2) := by decide +kernel
theorem dL_law_1561 : decode code 1561 = .ok (.iconst 3, 1) := by decide +kernel
theorem dL_law_1562 : decode code 1562 = .ok (.iadd, 1) := by decide +kernel
theorem dL_law_1563 : decode code 1563 = .ok (.iaload, 1) := by decide +kernel
theorem dL_law_1564 : decode code 1564 = .ok (.invokevirtual 178, 3) := by decide +kernel
theorem dL_law_1567 : decode code 1567 = .ok (.istore 6, 2) := by decide +kernel
theorem dL_law_1569 : decode code 1569 = .ok (.aload_n 2, 1) := by decide +kernel
theorem dL_law_1570 : decode code 1570 = .ok (.invokevirtual 109, 3) := by decide +kernel
theorem dL_law_1573 : decode code 1573 = .ok (.iload 5, 2) := by decide +kernel
theorem dL_law_1575 : decode code 1575 = .ok (.if_icmp .eq 5, 3) := by decide +kernel
theorem dL_law_1578 : decode code 1578 = .ok (.iconst 0, 1) := by decide +kernel
theorem dL_law_1579 : decode code 1579 = .ok (.ireturn, 1) := by decide +kernel
theorem dL_law_1580 : decode code 1580 = .ok (.iload 5, 2) := by decide +kernel
theorem dL_law_1582 : decode code 1582 = .ok (.ifCond .ne 15, 3) := by decide +kernel
theorem dL_law_1585 : decode code 1585 = .ok (.aload_n 3, 1) := by decide +kernel
theorem dL_law_1586 : decode code 1586 = .ok (.iconst 0, 1) := by decide +kernel
theorem dL_law_1587 : decode code 1587 = .ok (.laload, 1) := by decide +kernel
theorem dL_law_1588 : decode code 1588 = .ok (.iload 6, 2) := by decide +kernel
theorem dL_law_1590 : decode code 1590 = .ok (.i2l, 1) := by decide +kernel
theorem dL_law_1591 : decode code 1591 = .ok (.lcmp, 1) := by decide +kernel
theorem dL_law_1592 : decode code 1592 = .ok (.ifCond .eq 5, 3) := by decide +kernel
theorem dL_law_1595 : decode code 1595 = .ok (.iconst 0, 1) := by decide +kernel
theorem dL_law_1596 : decode code 1596 = .ok (.ireturn, 1) := by decide +kernel
theorem dL_law_1597 : decode code 1597 = .ok (.goto 578, 3) := by decide +kernel
theorem dL_law_1600 : decode code 1600 = .ok (.aload_n 1, 1) := by decide +kernel
theorem dL_law_1601 : decode code 1601 = .ok (.aload_n 0, 1) := by decide +kernel
theorem dL_law_1602 : decode code 1602 = .ok (.iload 4, 2) := by decide +kernel
theorem dL_law_1604 : decode code 1604 = .ok (.iconst 1, 1) := by decide +kernel
theorem dL_law_1605 : decode code 1605 = .ok (.iadd, 1) := by decide +kernel
theorem dL_law_1606 : decode code 1606 = .ok (.iaload, 1) := by decide +kernel
theorem dL_law_1607 : decode code 1607 = .ok (.aload_n 0, 1) := by decide +kernel
theorem dL_law_1608 : decode code 1608 = .ok (.iload 4, 2) := by decide +kernel
theorem dL_law_1610 : decode code 1610 = .ok (.iconst 2, 1) := by decide +kernel
theorem dL_law_1611 : decode code 1611 = .ok (.iadd, 1) := by decide +kernel
theorem dL_law_1612 : decode code 1612 = .ok (.iaload, 1) := by decide +kernel
theorem dL_law_1613 : decode code 1613 = .ok (.aload_n 0, 1) := by decide +kernel
theorem dL_law_1614 : decode code 1614 = .ok (.iload 4, 2) := by decide +kernel
theorem dL_law_1616 : decode code 1616 = .ok (.iconst 3, 1) := by decide +kernel
theorem dL_law_1617 : decode code 1617 = .ok (.iadd, 1) := by decide +kernel
theorem dL_law_1618 : decode code 1618 = .ok (.iaload, 1) := by decide +kernel
theorem dL_law_1619 : decode code 1619 = .ok (.aload_n 0, 1) := by decide +kernel
theorem dL_law_1620 : decode code 1620 = .ok (.iload 4, 2) := by decide +kernel
theorem dL_law_1622 : decode code 1622 = .ok (.iconst 4, 1) := by decide +kernel
theorem dL_law_1623 : decode code 1623 = .ok (.iadd, 1) := by decide +kernel
theorem dL_law_1624 : decode code 1624 = .ok (.iaload, 1) := by decide +kernel
theorem dL_law_1625 : decode code 1625 = .ok (.aload_n 3, 1) := by decide +kernel
theorem dL_law_1626 : decode code 1626 = .ok (.invokestatic 179, 3) := by decide +kernel
theorem dL_law_1629 : decode code 1629 = .ok (.istore 5, 2) := by decide +kernel
theorem dL_law_1631 : decode code 1631 = .ok (.aload_n 2, 1) := by decide +kernel
theorem dL_law_1632 : decode code 1632 = .ok (.aload_n 0, 1) := by decide +kernel
theorem dL_law_1633 : decode code 1633 = .ok (.iload 4, 2) := by decide +kernel
theorem dL_law_1635 : decode code 1635 = .ok (.iconst 1, 1) := by decide +kernel
theorem dL_law_1636 : decode code 1636 = .ok (.iadd, 1) := by decide +kernel
theorem dL_law_1637 : decode code 1637 = .ok (.iaload, 1) := by decide +kernel
theorem dL_law_1638 : decode code 1638 = .ok (.aload_n 0, 1) := by decide +kernel
theorem dL_law_1639 : decode code 1639 = .ok (.iload 4, 2) := by decide +kernel
theorem dL_law_1641 : decode code 1641 = .ok (.iconst 2, 1) := by decide +kernel
theorem dL_law_1642 : decode code 1642 = .ok (.iadd, 1) := by decide +kernel
theorem dL_law_1643 : decode code 1643 = .ok (.iaload, 1) := by decide +kernel
theorem dL_law_1644 : decode code 1644 = .ok (.aload_n 0, 1) := by decide +kernel
theorem dL_law_1645 : decode code 1645 = .ok (.iload 4, 2) := by decide +kernel
theorem dL_law_1647 : decode code 1647 = .ok (.iconst 3, 1) := by decide +kernel
theorem dL_law_1648 : decode code 1648 = .ok (.iadd, 1) := by decide +kernel
theorem dL_law_1649 : decode code 1649 = .ok (.iaload, 1) := by decide +kernel
theorem dL_law_1650 : decode code 1650 = .ok (.aload_n 0, 1) := by decide +kernel
theorem dL_law_1651 : decode code 1651 = .ok (.iload 4, 2) := by decide +kernel
theorem dL_law_1653 : decode code 1653 = .ok (.iconst 4, 1) := by decide +kernel
theorem dL_law_1654 : decode code 1654 = .ok (.iadd, 1) := by decide +kernel
theorem dL_law_1655 : decode code 1655 = .ok (.iaload, 1) := by decide +kernel
theorem dL_law_1656 : decode code 1656 = .ok (.invokevirtual 181, 3) := by decide +kernel
theorem dL_law_1659 : decode code 1659 = .ok (.istore 6, 2) := by decide +kernel
theorem dL_law_1661 : decode code 1661 = .ok (.aload_n 2, 1) := by decide +kernel
theorem dL_law_1662 : decode code 1662 = .ok (.invokevirtual 109, 3) := by decide +kernel
theorem dL_law_1665 : decode code 1665 = .ok (.iload 5, 2) := by decide +kernel
theorem dL_law_1667 : decode code 1667 = .ok (.if_icmp .eq 5, 3) := by decide +kernel
theorem dL_law_1670 : decode code 1670 = .ok (.iconst 0, 1) := by decide +kernel
