/-! ===== the law's instructions, 3 ===== -/
theorem dl_1164 : decode code 1164 = .ok (.ireturn, 1) := by decide +kernel
theorem dl_1165 : decode code 1165 = .ok (.aload_n 1, 1) := by decide +kernel
theorem dl_1166 : decode code 1166 = .ok (.aload_n 0, 1) := by decide +kernel
theorem dl_1167 : decode code 1167 = .ok (.iload_n 3, 1) := by decide +kernel
theorem dl_1168 : decode code 1168 = .ok (.iconst 1, 1) := by decide +kernel
theorem dl_1169 : decode code 1169 = .ok (.iadd, 1) := by decide +kernel
theorem dl_1170 : decode code 1170 = .ok (.iaload, 1) := by decide +kernel
theorem dl_1171 : decode code 1171 = .ok (.aload_n 0, 1) := by decide +kernel
theorem dl_1172 : decode code 1172 = .ok (.iload_n 3, 1) := by decide +kernel
theorem dl_1173 : decode code 1173 = .ok (.iconst 2, 1) := by decide +kernel
theorem dl_1174 : decode code 1174 = .ok (.iadd, 1) := by decide +kernel
theorem dl_1175 : decode code 1175 = .ok (.iaload, 1) := by decide +kernel
theorem dl_1176 : decode code 1176 = .ok (.invokevirtual 147, 3) := by decide +kernel
theorem dl_1179 : decode code 1179 = .ok (.aload_n 2, 1) := by decide +kernel
theorem dl_1180 : decode code 1180 = .ok (.aload_n 0, 1) := by decide +kernel
theorem dl_1181 : decode code 1181 = .ok (.iload_n 3, 1) := by decide +kernel
theorem dl_1182 : decode code 1182 = .ok (.iconst 1, 1) := by decide +kernel
theorem dl_1183 : decode code 1183 = .ok (.iadd, 1) := by decide +kernel
theorem dl_1184 : decode code 1184 = .ok (.iaload, 1) := by decide +kernel
theorem dl_1185 : decode code 1185 = .ok (.aload_n 0, 1) := by decide +kernel
theorem dl_1186 : decode code 1186 = .ok (.iload_n 3, 1) := by decide +kernel
theorem dl_1187 : decode code 1187 = .ok (.iconst 2, 1) := by decide +kernel
theorem dl_1188 : decode code 1188 = .ok (.iadd, 1) := by decide +kernel
theorem dl_1189 : decode code 1189 = .ok (.iaload, 1) := by decide +kernel
theorem dl_1190 : decode code 1190 = .ok (.invokevirtual 150, 3) := by decide +kernel
theorem dl_1193 : decode code 1193 = .ok (.if_icmp .eq 433, 3) := by decide +kernel
theorem dl_1196 : decode code 1196 = .ok (.iconst 0, 1) := by decide +kernel
theorem dl_1197 : decode code 1197 = .ok (.ireturn, 1) := by decide +kernel
theorem dl_1198 : decode code 1198 = .ok (.aload_n 1, 1) := by decide +kernel
theorem dl_1199 : decode code 1199 = .ok (.aload_n 0, 1) := by decide +kernel
theorem dl_1200 : decode code 1200 = .ok (.iload_n 3, 1) := by decide +kernel
theorem dl_1201 : decode code 1201 = .ok (.iconst 1, 1) := by decide +kernel
theorem dl_1202 : decode code 1202 = .ok (.iadd, 1) := by decide +kernel
theorem dl_1203 : decode code 1203 = .ok (.iaload, 1) := by decide +kernel
theorem dl_1204 : decode code 1204 = .ok (.aload_n 0, 1) := by decide +kernel
theorem dl_1205 : decode code 1205 = .ok (.iload_n 3, 1) := by decide +kernel
theorem dl_1206 : decode code 1206 = .ok (.iconst 2, 1) := by decide +kernel
theorem dl_1207 : decode code 1207 = .ok (.iadd, 1) := by decide +kernel
theorem dl_1208 : decode code 1208 = .ok (.iaload, 1) := by decide +kernel
theorem dl_1209 : decode code 1209 = .ok (.invokevirtual 151, 3) := by decide +kernel
theorem dl_1212 : decode code 1212 = .ok (.aload_n 2, 1) := by decide +kernel
theorem dl_1213 : decode code 1213 = .ok (.aload_n 0, 1) := by decide +kernel
theorem dl_1214 : decode code 1214 = .ok (.iload_n 3, 1) := by decide +kernel
theorem dl_1215 : decode code 1215 = .ok (.iconst 1, 1) := by decide +kernel
theorem dl_1216 : decode code 1216 = .ok (.iadd, 1) := by decide +kernel
theorem dl_1217 : decode code 1217 = .ok (.iaload, 1) := by decide +kernel
theorem dl_1218 : decode code 1218 = .ok (.aload_n 0, 1) := by decide +kernel
theorem dl_1219 : decode code 1219 = .ok (.iload_n 3, 1) := by decide +kernel
theorem dl_1220 : decode code 1220 = .ok (.iconst 2, 1) := by decide +kernel
theorem dl_1221 : decode code 1221 = .ok (.iadd, 1) := by decide +kernel
theorem dl_1222 : decode code 1222 = .ok (.iaload, 1) := by decide +kernel
theorem dl_1223 : decode code 1223 = .ok (.invokevirtual 154, 3) := by decide +kernel
theorem dl_1226 : decode code 1226 = .ok (.if_icmp .eq 400, 3) := by decide +kernel
theorem dl_1229 : decode code 1229 = .ok (.iconst 0, 1) := by decide +kernel
theorem dl_1230 : decode code 1230 = .ok (.ireturn, 1) := by decide +kernel
theorem dl_1231 : decode code 1231 = .ok (.aload_n 1, 1) := by decide +kernel
theorem dl_1232 : decode code 1232 = .ok (.aload_n 0, 1) := by decide +kernel
theorem dl_1233 : decode code 1233 = .ok (.iload_n 3, 1) := by decide +kernel
theorem dl_1234 : decode code 1234 = .ok (.iconst 1, 1) := by decide +kernel
theorem dl_1235 : decode code 1235 = .ok (.iadd, 1) := by decide +kernel
theorem dl_1236 : decode code 1236 = .ok (.iaload, 1) := by decide +kernel
theorem dl_1237 : decode code 1237 = .ok (.aload_n 0, 1) := by decide +kernel
theorem dl_1238 : decode code 1238 = .ok (.iload_n 3, 1) := by decide +kernel
theorem dl_1239 : decode code 1239 = .ok (.iconst 2, 1) := by decide +kernel
theorem dl_1240 : decode code 1240 = .ok (.iadd, 1) := by decide +kernel
theorem dl_1241 : decode code 1241 = .ok (.iaload, 1) := by decide +kernel
theorem dl_1242 : decode code 1242 = .ok (.invokevirtual 155, 3) := by decide +kernel
theorem dl_1245 : decode code 1245 = .ok (.aload_n 2, 1) := by decide +kernel
theorem dl_1246 : decode code 1246 = .ok (.aload_n 0, 1) := by decide +kernel
theorem dl_1247 : decode code 1247 = .ok (.iload_n 3, 1) := by decide +kernel
theorem dl_1248 : decode code 1248 = .ok (.iconst 1, 1) := by decide +kernel
theorem dl_1249 : decode code 1249 = .ok (.iadd, 1) := by decide +kernel
theorem dl_1250 : decode code 1250 = .ok (.iaload, 1) := by decide +kernel
theorem dl_1251 : decode code 1251 = .ok (.aload_n 0, 1) := by decide +kernel
theorem dl_1252 : decode code 1252 = .ok (.iload_n 3, 1) := by decide +kernel
theorem dl_1253 : decode code 1253 = .ok (.iconst 2, 1) := by decide +kernel
theorem dl_1254 : decode code 1254 = .ok (.iadd, 1) := by decide +kernel
theorem dl_1255 : decode code 1255 = .ok (.iaload, 1) := by decide +kernel
theorem dl_1256 : decode code 1256 = .ok (.invokevirtual 158, 3) := by decide +kernel
theorem dl_1259 : decode code 1259 = .ok (.if_icmp .eq 367, 3) := by decide +kernel
theorem dl_1262 : decode code 1262 = .ok (.iconst 0, 1) := by decide +kernel
theorem dl_1263 : decode code 1263 = .ok (.ireturn, 1) := by decide +kernel
theorem dl_1264 : decode code 1264 = .ok (.aload_n 1, 1) := by decide +kernel
theorem dl_1265 : decode code 1265 = .ok (.aload_n 0, 1) := by decide +kernel
theorem dl_1266 : decode code 1266 = .ok (.iload_n 3, 1) := by decide +kernel
theorem dl_1267 : decode code 1267 = .ok (.iconst 1, 1) := by decide +kernel
theorem dl_1268 : decode code 1268 = .ok (.iadd, 1) := by decide +kernel
theorem dl_1269 : decode code 1269 = .ok (.iaload, 1) := by decide +kernel
theorem dl_1270 : decode code 1270 = .ok (.aload_n 0, 1) := by decide +kernel
theorem dl_1271 : decode code 1271 = .ok (.iload_n 3, 1) := by decide +kernel
theorem dl_1272 : decode code 1272 = .ok (.iconst 2, 1) := by decide +kernel
theorem dl_1273 : decode code 1273 = .ok (.iadd, 1) := by decide +kernel
theorem dl_1274 : decode code 1274 = .ok (.iaload, 1) := by decide +kernel
theorem dl_1275 : decode code 1275 = .ok (.invokevirtual 159, 3) := by decide +kernel
theorem dl_1278 : decode code 1278 = .ok (.aload_n 2, 1) := by decide +kernel
theorem dl_1279 : decode code 1279 = .ok (.aload_n 0, 1) := by decide +kernel
theorem dl_1280 : decode code 1280 = .ok (.iload_n 3, 1) := by decide +kernel
theorem dl_1281 : decode code 1281 = .ok (.iconst 1, 1) := by decide +kernel
theorem dl_1282 : decode code 1282 = .ok (.iadd, 1) := by decide +kernel
theorem dl_1283 : decode code 1283 = .ok (.iaload, 1) := by decide +kernel
theorem dl_1284 : decode code 1284 = .ok (.aload_n 0, 1) := by decide +kernel
theorem dl_1285 : decode code 1285 = .ok (.iload_n 3, 1) := by decide +kernel
theorem dl_1286 : decode code 1286 = .ok (.iconst 2, 1) := by decide +kernel
theorem dl_1287 : decode code 1287 = .ok (.iadd, 1) := by decide +kernel
theorem dl_1288 : decode code 1288 = .ok (.iaload, 1) := by decide +kernel
theorem dl_1289 : decode code 1289 = .ok (.invokevirtual 162, 3) := by decide +kernel
theorem dl_1292 : decode code 1292 = .ok (.if_icmp .eq 334, 3) := by decide +kernel
theorem dl_1295 : decode code 1295 = .ok (.iconst 0, 1) := by decide +kernel
theorem dl_1296 : decode code 1296 = .ok (.ireturn, 1) := by decide +kernel
theorem dl_1297 : decode code 1297 = .ok (.aload_n 1, 1) := by decide +kernel
theorem dl_1298 : decode code 1298 = .ok (.aload_n 0, 1) := by decide +kernel
theorem dl_1299 : decode code 1299 = .ok (.iload_n 3, 1) := by decide +kernel
theorem dl_1300 : decode code 1300 = .ok (.iconst 1, 1) := by decide +kernel
theorem dl_1301 : decode code 1301 = .ok (.iadd, 1) := by decide +kernel
theorem dl_1302 : decode code 1302 = .ok (.iaload, 1) := by decide +kernel
theorem dl_1303 : decode code 1303 = .ok (.aload_n 0, 1) := by decide +kernel
theorem dl_1304 : decode code 1304 = .ok (.iload_n 3, 1) := by decide +kernel
theorem dl_1305 : decode code 1305 = .ok (.iconst 2, 1) := by decide +kernel
theorem dl_1306 : decode code 1306 = .ok (.iadd, 1) := by decide +kernel
theorem dl_1307 : decode code 1307 = .ok (.iaload, 1) := by decide +kernel
theorem dl_1308 : decode code 1308 = .ok (.invokevirtual 163, 3) := by decide +kernel
theorem dl_1311 : decode code 1311 = .ok (.aload_n 2, 1) := by decide +kernel
theorem dl_1312 : decode code 1312 = .ok (.aload_n 0, 1) := by decide +kernel
theorem dl_1313 : decode code 1313 = .ok (.iload_n 3, 1) := by decide +kernel
theorem dl_1314 : decode code 1314 = .ok (.iconst 1, 1) := by decide +kernel
theorem dl_1315 : decode code 1315 = .ok (.iadd, 1) := by decide +kernel
theorem dl_1316 : decode code 1316 = .ok (.iaload, 1) := by decide +kernel
theorem dl_1317 : decode code 1317 = .ok (.aload_n 0, 1) := by decide +kernel
theorem dl_1318 : decode code 1318 = .ok (.iload_n 3, 1) := by decide +kernel
theorem dl_1319 : decode code 1319 = .ok (.iconst 2, 1) := by decide +kernel
theorem dl_1320 : decode code 1320 = .ok (.iadd, 1) := by decide +kernel
theorem dl_1321 : decode code 1321 = .ok (.iaload, 1) := by decide +kernel
theorem dl_1322 : decode code 1322 = .ok (.invokevirtual 166, 3) := by decide +kernel
theorem dl_1325 : decode code 1325 = .ok (.if_icmp .eq 301, 3) := by decide +kernel
theorem dl_1328 : decode code 1328 = .ok (.iconst 0, 1) := by decide +kernel
theorem dl_1329 : decode code 1329 = .ok (.ireturn, 1) := by decide +kernel
theorem dl_1330 : decode code 1330 = .ok (.aload_n 1, 1) := by decide +kernel
theorem dl_1331 : decode code 1331 = .ok (.aload_n 0, 1) := by decide +kernel
theorem dl_1332 : decode code 1332 = .ok (.iload_n 3, 1) := by decide +kernel
theorem dl_1333 : decode code 1333 = .ok (.iconst 1, 1) := by decide +kernel
theorem dl_1334 : decode code 1334 = .ok (.iadd, 1) := by decide +kernel
theorem dl_1335 : decode code 1335 = .ok (.iaload, 1) := by decide +kernel
theorem dl_1336 : decode code 1336 = .ok (.aload_n 0, 1) := by decide +kernel
theorem dl_1337 : decode code 1337 = .ok (.iload_n 3, 1) := by decide +kernel
theorem dl_1338 : decode code 1338 = .ok (.iconst 2, 1) := by decide +kernel
theorem dl_1339 : decode code 1339 = .ok (.iadd, 1) := by decide +kernel
theorem dl_1340 : decode code 1340 = .ok (.iaload, 1) := by decide +kernel
theorem dl_1341 : decode code 1341 = .ok (.aload_n 0, 1) := by decide +kernel
theorem dl_1342 : decode code 1342 = .ok (.iload_n 3, 1) := by decide +kernel
theorem dl_1343 : decode code 1343 = .ok (.iconst 3, 1) := by decide +kernel
theorem dl_1344 : decode code 1344 = .ok (.iadd, 1) := by decide +kernel
theorem dl_1345 : decode code 1345 = .ok (.iaload, 1) := by decide +kernel
theorem dl_1346 : decode code 1346 = .ok (.invokevirtual 167, 3) := by decide +kernel
theorem dl_1349 : decode code 1349 = .ok (.aload_n 2, 1) := by decide +kernel
theorem dl_1350 : decode code 1350 = .ok (.aload_n 0, 1) := by decide +kernel
theorem dl_1351 : decode code 1351 = .ok (.iload_n 3, 1) := by decide +kernel
theorem dl_1352 : decode code 1352 = .ok (.iconst 1, 1) := by decide +kernel
theorem dl_1353 : decode code 1353 = .ok (.iadd, 1) := by decide +kernel
theorem dl_1354 : decode code 1354 = .ok (.iaload, 1) := by decide +kernel
theorem dl_1355 : decode code 1355 = .ok (.aload_n 0, 1) := by decide +kernel
theorem dl_1356 : decode code 1356 = .ok (.iload_n 3, 1) := by decide +kernel
theorem dl_1357 : decode code 1357 = .ok (.iconst 2, 1) := by decide +kernel
theorem dl_1358 : decode code 1358 = .ok (.iadd, 1) := by decide +kernel
theorem dl_1359 : decode code 1359 = .ok (.iaload, 1) := by decide +kernel
theorem dl_1360 : decode code 1360 = .ok (.aload_n 0, 1) := by decide +kernel
theorem dl_1361 : decode code 1361 = .ok (.iload_n 3, 1) := by decide +kernel
theorem dl_1362 : decode code 1362 = .ok (.iconst 3, 1) := by decide +kernel
theorem dl_1363 : decode code 1363 = .ok (.iadd, 1) := by decide +kernel
theorem dl_1364 : decode code 1364 = .ok (.iaload, 1) := by decide +kernel
theorem dl_1365 : decode code 1365 = .ok (.invokevirtual 170, 3) := by decide +kernel
theorem dl_1368 : decode code 1368 = .ok (.lcmp, 1) := by decide +kernel
theorem dl_1369 : decode code 1369 = .ok (.ifCond .eq 257, 3) := by decide +kernel
theorem dl_1372 : decode code 1372 = .ok (.iconst 0, 1) := by decide +kernel
theorem dl_1373 : decode code 1373 = .ok (.ireturn, 1) := by decide +kernel
theorem dl_1374 : decode code 1374 = .ok (.aload_n 1, 1) := by decide +kernel
theorem dl_1375 : decode code 1375 = .ok (.aload_n 0, 1) := by decide +kernel
theorem dl_1376 : decode code 1376 = .ok (.iload_n 3, 1) := by decide +kernel
theorem dl_1377 : decode code 1377 = .ok (.iconst 1, 1) := by decide +kernel
theorem dl_1378 : decode code 1378 = .ok (.iadd, 1) := by decide +kernel
theorem dl_1379 : decode code 1379 = .ok (.iaload, 1) := by decide +kernel
theorem dl_1380 : decode code 1380 = .ok (.invokevirtual 171, 3) := by decide +kernel
theorem dl_1383 : decode code 1383 = .ok (.aload_n 2, 1) := by decide +kernel
theorem dl_1384 : decode code 1384 = .ok (.aload_n 0, 1) := by decide +kernel
theorem dl_1385 : decode code 1385 = .ok (.iload_n 3, 1) := by decide +kernel
theorem dl_1386 : decode code 1386 = .ok (.iconst 1, 1) := by decide +kernel
theorem dl_1387 : decode code 1387 = .ok (.iadd, 1) := by decide +kernel
theorem dl_1388 : decode code 1388 = .ok (.iaload, 1) := by decide +kernel
theorem dl_1389 : decode code 1389 = .ok (.invokevirtual 174, 3) := by decide +kernel
theorem dl_1392 : decode code 1392 = .ok (.if_icmp .eq 234, 3) := by decide +kernel
theorem dl_1395 : decode code 1395 = .ok (.iconst 0, 1) := by decide +kernel
theorem dl_1396 : decode code 1396 = .ok (.ireturn, 1) := by decide +kernel
theorem dl_1397 : decode code 1397 = .ok (.aload_n 1, 1) := by decide +kernel
theorem dl_1398 : decode code 1398 = .ok (.aload_n 0, 1) := by decide +kernel
theorem dl_1399 : decode code 1399 = .ok (.iload_n 3, 1) := by decide +kernel
theorem dl_1400 : decode code 1400 = .ok (.iconst 1, 1) := by decide +kernel
theorem dl_1401 : decode code 1401 = .ok (.iadd, 1) := by decide +kernel
theorem dl_1402 : decode code 1402 = .ok (.iaload, 1) := by decide +kernel
theorem dl_1403 : decode code 1403 = .ok (.aload_n 0, 1) := by decide +kernel
theorem dl_1404 : decode code 1404 = .ok (.iload_n 3, 1) := by decide +kernel
theorem dl_1405 : decode code 1405 = .ok (.iconst 2, 1) := by decide +kernel
theorem dl_1406 : decode code 1406 = .ok (.iadd, 1) := by decide +kernel
theorem dl_1407 : decode code 1407 = .ok (.iaload, 1) := by decide +kernel
theorem dl_1408 : decode code 1408 = .ok (.aload_n 0, 1) := by decide +kernel
theorem dl_1409 : decode code 1409 = .ok (.iload_n 3, 1) := by decide +kernel
theorem dl_1410 : decode code 1410 = .ok (.iconst 3, 1) := by decide +kernel
theorem dl_1411 : decode code 1411 = .ok (.iadd, 1) := by decide +kernel
theorem dl_1412 : decode code 1412 = .ok (.iaload, 1) := by decide +kernel
theorem dl_1413 : decode code 1413 = .ok (.invokevirtual 175, 3) := by decide +kernel
theorem dl_1416 : decode code 1416 = .ok (.aload_n 2, 1) := by decide +kernel
theorem dl_1417 : decode code 1417 = .ok (.aload_n 0, 1) := by decide +kernel
theorem dl_1418 : decode code 1418 = .ok (.iload_n 3, 1) := by decide +kernel
theorem dl_1419 : decode code 1419 = .ok (.iconst 1, 1) := by decide +kernel
theorem dl_1420 : decode code 1420 = .ok (.iadd, 1) := by decide +kernel
theorem dl_1421 : decode code 1421 = .ok (.iaload, 1) := by decide +kernel
theorem dl_1422 : decode code 1422 = .ok (.aload_n 0, 1) := by decide +kernel
theorem dl_1423 : decode code 1423 = .ok (.iload_n 3, 1) := by decide +kernel
theorem dl_1424 : decode code 1424 = .ok (.iconst 2, 1) := by decide +kernel
theorem dl_1425 : decode code 1425 = .ok (.iadd, 1) := by decide +kernel
theorem dl_1426 : decode code 1426 = .ok (.iaload, 1) := by decide +kernel
theorem dl_1427 : decode code 1427 = .ok (.aload_n 0, 1) := by decide +kernel
theorem dl_1428 : decode code 1428 = .ok (.iload_n 3, 1) := by decide +kernel
theorem dl_1429 : decode code 1429 = .ok (.iconst 3, 1) := by decide +kernel
theorem dl_1430 : decode code 1430 = .ok (.iadd, 1) := by decide +kernel
theorem dl_1431 : decode code 1431 = .ok (.iaload, 1) := by decide +kernel
theorem dl_1432 : decode code 1432 = .ok (.invokevirtual 178, 3) := by decide +kernel
theorem dl_1435 : decode code 1435 = .ok (.if_icmp .eq 191, 3) := by decide +kernel
theorem dl_1438 : decode code 1438 = .ok (.iconst 0, 1) := by decide +kernel
theorem dl_1439 : decode code 1439 = .ok (.ireturn, 1) := by decide +kernel
theorem dl_1440 : decode code 1440 = .ok (.aload_n 1, 1) := by decide +kernel
theorem dl_1441 : decode code 1441 = .ok (.aload_n 0, 1) := by decide +kernel
theorem dl_1442 : decode code 1442 = .ok (.iload_n 3, 1) := by decide +kernel
theorem dl_1443 : decode code 1443 = .ok (.iconst 1, 1) := by decide +kernel
theorem dl_1444 : decode code 1444 = .ok (.iadd, 1) := by decide +kernel
theorem dl_1445 : decode code 1445 = .ok (.iaload, 1) := by decide +kernel
theorem dl_1446 : decode code 1446 = .ok (.aload_n 0, 1) := by decide +kernel
theorem dl_1447 : decode code 1447 = .ok (.iload_n 3, 1) := by decide +kernel
theorem dl_1448 : decode code 1448 = .ok (.iconst 2, 1) := by decide +kernel
theorem dl_1449 : decode code 1449 = .ok (.iadd, 1) := by decide +kernel
theorem dl_1450 : decode code 1450 = .ok (.iaload, 1) := by decide +kernel
theorem dl_1451 : decode code 1451 = .ok (.aload_n 0, 1) := by decide +kernel
theorem dl_1452 : decode code 1452 = .ok (.iload_n 3, 1) := by decide +kernel
theorem dl_1453 : decode code 1453 = .ok (.iconst 3, 1) := by decide +kernel
theorem dl_1454 : decode code 1454 = .ok (.iadd, 1) := by decide +kernel
theorem dl_1455 : decode code 1455 = .ok (.iaload, 1) := by decide +kernel
theorem dl_1456 : decode code 1456 = .ok (.i2l, 1) := by decide +kernel
theorem dl_1457 : decode code 1457 = .ok (.bipush 32, 2) := by decide +kernel
theorem dl_1459 : decode code 1459 = .ok (.lshl, 1) := by decide +kernel
theorem dl_1460 : decode code 1460 = .ok (.aload_n 0, 1) := by decide +kernel
theorem dl_1461 : decode code 1461 = .ok (.iload_n 3, 1) := by decide +kernel
theorem dl_1462 : decode code 1462 = .ok (.iconst 4, 1) := by decide +kernel
theorem dl_1463 : decode code 1463 = .ok (.iadd, 1) := by decide +kernel
theorem dl_1464 : decode code 1464 = .ok (.iaload, 1) := by decide +kernel
theorem dl_1465 : decode code 1465 = .ok (.i2l, 1) := by decide +kernel
theorem dl_1466 : decode code 1466 = .ok (.ldc2_w 179, 3) := by decide +kernel
theorem dl_1469 : decode code 1469 = .ok (.land, 1) := by decide +kernel
theorem dl_1470 : decode code 1470 = .ok (.lor, 1) := by decide +kernel
theorem dl_1471 : decode code 1471 = .ok (.invokevirtual 181, 3) := by decide +kernel
theorem dl_1474 : decode code 1474 = .ok (.aload_n 2, 1) := by decide +kernel
theorem dl_1475 : decode code 1475 = .ok (.aload_n 0, 1) := by decide +kernel
theorem dl_1476 : decode code 1476 = .ok (.iload_n 3, 1) := by decide +kernel
theorem dl_1477 : decode code 1477 = .ok (.iconst 1, 1) := by decide +kernel
theorem dl_1478 : decode code 1478 = .ok (.iadd, 1) := by decide +kernel
theorem dl_1479 : decode code 1479 = .ok (.iaload, 1) := by decide +kernel
theorem dl_1480 : decode code 1480 = .ok (.aload_n 0, 1) := by decide +kernel
theorem dl_1481 : decode code 1481 = .ok (.iload_n 3, 1) := by decide +kernel
theorem dl_1482 : decode code 1482 = .ok (.iconst 2, 1) := by decide +kernel
theorem dl_1483 : decode code 1483 = .ok (.iadd, 1) := by decide +kernel
theorem dl_1484 : decode code 1484 = .ok (.iaload, 1) := by decide +kernel
theorem dl_1485 : decode code 1485 = .ok (.aload_n 0, 1) := by decide +kernel
theorem dl_1486 : decode code 1486 = .ok (.iload_n 3, 1) := by decide +kernel
theorem dl_1487 : decode code 1487 = .ok (.iconst 3, 1) := by decide +kernel
theorem dl_1488 : decode code 1488 = .ok (.iadd, 1) := by decide +kernel
theorem dl_1489 : decode code 1489 = .ok (.iaload, 1) := by decide +kernel
theorem dl_1490 : decode code 1490 = .ok (.i2l, 1) := by decide +kernel
theorem dl_1491 : decode code 1491 = .ok (.bipush 32, 2) := by decide +kernel
theorem dl_1493 : decode code 1493 = .ok (.lshl, 1) := by decide +kernel
theorem dl_1494 : decode code 1494 = .ok (.aload_n 0, 1) := by decide +kernel
theorem dl_1495 : decode code 1495 = .ok (.iload_n 3, 1) := by decide +kernel
theorem dl_1496 : decode code 1496 = .ok (.iconst 4, 1) := by decide +kernel
theorem dl_1497 : decode code 1497 = .ok (.iadd, 1) := by decide +kernel
theorem dl_1498 : decode code 1498 = .ok (.iaload, 1) := by decide +kernel
theorem dl_1499 : decode code 1499 = .ok (.i2l, 1) := by decide +kernel
theorem dl_1500 : decode code 1500 = .ok (.ldc2_w 179, 3) := by decide +kernel
theorem dl_1503 : decode code 1503 = .ok (.land, 1) := by decide +kernel
theorem dl_1504 : decode code 1504 = .ok (.lor, 1) := by decide +kernel
theorem dl_1505 : decode code 1505 = .ok (.invokevirtual 185, 3) := by decide +kernel
theorem dl_1508 : decode code 1508 = .ok (.lcmp, 1) := by decide +kernel
theorem dl_1509 : decode code 1509 = .ok (.ifCond .eq 117, 3) := by decide +kernel
theorem dl_1512 : decode code 1512 = .ok (.iconst 0, 1) := by decide +kernel
theorem dl_1513 : decode code 1513 = .ok (.ireturn, 1) := by decide +kernel
theorem dl_1514 : decode code 1514 = .ok (.aload_n 1, 1) := by decide +kernel
theorem dl_1515 : decode code 1515 = .ok (.aload_n 0, 1) := by decide +kernel
theorem dl_1516 : decode code 1516 = .ok (.iload_n 3, 1) := by decide +kernel
theorem dl_1517 : decode code 1517 = .ok (.iconst 1, 1) := by decide +kernel
theorem dl_1518 : decode code 1518 = .ok (.iadd, 1) := by decide +kernel
theorem dl_1519 : decode code 1519 = .ok (.iaload, 1) := by decide +kernel
theorem dl_1520 : decode code 1520 = .ok (.aload_n 0, 1) := by decide +kernel
theorem dl_1521 : decode code 1521 = .ok (.iload_n 3, 1) := by decide +kernel
theorem dl_1522 : decode code 1522 = .ok (.iconst 2, 1) := by decide +kernel
theorem dl_1523 : decode code 1523 = .ok (.iadd, 1) := by decide +kernel
theorem dl_1524 : decode code 1524 = .ok (.iaload, 1) := by decide +kernel
theorem dl_1525 : decode code 1525 = .ok (.aload_n 0, 1) := by decide +kernel
theorem dl_1526 : decode code 1526 = .ok (.iload_n 3, 1) := by decide +kernel
theorem dl_1527 : decode code 1527 = .ok (.iconst 3, 1) := by decide +kernel
theorem dl_1528 : decode code 1528 = .ok (.iadd, 1) := by decide +kernel
theorem dl_1529 : decode code 1529 = .ok (.iaload, 1) := by decide +kernel
theorem dl_1530 : decode code 1530 = .ok (.invokevirtual 186, 3) := by decide +kernel
theorem dl_1533 : decode code 1533 = .ok (.aload_n 2, 1) := by decide +kernel
theorem dl_1534 : decode code 1534 = .ok (.aload_n 0, 1) := by decide +kernel
theorem dl_1535 : decode code 1535 = .ok (.iload_n 3, 1) := by decide +kernel
theorem dl_1536 : decode code 1536 = .ok (.iconst 1, 1) := by decide +kernel
theorem dl_1537 : decode code 1537 = .ok (.iadd, 1) := by decide +kernel
theorem dl_1538 : decode code 1538 = .ok (.iaload, 1) := by decide +kernel
theorem dl_1539 : decode code 1539 = .ok (.aload_n 0, 1) := by decide +kernel
theorem dl_1540 : decode code 1540 = .ok (.iload_n 3, 1) := by decide +kernel
theorem dl_1541 : decode code 1541 = .ok (.iconst 2, 1) := by decide +kernel
theorem dl_1542 : decode code 1542 = .ok (.iadd, 1) := by decide +kernel
theorem dl_1543 : decode code 1543 = .ok (.iaload, 1) := by decide +kernel
theorem dl_1544 : decode code 1544 = .ok (.aload_n 0, 1) := by decide +kernel
theorem dl_1545 : decode code 1545 = .ok (.iload_n 3, 1) := by decide +kernel
theorem dl_1546 : decode code 1546 = .ok (.iconst 3, 1) := by decide +kernel
theorem dl_1547 : decode code 1547 = .ok (.iadd, 1) := by decide +kernel
theorem dl_1548 : decode code 1548 = .ok (.iaload, 1) := by decide +kernel
theorem dl_1549 : decode code 1549 = .ok (.invokevirtual 189, 3) := by decide +kernel
theorem dl_1552 : decode code 1552 = .ok (.if_icmp .eq 74, 3) := by decide +kernel
theorem dl_1555 : decode code 1555 = .ok (.iconst 0, 1) := by decide +kernel
theorem dl_1556 : decode code 1556 = .ok (.ireturn, 1) := by decide +kernel
theorem dl_1557 : decode code 1557 = .ok (.aload_n 1, 1) := by decide +kernel
theorem dl_1558 : decode code 1558 = .ok (.aload_n 0, 1) := by decide +kernel
theorem dl_1559 : decode code 1559 = .ok (.iload_n 3, 1) := by decide +kernel
theorem dl_1560 : decode code 1560 = .ok (.iconst 1, 1) := by decide +kernel
theorem dl_1561 : decode code 1561 = .ok (.iadd, 1) := by decide +kernel
theorem dl_1562 : decode code 1562 = .ok (.iaload, 1) := by decide +kernel
theorem dl_1563 : decode code 1563 = .ok (.invokevirtual 190, 3) := by decide +kernel
theorem dl_1566 : decode code 1566 = .ok (.aload_n 2, 1) := by decide +kernel
theorem dl_1567 : decode code 1567 = .ok (.aload_n 0, 1) := by decide +kernel
theorem dl_1568 : decode code 1568 = .ok (.iload_n 3, 1) := by decide +kernel
theorem dl_1569 : decode code 1569 = .ok (.iconst 1, 1) := by decide +kernel
theorem dl_1570 : decode code 1570 = .ok (.iadd, 1) := by decide +kernel
theorem dl_1571 : decode code 1571 = .ok (.iaload, 1) := by decide +kernel
theorem dl_1572 : decode code 1572 = .ok (.invokevirtual 193, 3) := by decide +kernel
theorem dl_1575 : decode code 1575 = .ok (.if_icmp .eq 51, 3) := by decide +kernel
theorem dl_1578 : decode code 1578 = .ok (.iconst 0, 1) := by decide +kernel
theorem dl_1579 : decode code 1579 = .ok (.ireturn, 1) := by decide +kernel
theorem dl_1580 : decode code 1580 = .ok (.aload_n 1, 1) := by decide +kernel
theorem dl_1581 : decode code 1581 = .ok (.aload_n 0, 1) := by decide +kernel
theorem dl_1582 : decode code 1582 = .ok (.iload_n 3, 1) := by decide +kernel
theorem dl_1583 : decode code 1583 = .ok (.iconst 1, 1) := by decide +kernel
theorem dl_1584 : decode code 1584 = .ok (.iadd, 1) := by decide +kernel
theorem dl_1585 : decode code 1585 = .ok (.iaload, 1) := by decide +kernel
theorem dl_1586 : decode code 1586 = .ok (.invokevirtual 194, 3) := by decide +kernel
theorem dl_1589 : decode code 1589 = .ok (.aload_n 2, 1) := by decide +kernel
theorem dl_1590 : decode code 1590 = .ok (.aload_n 0, 1) := by decide +kernel
theorem dl_1591 : decode code 1591 = .ok (.iload_n 3, 1) := by decide +kernel
theorem dl_1592 : decode code 1592 = .ok (.iconst 1, 1) := by decide +kernel
theorem dl_1593 : decode code 1593 = .ok (.iadd, 1) := by decide +kernel
theorem dl_1594 : decode code 1594 = .ok (.iaload, 1) := by decide +kernel
theorem dl_1595 : decode code 1595 = .ok (.invokevirtual 197, 3) := by decide +kernel
theorem dl_1598 : decode code 1598 = .ok (.if_icmp .eq 28, 3) := by decide +kernel
theorem dl_1601 : decode code 1601 = .ok (.iconst 0, 1) := by decide +kernel
theorem dl_1602 : decode code 1602 = .ok (.ireturn, 1) := by decide +kernel
theorem dl_1603 : decode code 1603 = .ok (.aload_n 1, 1) := by decide +kernel
theorem dl_1604 : decode code 1604 = .ok (.aload_n 0, 1) := by decide +kernel
theorem dl_1605 : decode code 1605 = .ok (.iload_n 3, 1) := by decide +kernel
theorem dl_1606 : decode code 1606 = .ok (.iconst 1, 1) := by decide +kernel
theorem dl_1607 : decode code 1607 = .ok (.iadd, 1) := by decide +kernel
theorem dl_1608 : decode code 1608 = .ok (.iaload, 1) := by decide +kernel
theorem dl_1609 : decode code 1609 = .ok (.invokevirtual 198, 3) := by decide +kernel
theorem dl_1612 : decode code 1612 = .ok (.aload_n 2, 1) := by decide +kernel
theorem dl_1613 : decode code 1613 = .ok (.aload_n 0, 1) := by decide +kernel
theorem dl_1614 : decode code 1614 = .ok (.iload_n 3, 1) := by decide +kernel
theorem dl_1615 : decode code 1615 = .ok (.iconst 1, 1) := by decide +kernel
theorem dl_1616 : decode code 1616 = .ok (.iadd, 1) := by decide +kernel
theorem dl_1617 : decode code 1617 = .ok (.iaload, 1) := by decide +kernel
theorem dl_1618 : decode code 1618 = .ok (.invokevirtual 201, 3) := by decide +kernel
theorem dl_1621 : decode code 1621 = .ok (.if_icmp .eq 5, 3) := by decide +kernel
theorem dl_1624 : decode code 1624 = .ok (.iconst 0, 1) := by decide +kernel
theorem dl_1625 : decode code 1625 = .ok (.ireturn, 1) := by decide +kernel
theorem dl_1626 : decode code 1626 = .ok (.iinc 3 6, 3) := by decide +kernel
theorem dl_1629 : decode code 1629 = .ok (.goto (-1611), 3) := by decide +kernel
theorem dl_1632 : decode code 1632 = .ok (.iconst 1, 1) := by decide +kernel
theorem dl_1633 : decode code 1633 = .ok (.ireturn, 1) := by decide +kernel
