/-! the law, decoded -/
theorem dL_law_1211 : decode code 1211 = .ok (.aload_n 1, 1) := by decide +kernel
theorem dL_law_1212 : decode code 1212 = .ok (.aload_n 0, 1) := by decide +kernel
theorem dL_law_1213 : decode code 1213 = .ok (.iload 4, 2) := by decide +kernel
theorem dL_law_1215 : decode code 1215 = .ok (.iconst 1, 1) := by decide +kernel
theorem dL_law_1216 : decode code 1216 = .ok (.iadd, 1) := by decide +kernel
theorem dL_law_1217 : decode code 1217 = .ok (.iaload, 1) := by decide +kernel
theorem dL_law_1218 : decode code 1218 = .ok (.invokevirtual 125, 3) := by decide +kernel
theorem dL_law_1221 : decode code 1221 = .ok (.aload_n 2, 1) := by decide +kernel
theorem dL_law_1222 : decode code 1222 = .ok (.aload_n 0, 1) := by decide +kernel
theorem dL_law_1223 : decode code 1223 = .ok (.iload 4, 2) := by decide +kernel
theorem dL_law_1225 : decode code 1225 = .ok (.iconst 1, 1) := by decide +kernel
theorem dL_law_1226 : decode code 1226 = .ok (.iadd, 1) := by decide +kernel
theorem dL_law_1227 : decode code 1227 = .ok (.iaload, 1) := by decide +kernel
theorem dL_law_1228 : decode code 1228 = .ok (.invokevirtual 128, 3) := by decide +kernel
theorem dL_law_1231 : decode code 1231 = .ok (.if_icmp .eq 191, 3) := by decide +kernel
theorem dL_law_1234 : decode code 1234 = .ok (.iconst 0, 1) := by decide +kernel
theorem dL_law_1235 : decode code 1235 = .ok (.ireturn, 1) := by decide +kernel
theorem dL_law_1236 : decode code 1236 = .ok (.aload_n 1, 1) := by decide +kernel
theorem dL_law_1237 : decode code 1237 = .ok (.aload_n 0, 1) := by decide +kernel
theorem dL_law_1238 : decode code 1238 = .ok (.iload 4, 2) := by decide +kernel
theorem dL_law_1240 : decode code 1240 = .ok (.iconst 1, 1) := by decide +kernel
theorem dL_law_1241 : decode code 1241 = .ok (.iadd, 1) := by decide +kernel
theorem dL_law_1242 : decode code 1242 = .ok (.iaload, 1) := by decide +kernel
theorem dL_law_1243 : decode code 1243 = .ok (.invokevirtual 129, 3) := by decide +kernel
theorem dL_law_1246 : decode code 1246 = .ok (.aload_n 2, 1) := by decide +kernel
theorem dL_law_1247 : decode code 1247 = .ok (.aload_n 0, 1) := by decide +kernel
theorem dL_law_1248 : decode code 1248 = .ok (.iload 4, 2) := by decide +kernel
theorem dL_law_1250 : decode code 1250 = .ok (.iconst 1, 1) := by decide +kernel
theorem dL_law_1251 : decode code 1251 = .ok (.iadd, 1) := by decide +kernel
theorem dL_law_1252 : decode code 1252 = .ok (.iaload, 1) := by decide +kernel
theorem dL_law_1253 : decode code 1253 = .ok (.invokevirtual 132, 3) := by decide +kernel
theorem dL_law_1256 : decode code 1256 = .ok (.if_icmp .eq 166, 3) := by decide +kernel
theorem dL_law_1259 : decode code 1259 = .ok (.iconst 0, 1) := by decide +kernel
theorem dL_law_1260 : decode code 1260 = .ok (.ireturn, 1) := by decide +kernel
theorem dL_law_1261 : decode code 1261 = .ok (.aload_n 1, 1) := by decide +kernel
theorem dL_law_1262 : decode code 1262 = .ok (.aload_n 0, 1) := by decide +kernel
theorem dL_law_1263 : decode code 1263 = .ok (.iload 4, 2) := by decide +kernel
theorem dL_law_1265 : decode code 1265 = .ok (.iconst 1, 1) := by decide +kernel
theorem dL_law_1266 : decode code 1266 = .ok (.iadd, 1) := by decide +kernel
theorem dL_law_1267 : decode code 1267 = .ok (.iaload, 1) := by decide +kernel
theorem dL_law_1268 : decode code 1268 = .ok (.aload_n 0, 1) := by decide +kernel
theorem dL_law_1269 : decode code 1269 = .ok (.iload 4, 2) := by decide +kernel
theorem dL_law_1271 : decode code 1271 = .ok (.iconst 2, 1) := by decide +kernel
theorem dL_law_1272 : decode code 1272 = .ok (.iadd, 1) := by decide +kernel
theorem dL_law_1273 : decode code 1273 = .ok (.iaload, 1) := by decide +kernel
theorem dL_law_1274 : decode code 1274 = .ok (.aload_n 0, 1) := by decide +kernel
theorem dL_law_1275 : decode code 1275 = .ok (.iload 4, 2) := by decide +kernel
theorem dL_law_1277 : decode code 1277 = .ok (.iconst 3, 1) := by decide +kernel
theorem dL_law_1278 : decode code 1278 = .ok (.iadd, 1) := by decide +kernel
theorem dL_law_1279 : decode code 1279 = .ok (.iaload, 1) := by decide +kernel
theorem dL_law_1280 : decode code 1280 = .ok (.invokevirtual 133, 3) := by decide +kernel
theorem dL_law_1283 : decode code 1283 = .ok (.aload_n 2, 1) := by decide +kernel
theorem dL_law_1284 : decode code 1284 = .ok (.aload_n 0, 1) := by decide +kernel
theorem dL_law_1285 : decode code 1285 = .ok (.iload 4, 2) := by decide +kernel
theorem dL_law_1287 : decode code 1287 = .ok (.iconst 1, 1) := by decide +kernel
theorem dL_law_1288 : decode code 1288 = .ok (.iadd, 1) := by decide +kernel
theorem dL_law_1289 : decode code 1289 = .ok (.iaload, 1) := by decide +kernel
theorem dL_law_1290 : decode code 1290 = .ok (.aload_n 0, 1) := by decide +kernel
theorem dL_law_1291 : decode code 1291 = .ok (.iload 4, 2) := by decide +kernel
theorem dL_law_1293 : decode code 1293 = .ok (.iconst 2, 1) := by decide +kernel
theorem dL_law_1294 : decode code 1294 = .ok (.iadd, 1) := by decide +kernel
theorem dL_law_1295 : decode code 1295 = .ok (.iaload, 1) := by decide +kernel
theorem dL_law_1296 : decode code 1296 = .ok (.aload_n 0, 1) := by decide +kernel
theorem dL_law_1297 : decode code 1297 = .ok (.iload 4, 2) := by decide +kernel
theorem dL_law_1299 : decode code 1299 = .ok (.iconst 3, 1) := by decide +kernel
theorem dL_law_1300 : decode code 1300 = .ok (.iadd, 1) := by decide +kernel
theorem dL_law_1301 : decode code 1301 = .ok (.iaload, 1) := by decide +kernel
theorem dL_law_1302 : decode code 1302 = .ok (.invokevirtual 136, 3) := by decide +kernel
theorem dL_law_1305 : decode code 1305 = .ok (.if_icmp .eq 117, 3) := by decide +kernel
theorem dL_law_1308 : decode code 1308 = .ok (.iconst 0, 1) := by decide +kernel
theorem dL_law_1309 : decode code 1309 = .ok (.ireturn, 1) := by decide +kernel
theorem dL_law_1310 : decode code 1310 = .ok (.aload_n 1, 1) := by decide +kernel
theorem dL_law_1311 : decode code 1311 = .ok (.aload_n 0, 1) := by decide +kernel
theorem dL_law_1312 : decode code 1312 = .ok (.iload 4, 2) := by decide +kernel
theorem dL_law_1314 : decode code 1314 = .ok (.iconst 1, 1) := by decide +kernel
theorem dL_law_1315 : decode code 1315 = .ok (.iadd, 1) := by decide +kernel
theorem dL_law_1316 : decode code 1316 = .ok (.iaload, 1) := by decide +kernel
theorem dL_law_1317 : decode code 1317 = .ok (.aload_n 0, 1) := by decide +kernel
theorem dL_law_1318 : decode code 1318 = .ok (.iload 4, 2) := by decide +kernel
theorem dL_law_1320 : decode code 1320 = .ok (.iconst 2, 1) := by decide +kernel
theorem dL_law_1321 : decode code 1321 = .ok (.iadd, 1) := by decide +kernel
theorem dL_law_1322 : decode code 1322 = .ok (.iaload, 1) := by decide +kernel
theorem dL_law_1323 : decode code 1323 = .ok (.aload_n 0, 1) := by decide +kernel
theorem dL_law_1324 : decode code 1324 = .ok (.iload 4, 2) := by decide +kernel
theorem dL_law_1326 : decode code 1326 = .ok (.iconst 3, 1) := by decide +kernel
theorem dL_law_1327 : decode code 1327 = .ok (.iadd, 1) := by decide +kernel
theorem dL_law_1328 : decode code 1328 = .ok (.iaload, 1) := by decide +kernel
theorem dL_law_1329 : decode code 1329 = .ok (.invokevirtual 137, 3) := by decide +kernel
theorem dL_law_1332 : decode code 1332 = .ok (.aload_n 2, 1) := by decide +kernel
theorem dL_law_1333 : decode code 1333 = .ok (.aload_n 0, 1) := by decide +kernel
theorem dL_law_1334 : decode code 1334 = .ok (.iload 4, 2) := by decide +kernel
theorem dL_law_1336 : decode code 1336 = .ok (.iconst 1, 1) := by decide +kernel
theorem dL_law_1337 : decode code 1337 = .ok (.iadd, 1) := by decide +kernel
theorem dL_law_1338 : decode code 1338 = .ok (.iaload, 1) := by decide +kernel
theorem dL_law_1339 : decode code 1339 = .ok (.aload_n 0, 1) := by decide +kernel
theorem dL_law_1340 : decode code 1340 = .ok (.iload 4, 2) := by decide +kernel
theorem dL_law_1342 : decode code 1342 = .ok (.iconst 2, 1) := by decide +kernel
theorem dL_law_1343 : decode code 1343 = .ok (.iadd, 1) := by decide +kernel
theorem dL_law_1344 : decode code 1344 = .ok (.iaload, 1) := by decide +kernel
theorem dL_law_1345 : decode code 1345 = .ok (.aload_n 0, 1) := by decide +kernel
theorem dL_law_1346 : decode code 1346 = .ok (.iload 4, 2) := by decide +kernel
theorem dL_law_1348 : decode code 1348 = .ok (.iconst 3, 1) := by decide +kernel
theorem dL_law_1349 : decode code 1349 = .ok (.iadd, 1) := by decide +kernel
theorem dL_law_1350 : decode code 1350 = .ok (.iaload, 1) := by decide +kernel
theorem dL_law_1351 : decode code 1351 = .ok (.invokevirtual 140, 3) := by decide +kernel
theorem dL_law_1354 : decode code 1354 = .ok (.if_icmp .eq 68, 3) := by decide +kernel
theorem dL_law_1357 : decode code 1357 = .ok (.iconst 0, 1) := by decide +kernel
theorem dL_law_1358 : decode code 1358 = .ok (.ireturn, 1) := by decide +kernel
theorem dL_law_1359 : decode code 1359 = .ok (.aload_n 1, 1) := by decide +kernel
theorem dL_law_1360 : decode code 1360 = .ok (.aload_n 0, 1) := by decide +kernel
