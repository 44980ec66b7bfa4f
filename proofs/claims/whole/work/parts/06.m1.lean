theorem w_13 : Cond.initialized "CricketHayModel" ∈ lw_good := q_t 13 (by decide +kernel) rfl
theorem w_1086 : Cond.fieldLink "CricketHayModel" 7 "CricketHayModel" "tape" "[I" ∈ lw_good := q_t 1086 (by decide +kernel) rfl
theorem w_1087 : Cond.fieldLink "CricketHayModel" 133 "CricketHayModel" "taped" "I" ∈ lw_good := q_t 1087 (by decide +kernel) rfl
theorem w_1088 : Cond.fieldLink "CricketHayModel" 173 "CricketHayModel" "fault" "I" ∈ lw_good := q_t 1088 (by decide +kernel) rfl
theorem w_1089 : Cond.fieldLink "CricketHayModel" 13 "CricketHayModel" "faultPlace" "I" ∈ lw_good := q_t 1089 (by decide +kernel) rfl
theorem w_1090 : Cond.fieldLink "CricketHayModel" 140 "CricketHayModel" "at" "I" ∈ lw_good := q_t 1090 (by decide +kernel) rfl
theorem w_1091 : Cond.fieldLink "CricketHayModel" 143 "CricketHayModel" "size" "I" ∈ lw_good := q_t 1091 (by decide +kernel) rfl
theorem w_1092 : Cond.fieldLink "CricketHayModel" 160 "CricketHayModel" "sort" "I" ∈ lw_good := q_t 1092 (by decide +kernel) rfl
theorem w_1093 : Cond.fieldLink "CricketHayModel" 150 "CricketHayModel" "place" "I" ∈ lw_good := q_t 1093 (by decide +kernel) rfl
theorem w_1094 : Cond.fieldLink "CricketHayModel" 157 "CricketHayModel" "number" "I" ∈ lw_good := q_t 1094 (by decide +kernel) rfl
theorem w_1095 : Cond.fieldLink "CricketHayModel" 153 "CricketHayModel" "word" "J" ∈ lw_good := q_t 1095 (by decide +kernel) rfl
theorem w_1096 : Cond.fieldLink "CricketHayModel" 17 "CricketHayModel" "nName" "[J" ∈ lw_good := q_t 1096 (by decide +kernel) rfl
theorem w_1097 : Cond.fieldLink "CricketHayModel" 21 "CricketHayModel" "nStep" "[I" ∈ lw_good := q_t 1097 (by decide +kernel) rfl
theorem w_1098 : Cond.fieldLink "CricketHayModel" 24 "CricketHayModel" "nArg" "[I" ∈ lw_good := q_t 1098 (by decide +kernel) rfl
theorem w_1099 : Cond.fieldLink "CricketHayModel" 27 "CricketHayModel" "nMany" "[I" ∈ lw_good := q_t 1099 (by decide +kernel) rfl
theorem w_1100 : Cond.fieldLink "CricketHayModel" 30 "CricketHayModel" "step" "[I" ∈ lw_good := q_t 1100 (by decide +kernel) rfl
theorem w_1101 : Cond.fieldLink "CricketHayModel" 33 "CricketHayModel" "arg" "[I" ∈ lw_good := q_t 1101 (by decide +kernel) rfl
theorem w_1102 : Cond.fieldLink "CricketHayModel" 36 "CricketHayModel" "steps" "[I" ∈ lw_good := q_t 1102 (by decide +kernel) rfl
theorem w_1103 : Cond.fieldLink "CricketHayModel" 39 "CricketHayModel" "open" "[I" ∈ lw_good := q_t 1103 (by decide +kernel) rfl
theorem w_1104 : Cond.fieldLink "CricketHayModel" 42 "CricketHayModel" "values" "[I" ∈ lw_good := q_t 1104 (by decide +kernel) rfl
theorem w_1105 : Cond.fieldLink "CricketHayModel" 45 "CricketHayModel" "nHasForm" "[Z" ∈ lw_good := q_t 1105 (by decide +kernel) rfl
theorem w_1106 : Cond.fieldLink "CricketHayModel" 246 "CricketHayModel" "form" "I" ∈ lw_good := q_t 1106 (by decide +kernel) rfl
theorem w_1107 : Cond.fieldLink "CricketHayModel" 249 "CricketHayModel" "opens" "I" ∈ lw_good := q_t 1107 (by decide +kernel) rfl
theorem w_1108 : Cond.fieldLink "CricketHayModel" 262 "CricketHayModel" "nUnits" "I" ∈ lw_good := q_t 1108 (by decide +kernel) rfl
theorem w_1110 : Cond.fieldLink "CricketHayModel" 265 "CricketHayModel" "ownUnits" "I" ∈ lw_good := q_t 1110 (by decide +kernel) rfl
theorem w_1111 : Cond.fieldLink "CricketHayModel" 259 "CricketHayModel" "deep" "I" ∈ lw_good := q_t 1111 (by decide +kernel) rfl
theorem w_1112 : Cond.fieldLink "CricketHayModel" 49 "CricketHayModel" "asks" "[I" ∈ lw_good := q_t 1112 (by decide +kernel) rfl
theorem w_1310 : Cond.methodLink "CricketHayModel" 136 ⟨"CricketHayModel", "four", "(I)V"⟩ ∈ lw_good := q_t 1310 (by decide +kernel) rfl
theorem w_1312 : Cond.instanceMethod ⟨"CricketHayModel", "four", "(I)V"⟩ ∈ lw_good := q_t 1312 (by decide +kernel) rfl
theorem w_1313 : Cond.code ⟨"CricketHayModel", "four", "(I)V"⟩ prog_14_method_3_code 3 none ∈ lw_good := q_t 1313 (by decide +kernel) rfl
theorem w_1326 : Cond.methodLink "CricketHayModel" 225 ⟨"CricketHayModel", "token", "()V"⟩ ∈ lw_good := q_t 1326 (by decide +kernel) rfl
theorem w_1328 : Cond.instanceMethod ⟨"CricketHayModel", "token", "()V"⟩ ∈ lw_good := q_t 1328 (by decide +kernel) rfl
theorem w_1329 : Cond.code ⟨"CricketHayModel", "token", "()V"⟩ prog_14_method_9_code 3 none ∈ lw_good := q_t 1329 (by decide +kernel) rfl
theorem w_1330 : Cond.methodLink "CricketHayModel" 146 ⟨"CricketHayModel", "here", "(I)I"⟩ ∈ lw_good := q_t 1330 (by decide +kernel) rfl
theorem w_1332 : Cond.instanceMethod ⟨"CricketHayModel", "here", "(I)I"⟩ ∈ lw_good := q_t 1332 (by decide +kernel) rfl
theorem w_1333 : Cond.code ⟨"CricketHayModel", "here", "(I)I"⟩ prog_14_method_5_code 2 (some .int) ∈ lw_good := q_t 1333 (by decide +kernel) rfl
theorem w_1334 : Cond.methodLink "CricketHayModel" 163 ⟨"CricketHayModel", "isLetter", "(I)Z"⟩ ∈ lw_good := q_t 1334 (by decide +kernel) rfl
theorem w_1335 : Cond.static ⟨"CricketHayModel", "isLetter", "(I)Z"⟩ ∈ lw_good := q_t 1335 (by decide +kernel) rfl
theorem w_1336 : Cond.code ⟨"CricketHayModel", "isLetter", "(I)Z"⟩ prog_14_method_6_code 1 (some .boolean) ∈ lw_good := q_t 1336 (by decide +kernel) rfl
theorem w_1337 : Cond.methodLink "CricketHayModel" 167 ⟨"CricketHayModel", "isDigit", "(I)Z"⟩ ∈ lw_good := q_t 1337 (by decide +kernel) rfl
theorem w_1338 : Cond.static ⟨"CricketHayModel", "isDigit", "(I)Z"⟩ ∈ lw_good := q_t 1338 (by decide +kernel) rfl
theorem w_1339 : Cond.code ⟨"CricketHayModel", "isDigit", "(I)Z"⟩ prog_14_method_7_code 1 (some .boolean) ∈ lw_good := q_t 1339 (by decide +kernel) rfl
theorem w_1340 : Cond.methodLink "CricketHayModel" 170 ⟨"CricketHayModel", "isSign", "(I)Z"⟩ ∈ lw_good := q_t 1340 (by decide +kernel) rfl
theorem w_1341 : Cond.static ⟨"CricketHayModel", "isSign", "(I)Z"⟩ ∈ lw_good := q_t 1341 (by decide +kernel) rfl
theorem w_1342 : Cond.code ⟨"CricketHayModel", "isSign", "(I)Z"⟩ prog_14_method_8_code 1 (some .boolean) ∈ lw_good := q_t 1342 (by decide +kernel) rfl
theorem w_1347 : Cond.constantLong "CricketHayModel" 176 (1802071652) ∈ lw_good := q_t 1347 (by decide +kernel) rfl
theorem w_1348 : Cond.methodLink "CricketHayModel" 218 ⟨"CricketHayModel", "isWord", "(J)Z"⟩ ∈ lw_good := q_t 1348 (by decide +kernel) rfl
theorem w_1350 : Cond.instanceMethod ⟨"CricketHayModel", "isWord", "(J)Z"⟩ ∈ lw_good := q_t 1350 (by decide +kernel) rfl
theorem w_1351 : Cond.code ⟨"CricketHayModel", "isWord", "(J)Z"⟩ prog_14_method_11_code 3 (some .boolean) ∈ lw_good := q_t 1351 (by decide +kernel) rfl
theorem w_1360 : Cond.methodLink "CricketHayModel" 240 ⟨"CricketHayModel", "isName", "()Z"⟩ ∈ lw_good := q_t 1360 (by decide +kernel) rfl
theorem w_1362 : Cond.instanceMethod ⟨"CricketHayModel", "isName", "()Z"⟩ ∈ lw_good := q_t 1362 (by decide +kernel) rfl
theorem w_1363 : Cond.code ⟨"CricketHayModel", "isName", "()Z"⟩ prog_14_method_13_code 1 (some .boolean) ∈ lw_good := q_t 1363 (by decide +kernel) rfl
theorem w_1364 : Cond.methodLink "CricketHayModel" 214 ⟨"CricketHayModel", "isOwn", "()Z"⟩ ∈ lw_good := q_t 1364 (by decide +kernel) rfl
theorem w_1366 : Cond.instanceMethod ⟨"CricketHayModel", "isOwn", "()Z"⟩ ∈ lw_good := q_t 1366 (by decide +kernel) rfl
theorem w_1367 : Cond.code ⟨"CricketHayModel", "isOwn", "()Z"⟩ prog_14_method_12_code 1 (some .boolean) ∈ lw_good := q_t 1367 (by decide +kernel) rfl
theorem w_1368 : Cond.constantLong "CricketHayModel" 178 (110386588968306) ∈ lw_good := q_t 1368 (by decide +kernel) rfl
theorem w_1369 : Cond.constantLong "CricketHayModel" 180 (28518) ∈ lw_good := q_t 1369 (by decide +kernel) rfl
theorem w_1370 : Cond.constantLong "CricketHayModel" 182 (1936682599) ∈ lw_good := q_t 1370 (by decide +kernel) rfl
theorem w_1371 : Cond.constantLong "CricketHayModel" 184 (6383461) ∈ lw_good := q_t 1371 (by decide +kernel) rfl
theorem w_1372 : Cond.constantLong "CricketHayModel" 186 (1735355492) ∈ lw_good := q_t 1372 (by decide +kernel) rfl
theorem w_1373 : Cond.constantLong "CricketHayModel" 188 (465725121651) ∈ lw_good := q_t 1373 (by decide +kernel) rfl
theorem w_1374 : Cond.constantLong "CricketHayModel" 190 (474147546227) ∈ lw_good := q_t 1374 (by decide +kernel) rfl
theorem w_1375 : Cond.constantLong "CricketHayModel" 192 (109300096856179) ∈ lw_good := q_t 1375 (by decide +kernel) rfl
theorem w_1376 : Cond.constantLong "CricketHayModel" 194 (1751474548) ∈ lw_good := q_t 1376 (by decide +kernel) rfl
theorem w_1377 : Cond.constantLong "CricketHayModel" 196 (1936613744) ∈ lw_good := q_t 1377 (by decide +kernel) rfl
theorem w_1378 : Cond.constantLong "CricketHayModel" 198 (1667330676) ∈ lw_good := q_t 1378 (by decide +kernel) rfl
theorem w_1379 : Cond.constantLong "CricketHayModel" 200 (1685217655) ∈ lw_good := q_t 1379 (by decide +kernel) rfl
theorem w_1380 : Cond.constantLong "CricketHayModel" 202 (469786453363) ∈ lw_good := q_t 1380 (by decide +kernel) rfl
theorem w_1381 : Cond.constantLong "CricketHayModel" 204 (1752135026) ∈ lw_good := q_t 1381 (by decide +kernel) rfl
theorem w_1382 : Cond.constantLong "CricketHayModel" 206 (6578553) ∈ lw_good := q_t 1382 (by decide +kernel) rfl
theorem w_1383 : Cond.constantLong "CricketHayModel" 208 (6385252) ∈ lw_good := q_t 1383 (by decide +kernel) rfl
theorem w_1384 : Cond.constantLong "CricketHayModel" 210 (28530) ∈ lw_good := q_t 1384 (by decide +kernel) rfl
theorem w_1385 : Cond.constantLong "CricketHayModel" 212 (7237492) ∈ lw_good := q_t 1385 (by decide +kernel) rfl
theorem w_1386 : Cond.methodLink "CricketHayModel" 222 ⟨"CricketHayModel", "wrong", "(I)V"⟩ ∈ lw_good := q_t 1386 (by decide +kernel) rfl
theorem w_1388 : Cond.instanceMethod ⟨"CricketHayModel", "wrong", "(I)V"⟩ ∈ lw_good := q_t 1388 (by decide +kernel) rfl
theorem w_1389 : Cond.code ⟨"CricketHayModel", "wrong", "(I)V"⟩ prog_14_method_10_code 2 none ∈ lw_good := q_t 1389 (by decide +kernel) rfl
theorem w_1390 : Cond.methodLink "CricketHayModel" 243 ⟨"CricketHayModel", "find", "(II)I"⟩ ∈ lw_good := q_t 1390 (by decide +kernel) rfl
theorem w_1392 : Cond.instanceMethod ⟨"CricketHayModel", "find", "(II)I"⟩ ∈ lw_good := q_t 1392 (by decide +kernel) rfl
theorem w_1393 : Cond.code ⟨"CricketHayModel", "find", "(II)I"⟩ prog_14_method_18_code 5 (some .int) ∈ lw_good := q_t 1393 (by decide +kernel) rfl
theorem w_1398 : Cond.methodLink "CricketHayModel" 228 ⟨"CricketHayModel", "want", "(J)V"⟩ ∈ lw_good := q_t 1398 (by decide +kernel) rfl
theorem w_1400 : Cond.instanceMethod ⟨"CricketHayModel", "want", "(J)V"⟩ ∈ lw_good := q_t 1400 (by decide +kernel) rfl
theorem w_1401 : Cond.code ⟨"CricketHayModel", "want", "(J)V"⟩ prog_14_method_14_code 3 none ∈ lw_good := q_t 1401 (by decide +kernel) rfl
theorem w_1402 : Cond.methodLink "CricketHayModel" 236 ⟨"CricketHayModel", "told", "(JII)I"⟩ ∈ lw_good := q_t 1402 (by decide +kernel) rfl
theorem w_1404 : Cond.instanceMethod ⟨"CricketHayModel", "told", "(JII)I"⟩ ∈ lw_good := q_t 1404 (by decide +kernel) rfl
theorem w_1405 : Cond.code ⟨"CricketHayModel", "told", "(JII)I"⟩ prog_14_method_16_code 5 (some .int) ∈ lw_good := q_t 1405 (by decide +kernel) rfl
theorem w_1406 : Cond.methodLink "CricketHayModel" 232 ⟨"CricketHayModel", "toldNumber", "(II)I"⟩ ∈ lw_good := q_t 1406 (by decide +kernel) rfl
theorem w_1408 : Cond.instanceMethod ⟨"CricketHayModel", "toldNumber", "(II)I"⟩ ∈ lw_good := q_t 1408 (by decide +kernel) rfl
theorem w_1409 : Cond.code ⟨"CricketHayModel", "toldNumber", "(II)I"⟩ prog_14_method_15_code 4 (some .int) ∈ lw_good := q_t 1409 (by decide +kernel) rfl
theorem w_1418 : Cond.methodLink "CricketHayModel" 284 ⟨"CricketHayModel", "unit", "()V"⟩ ∈ lw_good := q_t 1418 (by decide +kernel) rfl
theorem w_1420 : Cond.instanceMethod ⟨"CricketHayModel", "unit", "()V"⟩ ∈ lw_good := q_t 1420 (by decide +kernel) rfl
theorem w_1421 : Cond.code ⟨"CricketHayModel", "unit", "()V"⟩ prog_14_method_29_code 3 none ∈ lw_good := q_t 1421 (by decide +kernel) rfl
theorem w_1422 : Cond.methodLink "CricketHayModel" 268 ⟨"CricketHayModel", "mayNot", "()Z"⟩ ∈ lw_good := q_t 1422 (by decide +kernel) rfl
theorem w_1424 : Cond.instanceMethod ⟨"CricketHayModel", "mayNot", "()Z"⟩ ∈ lw_good := q_t 1424 (by decide +kernel) rfl
theorem w_1425 : Cond.code ⟨"CricketHayModel", "mayNot", "()Z"⟩ prog_14_method_24_code 1 (some .boolean) ∈ lw_good := q_t 1425 (by decide +kernel) rfl
theorem w_1426 : Cond.methodLink "CricketHayModel" 252 ⟨"CricketHayModel", "tight", "(I)I"⟩ ∈ lw_good := q_t 1426 (by decide +kernel) rfl
theorem w_1427 : Cond.static ⟨"CricketHayModel", "tight", "(I)I"⟩ ∈ lw_good := q_t 1427 (by decide +kernel) rfl
theorem w_1428 : Cond.code ⟨"CricketHayModel", "tight", "(I)I"⟩ prog_14_method_21_code 1 (some .int) ∈ lw_good := q_t 1428 (by decide +kernel) rfl
theorem w_1429 : Cond.methodLink "CricketHayModel" 271 ⟨"CricketHayModel", "openUp", "(I)V"⟩ ∈ lw_good := q_t 1429 (by decide +kernel) rfl
theorem w_1431 : Cond.instanceMethod ⟨"CricketHayModel", "openUp", "(I)V"⟩ ∈ lw_good := q_t 1431 (by decide +kernel) rfl
theorem w_1432 : Cond.code ⟨"CricketHayModel", "openUp", "(I)V"⟩ prog_14_method_28_code 2 none ∈ lw_good := q_t 1432 (by decide +kernel) rfl
theorem w_1433 : Cond.methodLink "CricketHayModel" 274 ⟨"CricketHayModel", "isFull", "()Z"⟩ ∈ lw_good := q_t 1433 (by decide +kernel) rfl
theorem w_1435 : Cond.instanceMethod ⟨"CricketHayModel", "isFull", "()Z"⟩ ∈ lw_good := q_t 1435 (by decide +kernel) rfl
theorem w_1436 : Cond.code ⟨"CricketHayModel", "isFull", "()Z"⟩ prog_14_method_26_code 1 (some .boolean) ∈ lw_good := q_t 1436 (by decide +kernel) rfl
theorem w_1437 : Cond.methodLink "CricketHayModel" 277 ⟨"CricketHayModel", "countUnit", "()V"⟩ ∈ lw_good := q_t 1437 (by decide +kernel) rfl
theorem w_1439 : Cond.instanceMethod ⟨"CricketHayModel", "countUnit", "()V"⟩ ∈ lw_good := q_t 1439 (by decide +kernel) rfl
theorem w_1440 : Cond.code ⟨"CricketHayModel", "countUnit", "()V"⟩ prog_14_method_27_code 1 none ∈ lw_good := q_t 1440 (by decide +kernel) rfl
theorem w_1441 : Cond.methodLink "CricketHayModel" 280 ⟨"CricketHayModel", "asked", "()I"⟩ ∈ lw_good := q_t 1441 (by decide +kernel) rfl
theorem w_1443 : Cond.instanceMethod ⟨"CricketHayModel", "asked", "()I"⟩ ∈ lw_good := q_t 1443 (by decide +kernel) rfl
theorem w_1444 : Cond.code ⟨"CricketHayModel", "asked", "()I"⟩ prog_14_method_25_code 1 (some .int) ∈ lw_good := q_t 1444 (by decide +kernel) rfl
theorem w_1445 : Cond.methodLink "CricketHayModel" 255 ⟨"CricketHayModel", "add", "(II)V"⟩ ∈ lw_good := q_t 1445 (by decide +kernel) rfl
theorem w_1447 : Cond.instanceMethod ⟨"CricketHayModel", "add", "(II)V"⟩ ∈ lw_good := q_t 1447 (by decide +kernel) rfl
theorem w_1448 : Cond.code ⟨"CricketHayModel", "add", "(II)V"⟩ prog_14_method_20_code 3 none ∈ lw_good := q_t 1448 (by decide +kernel) rfl
theorem w_1449 : Cond.methodLink "CricketHayModel" 287 ⟨"CricketHayModel", "sign", "()I"⟩ ∈ lw_good := q_t 1449 (by decide +kernel) rfl
theorem w_1451 : Cond.instanceMethod ⟨"CricketHayModel", "sign", "()I"⟩ ∈ lw_good := q_t 1451 (by decide +kernel) rfl
theorem w_1452 : Cond.code ⟨"CricketHayModel", "sign", "()I"⟩ prog_14_method_30_code 1 (some .int) ∈ lw_good := q_t 1452 (by decide +kernel) rfl
theorem w_1453 : Cond.methodLink "CricketHayModel" 290 ⟨"CricketHayModel", "hasBracket", "()Z"⟩ ∈ lw_good := q_t 1453 (by decide +kernel) rfl
theorem w_1455 : Cond.instanceMethod ⟨"CricketHayModel", "hasBracket", "()Z"⟩ ∈ lw_good := q_t 1455 (by decide +kernel) rfl
theorem w_1456 : Cond.code ⟨"CricketHayModel", "hasBracket", "()Z"⟩ prog_14_method_31_code 3 (some .boolean) ∈ lw_good := q_t 1456 (by decide +kernel) rfl
theorem w_1457 : Cond.methodLink "CricketHayModel" 293 ⟨"CricketHayModel", "close", "(I)V"⟩ ∈ lw_good := q_t 1457 (by decide +kernel) rfl
theorem w_1459 : Cond.instanceMethod ⟨"CricketHayModel", "close", "(I)V"⟩ ∈ lw_good := q_t 1459 (by decide +kernel) rfl
theorem w_1460 : Cond.code ⟨"CricketHayModel", "close", "(I)V"⟩ prog_14_method_22_code 2 none ∈ lw_good := q_t 1460 (by decide +kernel) rfl
theorem w_1461 : Cond.methodLink "CricketHayModel" 296 ⟨"CricketHayModel", "hasRelation", "()Z"⟩ ∈ lw_good := q_t 1461 (by decide +kernel) rfl
theorem w_1463 : Cond.instanceMethod ⟨"CricketHayModel", "hasRelation", "()Z"⟩ ∈ lw_good := q_t 1463 (by decide +kernel) rfl
theorem w_1464 : Cond.code ⟨"CricketHayModel", "hasRelation", "()Z"⟩ prog_14_method_23_code 2 (some .boolean) ∈ lw_good := q_t 1464 (by decide +kernel) rfl
theorem w_1488 : Cond.methodLink "CricketHayModel" 299 ⟨"CricketHayModel", "truth", "(Z)I"⟩ ∈ lw_good := q_t 1488 (by decide +kernel) rfl
theorem w_1489 : Cond.static ⟨"CricketHayModel", "truth", "(Z)I"⟩ ∈ lw_good := q_t 1489 (by decide +kernel) rfl
theorem w_1490 : Cond.code ⟨"CricketHayModel", "truth", "(Z)I"⟩ prog_14_method_33_code 1 (some .int) ∈ lw_good := q_t 1490 (by decide +kernel) rfl
theorem w_1507 : Cond.methodLink "CricketHayModel" 303 ⟨"CricketHayModel", "done", "(III)I"⟩ ∈ lw_good := q_t 1507 (by decide +kernel) rfl
theorem w_1508 : Cond.static ⟨"CricketHayModel", "done", "(III)I"⟩ ∈ lw_good := q_t 1508 (by decide +kernel) rfl
theorem w_1509 : Cond.code ⟨"CricketHayModel", "done", "(III)I"⟩ prog_14_method_34_code 3 (some .int) ∈ lw_good := q_t 1509 (by decide +kernel) rfl
theorem ws_46 : Cond.selects "CricketHayModel" ⟨"CricketHayModel", "four", "(I)V"⟩ ⟨"CricketHayModel", "four", "(I)V"⟩ ∈ lw_good := q_s 46 (by decide +kernel) rfl
theorem ws_48 : Cond.selects "CricketHayModel" ⟨"CricketHayModel", "token", "()V"⟩ ⟨"CricketHayModel", "token", "()V"⟩ ∈ lw_good := q_s 48 (by decide +kernel) rfl
theorem ws_49 : Cond.selects "CricketHayModel" ⟨"CricketHayModel", "here", "(I)I"⟩ ⟨"CricketHayModel", "here", "(I)I"⟩ ∈ lw_good := q_s 49 (by decide +kernel) rfl
theorem ws_51 : Cond.selects "CricketHayModel" ⟨"CricketHayModel", "isWord", "(J)Z"⟩ ⟨"CricketHayModel", "isWord", "(J)Z"⟩ ∈ lw_good := q_s 51 (by decide +kernel) rfl
theorem ws_54 : Cond.selects "CricketHayModel" ⟨"CricketHayModel", "isName", "()Z"⟩ ⟨"CricketHayModel", "isName", "()Z"⟩ ∈ lw_good := q_s 54 (by decide +kernel) rfl
theorem ws_55 : Cond.selects "CricketHayModel" ⟨"CricketHayModel", "isOwn", "()Z"⟩ ⟨"CricketHayModel", "isOwn", "()Z"⟩ ∈ lw_good := q_s 55 (by decide +kernel) rfl
theorem ws_56 : Cond.selects "CricketHayModel" ⟨"CricketHayModel", "wrong", "(I)V"⟩ ⟨"CricketHayModel", "wrong", "(I)V"⟩ ∈ lw_good := q_s 56 (by decide +kernel) rfl
theorem ws_57 : Cond.selects "CricketHayModel" ⟨"CricketHayModel", "find", "(II)I"⟩ ⟨"CricketHayModel", "find", "(II)I"⟩ ∈ lw_good := q_s 57 (by decide +kernel) rfl
theorem ws_59 : Cond.selects "CricketHayModel" ⟨"CricketHayModel", "want", "(J)V"⟩ ⟨"CricketHayModel", "want", "(J)V"⟩ ∈ lw_good := q_s 59 (by decide +kernel) rfl
theorem ws_60 : Cond.selects "CricketHayModel" ⟨"CricketHayModel", "told", "(JII)I"⟩ ⟨"CricketHayModel", "told", "(JII)I"⟩ ∈ lw_good := q_s 60 (by decide +kernel) rfl
theorem ws_61 : Cond.selects "CricketHayModel" ⟨"CricketHayModel", "toldNumber", "(II)I"⟩ ⟨"CricketHayModel", "toldNumber", "(II)I"⟩ ∈ lw_good := q_s 61 (by decide +kernel) rfl
theorem ws_64 : Cond.selects "CricketHayModel" ⟨"CricketHayModel", "unit", "()V"⟩ ⟨"CricketHayModel", "unit", "()V"⟩ ∈ lw_good := q_s 64 (by decide +kernel) rfl
theorem ws_65 : Cond.selects "CricketHayModel" ⟨"CricketHayModel", "mayNot", "()Z"⟩ ⟨"CricketHayModel", "mayNot", "()Z"⟩ ∈ lw_good := q_s 65 (by decide +kernel) rfl
theorem ws_66 : Cond.selects "CricketHayModel" ⟨"CricketHayModel", "openUp", "(I)V"⟩ ⟨"CricketHayModel", "openUp", "(I)V"⟩ ∈ lw_good := q_s 66 (by decide +kernel) rfl
theorem ws_67 : Cond.selects "CricketHayModel" ⟨"CricketHayModel", "isFull", "()Z"⟩ ⟨"CricketHayModel", "isFull", "()Z"⟩ ∈ lw_good := q_s 67 (by decide +kernel) rfl
theorem ws_68 : Cond.selects "CricketHayModel" ⟨"CricketHayModel", "countUnit", "()V"⟩ ⟨"CricketHayModel", "countUnit", "()V"⟩ ∈ lw_good := q_s 68 (by decide +kernel) rfl
theorem ws_69 : Cond.selects "CricketHayModel" ⟨"CricketHayModel", "asked", "()I"⟩ ⟨"CricketHayModel", "asked", "()I"⟩ ∈ lw_good := q_s 69 (by decide +kernel) rfl
theorem ws_70 : Cond.selects "CricketHayModel" ⟨"CricketHayModel", "add", "(II)V"⟩ ⟨"CricketHayModel", "add", "(II)V"⟩ ∈ lw_good := q_s 70 (by decide +kernel) rfl
theorem ws_71 : Cond.selects "CricketHayModel" ⟨"CricketHayModel", "sign", "()I"⟩ ⟨"CricketHayModel", "sign", "()I"⟩ ∈ lw_good := q_s 71 (by decide +kernel) rfl
theorem ws_72 : Cond.selects "CricketHayModel" ⟨"CricketHayModel", "hasBracket", "()Z"⟩ ⟨"CricketHayModel", "hasBracket", "()Z"⟩ ∈ lw_good := q_s 72 (by decide +kernel) rfl
theorem ws_73 : Cond.selects "CricketHayModel" ⟨"CricketHayModel", "close", "(I)V"⟩ ⟨"CricketHayModel", "close", "(I)V"⟩ ∈ lw_good := q_s 73 (by decide +kernel) rfl
theorem ws_74 : Cond.selects "CricketHayModel" ⟨"CricketHayModel", "hasRelation", "()Z"⟩ ⟨"CricketHayModel", "hasRelation", "()Z"⟩ ∈ lw_good := q_s 74 (by decide +kernel) rfl
abbrev y_M_four : MI := (⟨"CricketHayModel", "four", "(I)V"⟩, prog_14_method_3_code, 3, none)
theorem hy_M_four : y_M_four.1.cls ≠ "java/lang/invoke/MethodHandle" ∧ y_M_four.1.cls ≠ "java/lang/invoke/VarHandle" ∧ (parseMethodDescriptor y_M_four.1.desc).map (fun d => d.parameters.length) = some 1 := by decide +kernel
theorem d_M_four_0 : decode y_M_four.2.1 0 = .ok (.bipush 24, 2) := by decide +kernel
theorem d_M_four_2 : decode y_M_four.2.1 2 = .ok (.istore_n 2, 1) := by decide +kernel
theorem d_M_four_3 : decode y_M_four.2.1 3 = .ok (.iload_n 2, 1) := by decide +kernel
theorem d_M_four_4 : decode y_M_four.2.1 4 = .ok (.ifCond .lt 35, 3) := by decide +kernel
theorem d_M_four_7 : decode y_M_four.2.1 7 = .ok (.aload_n 0, 1) := by decide +kernel
theorem d_M_four_8 : decode y_M_four.2.1 8 = .ok (.getfield 7, 3) := by decide +kernel
theorem d_M_four_11 : decode y_M_four.2.1 11 = .ok (.aload_n 0, 1) := by decide +kernel
theorem d_M_four_12 : decode y_M_four.2.1 12 = .ok (.getfield 133, 3) := by decide +kernel
theorem d_M_four_15 : decode y_M_four.2.1 15 = .ok (.iload_n 1, 1) := by decide +kernel
theorem d_M_four_16 : decode y_M_four.2.1 16 = .ok (.iload_n 2, 1) := by decide +kernel
theorem d_M_four_17 : decode y_M_four.2.1 17 = .ok (.ishr, 1) := by decide +kernel
theorem d_M_four_18 : decode y_M_four.2.1 18 = .ok (.sipush 255, 3) := by decide +kernel
theorem d_M_four_21 : decode y_M_four.2.1 21 = .ok (.iand, 1) := by decide +kernel
theorem d_M_four_22 : decode y_M_four.2.1 22 = .ok (.iastore, 1) := by decide +kernel
theorem d_M_four_23 : decode y_M_four.2.1 23 = .ok (.aload_n 0, 1) := by decide +kernel
theorem d_M_four_24 : decode y_M_four.2.1 24 = .ok (.dup, 1) := by decide +kernel
theorem d_M_four_25 : decode y_M_four.2.1 25 = .ok (.getfield 133, 3) := by decide +kernel
theorem d_M_four_28 : decode y_M_four.2.1 28 = .ok (.iconst 1, 1) := by decide +kernel
theorem d_M_four_29 : decode y_M_four.2.1 29 = .ok (.iadd, 1) := by decide +kernel
theorem d_M_four_30 : decode y_M_four.2.1 30 = .ok (.putfield 133, 3) := by decide +kernel
theorem d_M_four_33 : decode y_M_four.2.1 33 = .ok (.iinc 2 (-8), 3) := by decide +kernel
theorem d_M_four_36 : decode y_M_four.2.1 36 = .ok (.goto (-33), 3) := by decide +kernel
theorem d_M_four_39 : decode y_M_four.2.1 39 = .ok (.return_, 1) := by decide +kernel

abbrev y_M_feed : MI := (⟨"CricketHayModel", "feed", "(IIIII)I"⟩, prog_14_method_2_code, 6, (some .int))
theorem hy_M_feed : y_M_feed.1.cls ≠ "java/lang/invoke/MethodHandle" ∧ y_M_feed.1.cls ≠ "java/lang/invoke/VarHandle" ∧ (parseMethodDescriptor y_M_feed.1.desc).map (fun d => d.parameters.length) = some 5 := by decide +kernel
theorem d_M_feed_0 : decode y_M_feed.2.1 0 = .ok (.aload_n 0, 1) := by decide +kernel
theorem d_M_feed_1 : decode y_M_feed.2.1 1 = .ok (.getfield 133, 3) := by decide +kernel
theorem d_M_feed_4 : decode y_M_feed.2.1 4 = .ok (.bipush 20, 2) := by decide +kernel
theorem d_M_feed_6 : decode y_M_feed.2.1 6 = .ok (.iadd, 1) := by decide +kernel
theorem d_M_feed_7 : decode y_M_feed.2.1 7 = .ok (.sipush 1600, 3) := by decide +kernel
theorem d_M_feed_10 : decode y_M_feed.2.1 10 = .ok (.if_icmp .le 5, 3) := by decide +kernel
theorem d_M_feed_13 : decode y_M_feed.2.1 13 = .ok (.iconst (-1), 1) := by decide +kernel
theorem d_M_feed_14 : decode y_M_feed.2.1 14 = .ok (.ireturn, 1) := by decide +kernel
theorem d_M_feed_15 : decode y_M_feed.2.1 15 = .ok (.aload_n 0, 1) := by decide +kernel
theorem d_M_feed_16 : decode y_M_feed.2.1 16 = .ok (.iload_n 1, 1) := by decide +kernel
theorem d_M_feed_17 : decode y_M_feed.2.1 17 = .ok (.invokevirtual 136, 3) := by decide +kernel
theorem d_M_feed_20 : decode y_M_feed.2.1 20 = .ok (.aload_n 0, 1) := by decide +kernel
theorem d_M_feed_21 : decode y_M_feed.2.1 21 = .ok (.iload_n 2, 1) := by decide +kernel
theorem d_M_feed_22 : decode y_M_feed.2.1 22 = .ok (.invokevirtual 136, 3) := by decide +kernel
theorem d_M_feed_25 : decode y_M_feed.2.1 25 = .ok (.aload_n 0, 1) := by decide +kernel
theorem d_M_feed_26 : decode y_M_feed.2.1 26 = .ok (.iload_n 3, 1) := by decide +kernel
theorem d_M_feed_27 : decode y_M_feed.2.1 27 = .ok (.invokevirtual 136, 3) := by decide +kernel
theorem d_M_feed_30 : decode y_M_feed.2.1 30 = .ok (.aload_n 0, 1) := by decide +kernel
theorem d_M_feed_31 : decode y_M_feed.2.1 31 = .ok (.iload 4, 2) := by decide +kernel
theorem d_M_feed_33 : decode y_M_feed.2.1 33 = .ok (.invokevirtual 136, 3) := by decide +kernel
theorem d_M_feed_36 : decode y_M_feed.2.1 36 = .ok (.aload_n 0, 1) := by decide +kernel
theorem d_M_feed_37 : decode y_M_feed.2.1 37 = .ok (.iload 5, 2) := by decide +kernel
theorem d_M_feed_39 : decode y_M_feed.2.1 39 = .ok (.invokevirtual 136, 3) := by decide +kernel
theorem d_M_feed_42 : decode y_M_feed.2.1 42 = .ok (.aload_n 0, 1) := by decide +kernel
theorem d_M_feed_43 : decode y_M_feed.2.1 43 = .ok (.getfield 133, 3) := by decide +kernel
theorem d_M_feed_46 : decode y_M_feed.2.1 46 = .ok (.ireturn, 1) := by decide +kernel

abbrev y_M_end : MI := (⟨"CricketHayModel", "end", "(I)I"⟩, prog_14_method_4_code, 2, (some .int))
theorem hy_M_end : y_M_end.1.cls ≠ "java/lang/invoke/MethodHandle" ∧ y_M_end.1.cls ≠ "java/lang/invoke/VarHandle" ∧ (parseMethodDescriptor y_M_end.1.desc).map (fun d => d.parameters.length) = some 1 := by decide +kernel
theorem d_M_end_0 : decode y_M_end.2.1 0 = .ok (.iload_n 1, 1) := by decide +kernel
theorem d_M_end_1 : decode y_M_end.2.1 1 = .ok (.ifCond .lt 11, 3) := by decide +kernel
theorem d_M_end_4 : decode y_M_end.2.1 4 = .ok (.iload_n 1, 1) := by decide +kernel
theorem d_M_end_5 : decode y_M_end.2.1 5 = .ok (.aload_n 0, 1) := by decide +kernel
theorem d_M_end_6 : decode y_M_end.2.1 6 = .ok (.getfield 133, 3) := by decide +kernel
theorem d_M_end_9 : decode y_M_end.2.1 9 = .ok (.if_icmp .le 5, 3) := by decide +kernel
theorem d_M_end_12 : decode y_M_end.2.1 12 = .ok (.iconst (-1), 1) := by decide +kernel
theorem d_M_end_13 : decode y_M_end.2.1 13 = .ok (.ireturn, 1) := by decide +kernel
theorem d_M_end_14 : decode y_M_end.2.1 14 = .ok (.aload_n 0, 1) := by decide +kernel
theorem d_M_end_15 : decode y_M_end.2.1 15 = .ok (.iload_n 1, 1) := by decide +kernel
theorem d_M_end_16 : decode y_M_end.2.1 16 = .ok (.putfield 133, 3) := by decide +kernel
theorem d_M_end_19 : decode y_M_end.2.1 19 = .ok (.iload_n 1, 1) := by decide +kernel
theorem d_M_end_20 : decode y_M_end.2.1 20 = .ok (.ireturn, 1) := by decide +kernel

abbrev y_M_here : MI := (⟨"CricketHayModel", "here", "(I)I"⟩, prog_14_method_5_code, 2, (some .int))
theorem hy_M_here : y_M_here.1.cls ≠ "java/lang/invoke/MethodHandle" ∧ y_M_here.1.cls ≠ "java/lang/invoke/VarHandle" ∧ (parseMethodDescriptor y_M_here.1.desc).map (fun d => d.parameters.length) = some 1 := by decide +kernel
theorem d_M_here_0 : decode y_M_here.2.1 0 = .ok (.aload_n 0, 1) := by decide +kernel
theorem d_M_here_1 : decode y_M_here.2.1 1 = .ok (.getfield 140, 3) := by decide +kernel
theorem d_M_here_4 : decode y_M_here.2.1 4 = .ok (.iload_n 1, 1) := by decide +kernel
theorem d_M_here_5 : decode y_M_here.2.1 5 = .ok (.iadd, 1) := by decide +kernel
theorem d_M_here_6 : decode y_M_here.2.1 6 = .ok (.aload_n 0, 1) := by decide +kernel
theorem d_M_here_7 : decode y_M_here.2.1 7 = .ok (.getfield 143, 3) := by decide +kernel
theorem d_M_here_10 : decode y_M_here.2.1 10 = .ok (.if_icmp .ge 17, 3) := by decide +kernel
theorem d_M_here_13 : decode y_M_here.2.1 13 = .ok (.aload_n 0, 1) := by decide +kernel
theorem d_M_here_14 : decode y_M_here.2.1 14 = .ok (.getfield 7, 3) := by decide +kernel
theorem d_M_here_17 : decode y_M_here.2.1 17 = .ok (.aload_n 0, 1) := by decide +kernel
theorem d_M_here_18 : decode y_M_here.2.1 18 = .ok (.getfield 140, 3) := by decide +kernel
theorem d_M_here_21 : decode y_M_here.2.1 21 = .ok (.iload_n 1, 1) := by decide +kernel
theorem d_M_here_22 : decode y_M_here.2.1 22 = .ok (.iadd, 1) := by decide +kernel
theorem d_M_here_23 : decode y_M_here.2.1 23 = .ok (.iaload, 1) := by decide +kernel
theorem d_M_here_24 : decode y_M_here.2.1 24 = .ok (.goto 4, 3) := by decide +kernel
theorem d_M_here_27 : decode y_M_here.2.1 27 = .ok (.iconst (-1), 1) := by decide +kernel
theorem d_M_here_28 : decode y_M_here.2.1 28 = .ok (.ireturn, 1) := by decide +kernel

abbrev y_M_isLetter : MI := (⟨"CricketHayModel", "isLetter", "(I)Z"⟩, prog_14_method_6_code, 1, (some .boolean))
theorem hy_M_isLetter : y_M_isLetter.1.cls ≠ "java/lang/invoke/MethodHandle" ∧ y_M_isLetter.1.cls ≠ "java/lang/invoke/VarHandle" ∧ (parseMethodDescriptor y_M_isLetter.1.desc).map (fun d => d.parameters.length) = some 1 := by decide +kernel
theorem d_M_isLetter_0 : decode y_M_isLetter.2.1 0 = .ok (.iload_n 0, 1) := by decide +kernel
theorem d_M_isLetter_1 : decode y_M_isLetter.2.1 1 = .ok (.bipush 97, 2) := by decide +kernel
theorem d_M_isLetter_3 : decode y_M_isLetter.2.1 3 = .ok (.if_icmp .lt 13, 3) := by decide +kernel
theorem d_M_isLetter_6 : decode y_M_isLetter.2.1 6 = .ok (.iload_n 0, 1) := by decide +kernel
theorem d_M_isLetter_7 : decode y_M_isLetter.2.1 7 = .ok (.bipush 122, 2) := by decide +kernel
theorem d_M_isLetter_9 : decode y_M_isLetter.2.1 9 = .ok (.if_icmp .gt 7, 3) := by decide +kernel
theorem d_M_isLetter_12 : decode y_M_isLetter.2.1 12 = .ok (.iconst 1, 1) := by decide +kernel
theorem d_M_isLetter_13 : decode y_M_isLetter.2.1 13 = .ok (.goto 4, 3) := by decide +kernel
theorem d_M_isLetter_16 : decode y_M_isLetter.2.1 16 = .ok (.iconst 0, 1) := by decide +kernel
theorem d_M_isLetter_17 : decode y_M_isLetter.2.1 17 = .ok (.ireturn, 1) := by decide +kernel

abbrev y_M_isDigit : MI := (⟨"CricketHayModel", "isDigit", "(I)Z"⟩, prog_14_method_7_code, 1, (some .boolean))
theorem hy_M_isDigit : y_M_isDigit.1.cls ≠ "java/lang/invoke/MethodHandle" ∧ y_M_isDigit.1.cls ≠ "java/lang/invoke/VarHandle" ∧ (parseMethodDescriptor y_M_isDigit.1.desc).map (fun d => d.parameters.length) = some 1 := by decide +kernel
theorem d_M_isDigit_0 : decode y_M_isDigit.2.1 0 = .ok (.iload_n 0, 1) := by decide +kernel
theorem d_M_isDigit_1 : decode y_M_isDigit.2.1 1 = .ok (.bipush 48, 2) := by decide +kernel
theorem d_M_isDigit_3 : decode y_M_isDigit.2.1 3 = .ok (.if_icmp .lt 13, 3) := by decide +kernel
theorem d_M_isDigit_6 : decode y_M_isDigit.2.1 6 = .ok (.iload_n 0, 1) := by decide +kernel
theorem d_M_isDigit_7 : decode y_M_isDigit.2.1 7 = .ok (.bipush 57, 2) := by decide +kernel
theorem d_M_isDigit_9 : decode y_M_isDigit.2.1 9 = .ok (.if_icmp .gt 7, 3) := by decide +kernel
theorem d_M_isDigit_12 : decode y_M_isDigit.2.1 12 = .ok (.iconst 1, 1) := by decide +kernel
theorem d_M_isDigit_13 : decode y_M_isDigit.2.1 13 = .ok (.goto 4, 3) := by decide +kernel
theorem d_M_isDigit_16 : decode y_M_isDigit.2.1 16 = .ok (.iconst 0, 1) := by decide +kernel
theorem d_M_isDigit_17 : decode y_M_isDigit.2.1 17 = .ok (.ireturn, 1) := by decide +kernel

abbrev y_M_isSign : MI := (⟨"CricketHayModel", "isSign", "(I)Z"⟩, prog_14_method_8_code, 1, (some .boolean))
theorem hy_M_isSign : y_M_isSign.1.cls ≠ "java/lang/invoke/MethodHandle" ∧ y_M_isSign.1.cls ≠ "java/lang/invoke/VarHandle" ∧ (parseMethodDescriptor y_M_isSign.1.desc).map (fun d => d.parameters.length) = some 1 := by decide +kernel
theorem d_M_isSign_0 : decode y_M_isSign.2.1 0 = .ok (.iload_n 0, 1) := by decide +kernel
theorem d_M_isSign_1 : decode y_M_isSign.2.1 1 = .ok (.bipush 59, 2) := by decide +kernel
theorem d_M_isSign_3 : decode y_M_isSign.2.1 3 = .ok (.if_icmp .eq 63, 3) := by decide +kernel
theorem d_M_isSign_6 : decode y_M_isSign.2.1 6 = .ok (.iload_n 0, 1) := by decide +kernel
theorem d_M_isSign_7 : decode y_M_isSign.2.1 7 = .ok (.bipush 40, 2) := by decide +kernel
theorem d_M_isSign_9 : decode y_M_isSign.2.1 9 = .ok (.if_icmp .eq 57, 3) := by decide +kernel
theorem d_M_isSign_12 : decode y_M_isSign.2.1 12 = .ok (.iload_n 0, 1) := by decide +kernel
theorem d_M_isSign_13 : decode y_M_isSign.2.1 13 = .ok (.bipush 41, 2) := by decide +kernel
theorem d_M_isSign_15 : decode y_M_isSign.2.1 15 = .ok (.if_icmp .eq 51, 3) := by decide +kernel
theorem d_M_isSign_18 : decode y_M_isSign.2.1 18 = .ok (.iload_n 0, 1) := by decide +kernel
theorem d_M_isSign_19 : decode y_M_isSign.2.1 19 = .ok (.bipush 60, 2) := by decide +kernel
theorem d_M_isSign_21 : decode y_M_isSign.2.1 21 = .ok (.if_icmp .eq 45, 3) := by decide +kernel
theorem d_M_isSign_24 : decode y_M_isSign.2.1 24 = .ok (.iload_n 0, 1) := by decide +kernel
theorem d_M_isSign_25 : decode y_M_isSign.2.1 25 = .ok (.bipush 62, 2) := by decide +kernel
theorem d_M_isSign_27 : decode y_M_isSign.2.1 27 = .ok (.if_icmp .eq 39, 3) := by decide +kernel
theorem d_M_isSign_30 : decode y_M_isSign.2.1 30 = .ok (.iload_n 0, 1) := by decide +kernel
theorem d_M_isSign_31 : decode y_M_isSign.2.1 31 = .ok (.bipush 61, 2) := by decide +kernel
theorem d_M_isSign_33 : decode y_M_isSign.2.1 33 = .ok (.if_icmp .eq 33, 3) := by decide +kernel
theorem d_M_isSign_36 : decode y_M_isSign.2.1 36 = .ok (.iload_n 0, 1) := by decide +kernel
theorem d_M_isSign_37 : decode y_M_isSign.2.1 37 = .ok (.bipush 43, 2) := by decide +kernel
theorem d_M_isSign_39 : decode y_M_isSign.2.1 39 = .ok (.if_icmp .eq 27, 3) := by decide +kernel
theorem d_M_isSign_42 : decode y_M_isSign.2.1 42 = .ok (.iload_n 0, 1) := by decide +kernel
theorem d_M_isSign_43 : decode y_M_isSign.2.1 43 = .ok (.bipush 45, 2) := by decide +kernel
theorem d_M_isSign_45 : decode y_M_isSign.2.1 45 = .ok (.if_icmp .eq 21, 3) := by decide +kernel
theorem d_M_isSign_48 : decode y_M_isSign.2.1 48 = .ok (.iload_n 0, 1) := by decide +kernel
theorem d_M_isSign_49 : decode y_M_isSign.2.1 49 = .ok (.bipush 42, 2) := by decide +kernel
theorem d_M_isSign_51 : decode y_M_isSign.2.1 51 = .ok (.if_icmp .eq 15, 3) := by decide +kernel
theorem d_M_isSign_54 : decode y_M_isSign.2.1 54 = .ok (.iload_n 0, 1) := by decide +kernel
theorem d_M_isSign_55 : decode y_M_isSign.2.1 55 = .ok (.bipush 47, 2) := by decide +kernel
theorem d_M_isSign_57 : decode y_M_isSign.2.1 57 = .ok (.if_icmp .eq 9, 3) := by decide +kernel
theorem d_M_isSign_60 : decode y_M_isSign.2.1 60 = .ok (.iload_n 0, 1) := by decide +kernel
theorem d_M_isSign_61 : decode y_M_isSign.2.1 61 = .ok (.bipush 37, 2) := by decide +kernel
theorem d_M_isSign_63 : decode y_M_isSign.2.1 63 = .ok (.if_icmp .ne 7, 3) := by decide +kernel
theorem d_M_isSign_66 : decode y_M_isSign.2.1 66 = .ok (.iconst 1, 1) := by decide +kernel
theorem d_M_isSign_67 : decode y_M_isSign.2.1 67 = .ok (.goto 4, 3) := by decide +kernel
theorem d_M_isSign_70 : decode y_M_isSign.2.1 70 = .ok (.iconst 0, 1) := by decide +kernel
theorem d_M_isSign_71 : decode y_M_isSign.2.1 71 = .ok (.ireturn, 1) := by decide +kernel

abbrev y_M_token : MI := (⟨"CricketHayModel", "token", "()V"⟩, prog_14_method_9_code, 3, none)
theorem hy_M_token : y_M_token.1.cls ≠ "java/lang/invoke/MethodHandle" ∧ y_M_token.1.cls ≠ "java/lang/invoke/VarHandle" ∧ (parseMethodDescriptor y_M_token.1.desc).map (fun d => d.parameters.length) = some 0 := by decide +kernel
theorem d_M_token_0 : decode y_M_token.2.1 0 = .ok (.aload_n 0, 1) := by decide +kernel
theorem d_M_token_1 : decode y_M_token.2.1 1 = .ok (.iconst 0, 1) := by decide +kernel
theorem d_M_token_2 : decode y_M_token.2.1 2 = .ok (.invokevirtual 146, 3) := by decide +kernel
theorem d_M_token_5 : decode y_M_token.2.1 5 = .ok (.bipush 32, 2) := by decide +kernel
theorem d_M_token_7 : decode y_M_token.2.1 7 = .ok (.if_icmp .eq 13, 3) := by decide +kernel
theorem d_M_token_10 : decode y_M_token.2.1 10 = .ok (.aload_n 0, 1) := by decide +kernel
theorem d_M_token_11 : decode y_M_token.2.1 11 = .ok (.iconst 0, 1) := by decide +kernel
theorem d_M_token_12 : decode y_M_token.2.1 12 = .ok (.invokevirtual 146, 3) := by decide +kernel
theorem d_M_token_15 : decode y_M_token.2.1 15 = .ok (.bipush 10, 2) := by decide +kernel
theorem d_M_token_17 : decode y_M_token.2.1 17 = .ok (.if_icmp .ne 16, 3) := by decide +kernel
theorem d_M_token_20 : decode y_M_token.2.1 20 = .ok (.aload_n 0, 1) := by decide +kernel
theorem d_M_token_21 : decode y_M_token.2.1 21 = .ok (.dup, 1) := by decide +kernel
theorem d_M_token_22 : decode y_M_token.2.1 22 = .ok (.getfield 140, 3) := by decide +kernel
theorem d_M_token_25 : decode y_M_token.2.1 25 = .ok (.iconst 1, 1) := by decide +kernel
theorem d_M_token_26 : decode y_M_token.2.1 26 = .ok (.iadd, 1) := by decide +kernel
theorem d_M_token_27 : decode y_M_token.2.1 27 = .ok (.putfield 140, 3) := by decide +kernel
theorem d_M_token_30 : decode y_M_token.2.1 30 = .ok (.goto (-30), 3) := by decide +kernel
theorem d_M_token_33 : decode y_M_token.2.1 33 = .ok (.aload_n 0, 1) := by decide +kernel
theorem d_M_token_34 : decode y_M_token.2.1 34 = .ok (.aload_n 0, 1) := by decide +kernel
theorem d_M_token_35 : decode y_M_token.2.1 35 = .ok (.getfield 140, 3) := by decide +kernel
theorem d_M_token_38 : decode y_M_token.2.1 38 = .ok (.putfield 150, 3) := by decide +kernel
theorem d_M_token_41 : decode y_M_token.2.1 41 = .ok (.aload_n 0, 1) := by decide +kernel
theorem d_M_token_42 : decode y_M_token.2.1 42 = .ok (.iconst 0, 1) := by decide +kernel
theorem d_M_token_43 : decode y_M_token.2.1 43 = .ok (.invokevirtual 146, 3) := by decide +kernel
theorem d_M_token_46 : decode y_M_token.2.1 46 = .ok (.istore_n 1, 1) := by decide +kernel
theorem d_M_token_47 : decode y_M_token.2.1 47 = .ok (.iconst 0, 1) := by decide +kernel
theorem d_M_token_48 : decode y_M_token.2.1 48 = .ok (.istore_n 2, 1) := by decide +kernel
theorem d_M_token_49 : decode y_M_token.2.1 49 = .ok (.aload_n 0, 1) := by decide +kernel
theorem d_M_token_50 : decode y_M_token.2.1 50 = .ok (.lconst 0, 1) := by decide +kernel
theorem d_M_token_51 : decode y_M_token.2.1 51 = .ok (.putfield 153, 3) := by decide +kernel
theorem d_M_token_54 : decode y_M_token.2.1 54 = .ok (.aload_n 0, 1) := by decide +kernel
theorem d_M_token_55 : decode y_M_token.2.1 55 = .ok (.iconst 0, 1) := by decide +kernel
theorem d_M_token_56 : decode y_M_token.2.1 56 = .ok (.putfield 157, 3) := by decide +kernel
theorem d_M_token_59 : decode y_M_token.2.1 59 = .ok (.iload_n 1, 1) := by decide +kernel
theorem d_M_token_60 : decode y_M_token.2.1 60 = .ok (.ifCond .ge 11, 3) := by decide +kernel
theorem d_M_token_63 : decode y_M_token.2.1 63 = .ok (.aload_n 0, 1) := by decide +kernel
theorem d_M_token_64 : decode y_M_token.2.1 64 = .ok (.iconst 0, 1) := by decide +kernel
theorem d_M_token_65 : decode y_M_token.2.1 65 = .ok (.putfield 160, 3) := by decide +kernel
theorem d_M_token_68 : decode y_M_token.2.1 68 = .ok (.goto 164, 3) := by decide +kernel
theorem d_M_token_71 : decode y_M_token.2.1 71 = .ok (.iload_n 1, 1) := by decide +kernel
theorem d_M_token_72 : decode y_M_token.2.1 72 = .ok (.invokestatic 163, 3) := by decide +kernel
theorem d_M_token_75 : decode y_M_token.2.1 75 = .ok (.ifCond .eq 62, 3) := by decide +kernel
theorem d_M_token_78 : decode y_M_token.2.1 78 = .ok (.aload_n 0, 1) := by decide +kernel
theorem d_M_token_79 : decode y_M_token.2.1 79 = .ok (.iload_n 2, 1) := by decide +kernel
theorem d_M_token_80 : decode y_M_token.2.1 80 = .ok (.invokevirtual 146, 3) := by decide +kernel
theorem d_M_token_83 : decode y_M_token.2.1 83 = .ok (.invokestatic 163, 3) := by decide +kernel
theorem d_M_token_86 : decode y_M_token.2.1 86 = .ok (.ifCond .eq 33, 3) := by decide +kernel
theorem d_M_token_89 : decode y_M_token.2.1 89 = .ok (.iload_n 2, 1) := by decide +kernel
theorem d_M_token_90 : decode y_M_token.2.1 90 = .ok (.bipush 8, 2) := by decide +kernel
theorem d_M_token_92 : decode y_M_token.2.1 92 = .ok (.if_icmp .ge 21, 3) := by decide +kernel
theorem d_M_token_95 : decode y_M_token.2.1 95 = .ok (.aload_n 0, 1) := by decide +kernel
theorem d_M_token_96 : decode y_M_token.2.1 96 = .ok (.aload_n 0, 1) := by decide +kernel
theorem d_M_token_97 : decode y_M_token.2.1 97 = .ok (.getfield 153, 3) := by decide +kernel
theorem d_M_token_100 : decode y_M_token.2.1 100 = .ok (.bipush 8, 2) := by decide +kernel
theorem d_M_token_102 : decode y_M_token.2.1 102 = .ok (.lshl, 1) := by decide +kernel
theorem d_M_token_103 : decode y_M_token.2.1 103 = .ok (.aload_n 0, 1) := by decide +kernel
theorem d_M_token_104 : decode y_M_token.2.1 104 = .ok (.iload_n 2, 1) := by decide +kernel
theorem d_M_token_105 : decode y_M_token.2.1 105 = .ok (.invokevirtual 146, 3) := by decide +kernel
theorem d_M_token_108 : decode y_M_token.2.1 108 = .ok (.i2l, 1) := by decide +kernel
theorem d_M_token_109 : decode y_M_token.2.1 109 = .ok (.lor, 1) := by decide +kernel
theorem d_M_token_110 : decode y_M_token.2.1 110 = .ok (.putfield 153, 3) := by decide +kernel
theorem d_M_token_113 : decode y_M_token.2.1 113 = .ok (.iinc 2 1, 3) := by decide +kernel
theorem d_M_token_116 : decode y_M_token.2.1 116 = .ok (.goto (-38), 3) := by decide +kernel
theorem d_M_token_119 : decode y_M_token.2.1 119 = .ok (.aload_n 0, 1) := by decide +kernel
theorem d_M_token_120 : decode y_M_token.2.1 120 = .ok (.iload_n 2, 1) := by decide +kernel
theorem d_M_token_121 : decode y_M_token.2.1 121 = .ok (.bipush 8, 2) := by decide +kernel
theorem d_M_token_123 : decode y_M_token.2.1 123 = .ok (.if_icmp .le 7, 3) := by decide +kernel
theorem d_M_token_126 : decode y_M_token.2.1 126 = .ok (.iconst 3, 1) := by decide +kernel
theorem d_M_token_127 : decode y_M_token.2.1 127 = .ok (.goto 4, 3) := by decide +kernel
theorem d_M_token_130 : decode y_M_token.2.1 130 = .ok (.iconst 1, 1) := by decide +kernel
theorem d_M_token_131 : decode y_M_token.2.1 131 = .ok (.putfield 160, 3) := by decide +kernel
theorem d_M_token_134 : decode y_M_token.2.1 134 = .ok (.goto 98, 3) := by decide +kernel
theorem d_M_token_137 : decode y_M_token.2.1 137 = .ok (.iload_n 1, 1) := by decide +kernel
theorem d_M_token_138 : decode y_M_token.2.1 138 = .ok (.invokestatic 167, 3) := by decide +kernel
theorem d_M_token_141 : decode y_M_token.2.1 141 = .ok (.ifCond .eq 73, 3) := by decide +kernel
theorem d_M_token_144 : decode y_M_token.2.1 144 = .ok (.aload_n 0, 1) := by decide +kernel
theorem d_M_token_145 : decode y_M_token.2.1 145 = .ok (.iload_n 2, 1) := by decide +kernel
theorem d_M_token_146 : decode y_M_token.2.1 146 = .ok (.invokevirtual 146, 3) := by decide +kernel
theorem d_M_token_149 : decode y_M_token.2.1 149 = .ok (.invokestatic 167, 3) := by decide +kernel
theorem d_M_token_152 : decode y_M_token.2.1 152 = .ok (.ifCond .eq 34, 3) := by decide +kernel
theorem d_M_token_155 : decode y_M_token.2.1 155 = .ok (.iload_n 2, 1) := by decide +kernel
theorem d_M_token_156 : decode y_M_token.2.1 156 = .ok (.iconst 4, 1) := by decide +kernel
theorem d_M_token_157 : decode y_M_token.2.1 157 = .ok (.if_icmp .ge 23, 3) := by decide +kernel
theorem d_M_token_160 : decode y_M_token.2.1 160 = .ok (.aload_n 0, 1) := by decide +kernel
theorem d_M_token_161 : decode y_M_token.2.1 161 = .ok (.bipush 10, 2) := by decide +kernel
theorem d_M_token_163 : decode y_M_token.2.1 163 = .ok (.aload_n 0, 1) := by decide +kernel
theorem d_M_token_164 : decode y_M_token.2.1 164 = .ok (.getfield 157, 3) := by decide +kernel
theorem d_M_token_167 : decode y_M_token.2.1 167 = .ok (.imul, 1) := by decide +kernel
theorem d_M_token_168 : decode y_M_token.2.1 168 = .ok (.aload_n 0, 1) := by decide +kernel
theorem d_M_token_169 : decode y_M_token.2.1 169 = .ok (.iload_n 2, 1) := by decide +kernel
theorem d_M_token_170 : decode y_M_token.2.1 170 = .ok (.invokevirtual 146, 3) := by decide +kernel
theorem d_M_token_173 : decode y_M_token.2.1 173 = .ok (.iadd, 1) := by decide +kernel
theorem d_M_token_174 : decode y_M_token.2.1 174 = .ok (.bipush 48, 2) := by decide +kernel
theorem d_M_token_176 : decode y_M_token.2.1 176 = .ok (.isub, 1) := by decide +kernel
theorem d_M_token_177 : decode y_M_token.2.1 177 = .ok (.putfield 157, 3) := by decide +kernel
theorem d_M_token_180 : decode y_M_token.2.1 180 = .ok (.iinc 2 1, 3) := by decide +kernel
theorem d_M_token_183 : decode y_M_token.2.1 183 = .ok (.goto (-39), 3) := by decide +kernel
theorem d_M_token_186 : decode y_M_token.2.1 186 = .ok (.aload_n 0, 1) := by decide +kernel
theorem d_M_token_187 : decode y_M_token.2.1 187 = .ok (.iload_n 2, 1) := by decide +kernel
theorem d_M_token_188 : decode y_M_token.2.1 188 = .ok (.iconst 4, 1) := by decide +kernel
theorem d_M_token_189 : decode y_M_token.2.1 189 = .ok (.if_icmp .gt 14, 3) := by decide +kernel
theorem d_M_token_192 : decode y_M_token.2.1 192 = .ok (.aload_n 0, 1) := by decide +kernel
theorem d_M_token_193 : decode y_M_token.2.1 193 = .ok (.iload_n 2, 1) := by decide +kernel
theorem d_M_token_194 : decode y_M_token.2.1 194 = .ok (.invokevirtual 146, 3) := by decide +kernel
theorem d_M_token_197 : decode y_M_token.2.1 197 = .ok (.invokestatic 163, 3) := by decide +kernel
theorem d_M_token_200 : decode y_M_token.2.1 200 = .ok (.ifCond .eq 7, 3) := by decide +kernel
theorem d_M_token_203 : decode y_M_token.2.1 203 = .ok (.iconst 3, 1) := by decide +kernel
theorem d_M_token_204 : decode y_M_token.2.1 204 = .ok (.goto 4, 3) := by decide +kernel
theorem d_M_token_207 : decode y_M_token.2.1 207 = .ok (.iconst 2, 1) := by decide +kernel
theorem d_M_token_208 : decode y_M_token.2.1 208 = .ok (.putfield 160, 3) := by decide +kernel
theorem d_M_token_211 : decode y_M_token.2.1 211 = .ok (.goto 21, 3) := by decide +kernel
theorem d_M_token_214 : decode y_M_token.2.1 214 = .ok (.iconst 1, 1) := by decide +kernel
theorem d_M_token_215 : decode y_M_token.2.1 215 = .ok (.istore_n 2, 1) := by decide +kernel
theorem d_M_token_216 : decode y_M_token.2.1 216 = .ok (.aload_n 0, 1) := by decide +kernel
theorem d_M_token_217 : decode y_M_token.2.1 217 = .ok (.iload_n 1, 1) := by decide +kernel
theorem d_M_token_218 : decode y_M_token.2.1 218 = .ok (.invokestatic 170, 3) := by decide +kernel
theorem d_M_token_221 : decode y_M_token.2.1 221 = .ok (.ifCond .eq 7, 3) := by decide +kernel
theorem d_M_token_224 : decode y_M_token.2.1 224 = .ok (.iload_n 1, 1) := by decide +kernel
theorem d_M_token_225 : decode y_M_token.2.1 225 = .ok (.goto 4, 3) := by decide +kernel
theorem d_M_token_228 : decode y_M_token.2.1 228 = .ok (.iconst 3, 1) := by decide +kernel
theorem d_M_token_229 : decode y_M_token.2.1 229 = .ok (.putfield 160, 3) := by decide +kernel
theorem d_M_token_232 : decode y_M_token.2.1 232 = .ok (.aload_n 0, 1) := by decide +kernel
theorem d_M_token_233 : decode y_M_token.2.1 233 = .ok (.getfield 160, 3) := by decide +kernel
theorem d_M_token_236 : decode y_M_token.2.1 236 = .ok (.iconst 3, 1) := by decide +kernel
theorem d_M_token_237 : decode y_M_token.2.1 237 = .ok (.if_icmp .eq 13, 3) := by decide +kernel
theorem d_M_token_240 : decode y_M_token.2.1 240 = .ok (.aload_n 0, 1) := by decide +kernel
theorem d_M_token_241 : decode y_M_token.2.1 241 = .ok (.dup, 1) := by decide +kernel
theorem d_M_token_242 : decode y_M_token.2.1 242 = .ok (.getfield 140, 3) := by decide +kernel
theorem d_M_token_245 : decode y_M_token.2.1 245 = .ok (.iload_n 2, 1) := by decide +kernel
theorem d_M_token_246 : decode y_M_token.2.1 246 = .ok (.iadd, 1) := by decide +kernel
theorem d_M_token_247 : decode y_M_token.2.1 247 = .ok (.putfield 140, 3) := by decide +kernel
theorem d_M_token_250 : decode y_M_token.2.1 250 = .ok (.return_, 1) := by decide +kernel

abbrev y_M_wrong : MI := (⟨"CricketHayModel", "wrong", "(I)V"⟩, prog_14_method_10_code, 2, none)
theorem hy_M_wrong : y_M_wrong.1.cls ≠ "java/lang/invoke/MethodHandle" ∧ y_M_wrong.1.cls ≠ "java/lang/invoke/VarHandle" ∧ (parseMethodDescriptor y_M_wrong.1.desc).map (fun d => d.parameters.length) = some 1 := by decide +kernel
theorem d_M_wrong_0 : decode y_M_wrong.2.1 0 = .ok (.aload_n 0, 1) := by decide +kernel
theorem d_M_wrong_1 : decode y_M_wrong.2.1 1 = .ok (.getfield 173, 3) := by decide +kernel
theorem d_M_wrong_4 : decode y_M_wrong.2.1 4 = .ok (.ifCond .le 4, 3) := by decide +kernel
theorem d_M_wrong_7 : decode y_M_wrong.2.1 7 = .ok (.return_, 1) := by decide +kernel
theorem d_M_wrong_8 : decode y_M_wrong.2.1 8 = .ok (.aload_n 0, 1) := by decide +kernel
theorem d_M_wrong_9 : decode y_M_wrong.2.1 9 = .ok (.aload_n 0, 1) := by decide +kernel
theorem d_M_wrong_10 : decode y_M_wrong.2.1 10 = .ok (.getfield 160, 3) := by decide +kernel
theorem d_M_wrong_13 : decode y_M_wrong.2.1 13 = .ok (.iconst 3, 1) := by decide +kernel
theorem d_M_wrong_14 : decode y_M_wrong.2.1 14 = .ok (.if_icmp .ne 7, 3) := by decide +kernel
theorem d_M_wrong_17 : decode y_M_wrong.2.1 17 = .ok (.iconst 1, 1) := by decide +kernel
theorem d_M_wrong_18 : decode y_M_wrong.2.1 18 = .ok (.goto 4, 3) := by decide +kernel
theorem d_M_wrong_21 : decode y_M_wrong.2.1 21 = .ok (.iload_n 1, 1) := by decide +kernel
theorem d_M_wrong_22 : decode y_M_wrong.2.1 22 = .ok (.putfield 173, 3) := by decide +kernel
theorem d_M_wrong_25 : decode y_M_wrong.2.1 25 = .ok (.aload_n 0, 1) := by decide +kernel
theorem d_M_wrong_26 : decode y_M_wrong.2.1 26 = .ok (.aload_n 0, 1) := by decide +kernel
theorem d_M_wrong_27 : decode y_M_wrong.2.1 27 = .ok (.getfield 150, 3) := by decide +kernel
theorem d_M_wrong_30 : decode y_M_wrong.2.1 30 = .ok (.putfield 13, 3) := by decide +kernel
theorem d_M_wrong_33 : decode y_M_wrong.2.1 33 = .ok (.return_, 1) := by decide +kernel

abbrev y_M_isWord : MI := (⟨"CricketHayModel", "isWord", "(J)Z"⟩, prog_14_method_11_code, 3, (some .boolean))
theorem hy_M_isWord : y_M_isWord.1.cls ≠ "java/lang/invoke/MethodHandle" ∧ y_M_isWord.1.cls ≠ "java/lang/invoke/VarHandle" ∧ (parseMethodDescriptor y_M_isWord.1.desc).map (fun d => d.parameters.length) = some 1 := by decide +kernel
theorem d_M_isWord_0 : decode y_M_isWord.2.1 0 = .ok (.aload_n 0, 1) := by decide +kernel
theorem d_M_isWord_1 : decode y_M_isWord.2.1 1 = .ok (.getfield 160, 3) := by decide +kernel
theorem d_M_isWord_4 : decode y_M_isWord.2.1 4 = .ok (.iconst 1, 1) := by decide +kernel
theorem d_M_isWord_5 : decode y_M_isWord.2.1 5 = .ok (.if_icmp .ne 16, 3) := by decide +kernel
theorem d_M_isWord_8 : decode y_M_isWord.2.1 8 = .ok (.aload_n 0, 1) := by decide +kernel
theorem d_M_isWord_9 : decode y_M_isWord.2.1 9 = .ok (.getfield 153, 3) := by decide +kernel
theorem d_M_isWord_12 : decode y_M_isWord.2.1 12 = .ok (.lload_n 1, 1) := by decide +kernel
theorem d_M_isWord_13 : decode y_M_isWord.2.1 13 = .ok (.lcmp, 1) := by decide +kernel
theorem d_M_isWord_14 : decode y_M_isWord.2.1 14 = .ok (.ifCond .ne 7, 3) := by decide +kernel
theorem d_M_isWord_17 : decode y_M_isWord.2.1 17 = .ok (.iconst 1, 1) := by decide +kernel
theorem d_M_isWord_18 : decode y_M_isWord.2.1 18 = .ok (.goto 4, 3) := by decide +kernel
theorem d_M_isWord_21 : decode y_M_isWord.2.1 21 = .ok (.iconst 0, 1) := by decide +kernel
theorem d_M_isWord_22 : decode y_M_isWord.2.1 22 = .ok (.ireturn, 1) := by decide +kernel

abbrev y_M_isOwn : MI := (⟨"CricketHayModel", "isOwn", "()Z"⟩, prog_14_method_12_code, 1, (some .boolean))
theorem hy_M_isOwn : y_M_isOwn.1.cls ≠ "java/lang/invoke/MethodHandle" ∧ y_M_isOwn.1.cls ≠ "java/lang/invoke/VarHandle" ∧ (parseMethodDescriptor y_M_isOwn.1.desc).map (fun d => d.parameters.length) = some 0 := by decide +kernel
theorem d_M_isOwn_0 : decode y_M_isOwn.2.1 0 = .ok (.aload_n 0, 1) := by decide +kernel
theorem d_M_isOwn_1 : decode y_M_isOwn.2.1 1 = .ok (.getfield 153, 3) := by decide +kernel
theorem d_M_isOwn_4 : decode y_M_isOwn.2.1 4 = .ok (.ldc2_w 176, 3) := by decide +kernel
theorem d_M_isOwn_7 : decode y_M_isOwn.2.1 7 = .ok (.lcmp, 1) := by decide +kernel
theorem d_M_isOwn_8 : decode y_M_isOwn.2.1 8 = .ok (.ifCond .eq 201, 3) := by decide +kernel
theorem d_M_isOwn_11 : decode y_M_isOwn.2.1 11 = .ok (.aload_n 0, 1) := by decide +kernel
theorem d_M_isOwn_12 : decode y_M_isOwn.2.1 12 = .ok (.getfield 153, 3) := by decide +kernel
theorem d_M_isOwn_15 : decode y_M_isOwn.2.1 15 = .ok (.ldc2_w 178, 3) := by decide +kernel
theorem d_M_isOwn_18 : decode y_M_isOwn.2.1 18 = .ok (.lcmp, 1) := by decide +kernel
theorem d_M_isOwn_19 : decode y_M_isOwn.2.1 19 = .ok (.ifCond .eq 190, 3) := by decide +kernel
theorem d_M_isOwn_22 : decode y_M_isOwn.2.1 22 = .ok (.aload_n 0, 1) := by decide +kernel
theorem d_M_isOwn_23 : decode y_M_isOwn.2.1 23 = .ok (.getfield 153, 3) := by decide +kernel
theorem d_M_isOwn_26 : decode y_M_isOwn.2.1 26 = .ok (.ldc2_w 180, 3) := by decide +kernel
theorem d_M_isOwn_29 : decode y_M_isOwn.2.1 29 = .ok (.lcmp, 1) := by decide +kernel
theorem d_M_isOwn_30 : decode y_M_isOwn.2.1 30 = .ok (.ifCond .eq 179, 3) := by decide +kernel
theorem d_M_isOwn_33 : decode y_M_isOwn.2.1 33 = .ok (.aload_n 0, 1) := by decide +kernel
theorem d_M_isOwn_34 : decode y_M_isOwn.2.1 34 = .ok (.getfield 153, 3) := by decide +kernel
theorem d_M_isOwn_37 : decode y_M_isOwn.2.1 37 = .ok (.ldc2_w 182, 3) := by decide +kernel
theorem d_M_isOwn_40 : decode y_M_isOwn.2.1 40 = .ok (.lcmp, 1) := by decide +kernel
theorem d_M_isOwn_41 : decode y_M_isOwn.2.1 41 = .ok (.ifCond .eq 168, 3) := by decide +kernel
theorem d_M_isOwn_44 : decode y_M_isOwn.2.1 44 = .ok (.aload_n 0, 1) := by decide +kernel
theorem d_M_isOwn_45 : decode y_M_isOwn.2.1 45 = .ok (.getfield 153, 3) := by decide +kernel
theorem d_M_isOwn_48 : decode y_M_isOwn.2.1 48 = .ok (.ldc2_w 184, 3) := by decide +kernel
theorem d_M_isOwn_51 : decode y_M_isOwn.2.1 51 = .ok (.lcmp, 1) := by decide +kernel
theorem d_M_isOwn_52 : decode y_M_isOwn.2.1 52 = .ok (.ifCond .eq 157, 3) := by decide +kernel
theorem d_M_isOwn_55 : decode y_M_isOwn.2.1 55 = .ok (.aload_n 0, 1) := by decide +kernel
theorem d_M_isOwn_56 : decode y_M_isOwn.2.1 56 = .ok (.getfield 153, 3) := by decide +kernel
theorem d_M_isOwn_59 : decode y_M_isOwn.2.1 59 = .ok (.ldc2_w 186, 3) := by decide +kernel
theorem d_M_isOwn_62 : decode y_M_isOwn.2.1 62 = .ok (.lcmp, 1) := by decide +kernel
theorem d_M_isOwn_63 : decode y_M_isOwn.2.1 63 = .ok (.ifCond .eq 146, 3) := by decide +kernel
theorem d_M_isOwn_66 : decode y_M_isOwn.2.1 66 = .ok (.aload_n 0, 1) := by decide +kernel
theorem d_M_isOwn_67 : decode y_M_isOwn.2.1 67 = .ok (.getfield 153, 3) := by decide +kernel
theorem d_M_isOwn_70 : decode y_M_isOwn.2.1 70 = .ok (.ldc2_w 188, 3) := by decide +kernel
theorem d_M_isOwn_73 : decode y_M_isOwn.2.1 73 = .ok (.lcmp, 1) := by decide +kernel
theorem d_M_isOwn_74 : decode y_M_isOwn.2.1 74 = .ok (.ifCond .eq 135, 3) := by decide +kernel
theorem d_M_isOwn_77 : decode y_M_isOwn.2.1 77 = .ok (.aload_n 0, 1) := by decide +kernel
theorem d_M_isOwn_78 : decode y_M_isOwn.2.1 78 = .ok (.getfield 153, 3) := by decide +kernel
theorem d_M_isOwn_81 : decode y_M_isOwn.2.1 81 = .ok (.ldc2_w 190, 3) := by decide +kernel
theorem d_M_isOwn_84 : decode y_M_isOwn.2.1 84 = .ok (.lcmp, 1) := by decide +kernel
theorem d_M_isOwn_85 : decode y_M_isOwn.2.1 85 = .ok (.ifCond .eq 124, 3) := by decide +kernel
theorem d_M_isOwn_88 : decode y_M_isOwn.2.1 88 = .ok (.aload_n 0, 1) := by decide +kernel
theorem d_M_isOwn_89 : decode y_M_isOwn.2.1 89 = .ok (.getfield 153, 3) := by decide +kernel
theorem d_M_isOwn_92 : decode y_M_isOwn.2.1 92 = .ok (.ldc2_w 192, 3) := by decide +kernel
theorem d_M_isOwn_95 : decode y_M_isOwn.2.1 95 = .ok (.lcmp, 1) := by decide +kernel
theorem d_M_isOwn_96 : decode y_M_isOwn.2.1 96 = .ok (.ifCond .eq 113, 3) := by decide +kernel
theorem d_M_isOwn_99 : decode y_M_isOwn.2.1 99 = .ok (.aload_n 0, 1) := by decide +kernel
theorem d_M_isOwn_100 : decode y_M_isOwn.2.1 100 = .ok (.getfield 153, 3) := by decide +kernel
theorem d_M_isOwn_103 : decode y_M_isOwn.2.1 103 = .ok (.ldc2_w 194, 3) := by decide +kernel
theorem d_M_isOwn_106 : decode y_M_isOwn.2.1 106 = .ok (.lcmp, 1) := by decide +kernel
theorem d_M_isOwn_107 : decode y_M_isOwn.2.1 107 = .ok (.ifCond .eq 102, 3) := by decide +kernel
theorem d_M_isOwn_110 : decode y_M_isOwn.2.1 110 = .ok (.aload_n 0, 1) := by decide +kernel
theorem d_M_isOwn_111 : decode y_M_isOwn.2.1 111 = .ok (.getfield 153, 3) := by decide +kernel
theorem d_M_isOwn_114 : decode y_M_isOwn.2.1 114 = .ok (.ldc2_w 196, 3) := by decide +kernel
theorem d_M_isOwn_117 : decode y_M_isOwn.2.1 117 = .ok (.lcmp, 1) := by decide +kernel
theorem d_M_isOwn_118 : decode y_M_isOwn.2.1 118 = .ok (.ifCond .eq 91, 3) := by decide +kernel
theorem d_M_isOwn_121 : decode y_M_isOwn.2.1 121 = .ok (.aload_n 0, 1) := by decide +kernel
theorem d_M_isOwn_122 : decode y_M_isOwn.2.1 122 = .ok (.getfield 153, 3) := by decide +kernel
theorem d_M_isOwn_125 : decode y_M_isOwn.2.1 125 = .ok (.ldc2_w 198, 3) := by decide +kernel
theorem d_M_isOwn_128 : decode y_M_isOwn.2.1 128 = .ok (.lcmp, 1) := by decide +kernel
theorem d_M_isOwn_129 : decode y_M_isOwn.2.1 129 = .ok (.ifCond .eq 80, 3) := by decide +kernel
theorem d_M_isOwn_132 : decode y_M_isOwn.2.1 132 = .ok (.aload_n 0, 1) := by decide +kernel
theorem d_M_isOwn_133 : decode y_M_isOwn.2.1 133 = .ok (.getfield 153, 3) := by decide +kernel
theorem d_M_isOwn_136 : decode y_M_isOwn.2.1 136 = .ok (.ldc2_w 200, 3) := by decide +kernel
theorem d_M_isOwn_139 : decode y_M_isOwn.2.1 139 = .ok (.lcmp, 1) := by decide +kernel
theorem d_M_isOwn_140 : decode y_M_isOwn.2.1 140 = .ok (.ifCond .eq 69, 3) := by decide +kernel
theorem d_M_isOwn_143 : decode y_M_isOwn.2.1 143 = .ok (.aload_n 0, 1) := by decide +kernel
theorem d_M_isOwn_144 : decode y_M_isOwn.2.1 144 = .ok (.getfield 153, 3) := by decide +kernel
theorem d_M_isOwn_147 : decode y_M_isOwn.2.1 147 = .ok (.ldc2_w 202, 3) := by decide +kernel
theorem d_M_isOwn_150 : decode y_M_isOwn.2.1 150 = .ok (.lcmp, 1) := by decide +kernel
theorem d_M_isOwn_151 : decode y_M_isOwn.2.1 151 = .ok (.ifCond .eq 58, 3) := by decide +kernel
theorem d_M_isOwn_154 : decode y_M_isOwn.2.1 154 = .ok (.aload_n 0, 1) := by decide +kernel
theorem d_M_isOwn_155 : decode y_M_isOwn.2.1 155 = .ok (.getfield 153, 3) := by decide +kernel
theorem d_M_isOwn_158 : decode y_M_isOwn.2.1 158 = .ok (.ldc2_w 204, 3) := by decide +kernel
theorem d_M_isOwn_161 : decode y_M_isOwn.2.1 161 = .ok (.lcmp, 1) := by decide +kernel
theorem d_M_isOwn_162 : decode y_M_isOwn.2.1 162 = .ok (.ifCond .eq 47, 3) := by decide +kernel
theorem d_M_isOwn_165 : decode y_M_isOwn.2.1 165 = .ok (.aload_n 0, 1) := by decide +kernel
theorem d_M_isOwn_166 : decode y_M_isOwn.2.1 166 = .ok (.getfield 153, 3) := by decide +kernel
theorem d_M_isOwn_169 : decode y_M_isOwn.2.1 169 = .ok (.ldc2_w 206, 3) := by decide +kernel
theorem d_M_isOwn_172 : decode y_M_isOwn.2.1 172 = .ok (.lcmp, 1) := by decide +kernel
theorem d_M_isOwn_173 : decode y_M_isOwn.2.1 173 = .ok (.ifCond .eq 36, 3) := by decide +kernel
theorem d_M_isOwn_176 : decode y_M_isOwn.2.1 176 = .ok (.aload_n 0, 1) := by decide +kernel
theorem d_M_isOwn_177 : decode y_M_isOwn.2.1 177 = .ok (.getfield 153, 3) := by decide +kernel
theorem d_M_isOwn_180 : decode y_M_isOwn.2.1 180 = .ok (.ldc2_w 208, 3) := by decide +kernel
theorem d_M_isOwn_183 : decode y_M_isOwn.2.1 183 = .ok (.lcmp, 1) := by decide +kernel
theorem d_M_isOwn_184 : decode y_M_isOwn.2.1 184 = .ok (.ifCond .eq 25, 3) := by decide +kernel
theorem d_M_isOwn_187 : decode y_M_isOwn.2.1 187 = .ok (.aload_n 0, 1) := by decide +kernel
theorem d_M_isOwn_188 : decode y_M_isOwn.2.1 188 = .ok (.getfield 153, 3) := by decide +kernel
theorem d_M_isOwn_191 : decode y_M_isOwn.2.1 191 = .ok (.ldc2_w 210, 3) := by decide +kernel
theorem d_M_isOwn_194 : decode y_M_isOwn.2.1 194 = .ok (.lcmp, 1) := by decide +kernel
theorem d_M_isOwn_195 : decode y_M_isOwn.2.1 195 = .ok (.ifCond .eq 14, 3) := by decide +kernel
theorem d_M_isOwn_198 : decode y_M_isOwn.2.1 198 = .ok (.aload_n 0, 1) := by decide +kernel
theorem d_M_isOwn_199 : decode y_M_isOwn.2.1 199 = .ok (.getfield 153, 3) := by decide +kernel
theorem d_M_isOwn_202 : decode y_M_isOwn.2.1 202 = .ok (.ldc2_w 212, 3) := by decide +kernel
theorem d_M_isOwn_205 : decode y_M_isOwn.2.1 205 = .ok (.lcmp, 1) := by decide +kernel
theorem d_M_isOwn_206 : decode y_M_isOwn.2.1 206 = .ok (.ifCond .ne 7, 3) := by decide +kernel
theorem d_M_isOwn_209 : decode y_M_isOwn.2.1 209 = .ok (.iconst 1, 1) := by decide +kernel
theorem d_M_isOwn_210 : decode y_M_isOwn.2.1 210 = .ok (.goto 4, 3) := by decide +kernel
theorem d_M_isOwn_213 : decode y_M_isOwn.2.1 213 = .ok (.iconst 0, 1) := by decide +kernel
theorem d_M_isOwn_214 : decode y_M_isOwn.2.1 214 = .ok (.ireturn, 1) := by decide +kernel

abbrev y_M_isName : MI := (⟨"CricketHayModel", "isName", "()Z"⟩, prog_14_method_13_code, 1, (some .boolean))
theorem hy_M_isName : y_M_isName.1.cls ≠ "java/lang/invoke/MethodHandle" ∧ y_M_isName.1.cls ≠ "java/lang/invoke/VarHandle" ∧ (parseMethodDescriptor y_M_isName.1.desc).map (fun d => d.parameters.length) = some 0 := by decide +kernel
theorem d_M_isName_0 : decode y_M_isName.2.1 0 = .ok (.aload_n 0, 1) := by decide +kernel
theorem d_M_isName_1 : decode y_M_isName.2.1 1 = .ok (.getfield 160, 3) := by decide +kernel
theorem d_M_isName_4 : decode y_M_isName.2.1 4 = .ok (.iconst 1, 1) := by decide +kernel
theorem d_M_isName_5 : decode y_M_isName.2.1 5 = .ok (.if_icmp .ne 14, 3) := by decide +kernel
theorem d_M_isName_8 : decode y_M_isName.2.1 8 = .ok (.aload_n 0, 1) := by decide +kernel
theorem d_M_isName_9 : decode y_M_isName.2.1 9 = .ok (.invokevirtual 214, 3) := by decide +kernel
theorem d_M_isName_12 : decode y_M_isName.2.1 12 = .ok (.ifCond .ne 7, 3) := by decide +kernel
theorem d_M_isName_15 : decode y_M_isName.2.1 15 = .ok (.iconst 1, 1) := by decide +kernel
theorem d_M_isName_16 : decode y_M_isName.2.1 16 = .ok (.goto 4, 3) := by decide +kernel
theorem d_M_isName_19 : decode y_M_isName.2.1 19 = .ok (.iconst 0, 1) := by decide +kernel
theorem d_M_isName_20 : decode y_M_isName.2.1 20 = .ok (.ireturn, 1) := by decide +kernel

abbrev y_M_want : MI := (⟨"CricketHayModel", "want", "(J)V"⟩, prog_14_method_14_code, 3, none)
theorem hy_M_want : y_M_want.1.cls ≠ "java/lang/invoke/MethodHandle" ∧ y_M_want.1.cls ≠ "java/lang/invoke/VarHandle" ∧ (parseMethodDescriptor y_M_want.1.desc).map (fun d => d.parameters.length) = some 1 := by decide +kernel
theorem d_M_want_0 : decode y_M_want.2.1 0 = .ok (.aload_n 0, 1) := by decide +kernel
theorem d_M_want_1 : decode y_M_want.2.1 1 = .ok (.getfield 173, 3) := by decide +kernel
theorem d_M_want_4 : decode y_M_want.2.1 4 = .ok (.ifCond .le 4, 3) := by decide +kernel
theorem d_M_want_7 : decode y_M_want.2.1 7 = .ok (.return_, 1) := by decide +kernel
theorem d_M_want_8 : decode y_M_want.2.1 8 = .ok (.aload_n 0, 1) := by decide +kernel
theorem d_M_want_9 : decode y_M_want.2.1 9 = .ok (.lload_n 1, 1) := by decide +kernel
theorem d_M_want_10 : decode y_M_want.2.1 10 = .ok (.invokevirtual 218, 3) := by decide +kernel
theorem d_M_want_13 : decode y_M_want.2.1 13 = .ok (.ifCond .ne 11, 3) := by decide +kernel
theorem d_M_want_16 : decode y_M_want.2.1 16 = .ok (.aload_n 0, 1) := by decide +kernel
theorem d_M_want_17 : decode y_M_want.2.1 17 = .ok (.iconst 2, 1) := by decide +kernel
theorem d_M_want_18 : decode y_M_want.2.1 18 = .ok (.invokevirtual 222, 3) := by decide +kernel
theorem d_M_want_21 : decode y_M_want.2.1 21 = .ok (.goto 7, 3) := by decide +kernel
theorem d_M_want_24 : decode y_M_want.2.1 24 = .ok (.aload_n 0, 1) := by decide +kernel
theorem d_M_want_25 : decode y_M_want.2.1 25 = .ok (.invokevirtual 225, 3) := by decide +kernel
theorem d_M_want_28 : decode y_M_want.2.1 28 = .ok (.return_, 1) := by decide +kernel

abbrev y_M_toldNumber : MI := (⟨"CricketHayModel", "toldNumber", "(II)I"⟩, prog_14_method_15_code, 4, (some .int))
theorem hy_M_toldNumber : y_M_toldNumber.1.cls ≠ "java/lang/invoke/MethodHandle" ∧ y_M_toldNumber.1.cls ≠ "java/lang/invoke/VarHandle" ∧ (parseMethodDescriptor y_M_toldNumber.1.desc).map (fun d => d.parameters.length) = some 2 := by decide +kernel
theorem d_M_toldNumber_0 : decode y_M_toldNumber.2.1 0 = .ok (.aload_n 0, 1) := by decide +kernel
theorem d_M_toldNumber_1 : decode y_M_toldNumber.2.1 1 = .ok (.getfield 173, 3) := by decide +kernel
theorem d_M_toldNumber_4 : decode y_M_toldNumber.2.1 4 = .ok (.ifCond .le 5, 3) := by decide +kernel
theorem d_M_toldNumber_7 : decode y_M_toldNumber.2.1 7 = .ok (.iconst 0, 1) := by decide +kernel
theorem d_M_toldNumber_8 : decode y_M_toldNumber.2.1 8 = .ok (.ireturn, 1) := by decide +kernel
theorem d_M_toldNumber_9 : decode y_M_toldNumber.2.1 9 = .ok (.aload_n 0, 1) := by decide +kernel
theorem d_M_toldNumber_10 : decode y_M_toldNumber.2.1 10 = .ok (.getfield 160, 3) := by decide +kernel
theorem d_M_toldNumber_13 : decode y_M_toldNumber.2.1 13 = .ok (.iconst 2, 1) := by decide +kernel
theorem d_M_toldNumber_14 : decode y_M_toldNumber.2.1 14 = .ok (.if_icmp .eq 11, 3) := by decide +kernel
theorem d_M_toldNumber_17 : decode y_M_toldNumber.2.1 17 = .ok (.aload_n 0, 1) := by decide +kernel
theorem d_M_toldNumber_18 : decode y_M_toldNumber.2.1 18 = .ok (.iconst 2, 1) := by decide +kernel
theorem d_M_toldNumber_19 : decode y_M_toldNumber.2.1 19 = .ok (.invokevirtual 222, 3) := by decide +kernel
theorem d_M_toldNumber_22 : decode y_M_toldNumber.2.1 22 = .ok (.goto 24, 3) := by decide +kernel
theorem d_M_toldNumber_25 : decode y_M_toldNumber.2.1 25 = .ok (.aload_n 0, 1) := by decide +kernel
theorem d_M_toldNumber_26 : decode y_M_toldNumber.2.1 26 = .ok (.getfield 157, 3) := by decide +kernel
theorem d_M_toldNumber_29 : decode y_M_toldNumber.2.1 29 = .ok (.iload_n 1, 1) := by decide +kernel
theorem d_M_toldNumber_30 : decode y_M_toldNumber.2.1 30 = .ok (.if_icmp .lt 11, 3) := by decide +kernel
theorem d_M_toldNumber_33 : decode y_M_toldNumber.2.1 33 = .ok (.aload_n 0, 1) := by decide +kernel
theorem d_M_toldNumber_34 : decode y_M_toldNumber.2.1 34 = .ok (.getfield 157, 3) := by decide +kernel
theorem d_M_toldNumber_37 : decode y_M_toldNumber.2.1 37 = .ok (.iload_n 2, 1) := by decide +kernel
theorem d_M_toldNumber_38 : decode y_M_toldNumber.2.1 38 = .ok (.if_icmp .le 8, 3) := by decide +kernel
theorem d_M_toldNumber_41 : decode y_M_toldNumber.2.1 41 = .ok (.aload_n 0, 1) := by decide +kernel
theorem d_M_toldNumber_42 : decode y_M_toldNumber.2.1 42 = .ok (.iconst 4, 1) := by decide +kernel
theorem d_M_toldNumber_43 : decode y_M_toldNumber.2.1 43 = .ok (.invokevirtual 222, 3) := by decide +kernel
theorem d_M_toldNumber_46 : decode y_M_toldNumber.2.1 46 = .ok (.aload_n 0, 1) := by decide +kernel
theorem d_M_toldNumber_47 : decode y_M_toldNumber.2.1 47 = .ok (.getfield 157, 3) := by decide +kernel
theorem d_M_toldNumber_50 : decode y_M_toldNumber.2.1 50 = .ok (.istore_n 3, 1) := by decide +kernel
theorem d_M_toldNumber_51 : decode y_M_toldNumber.2.1 51 = .ok (.aload_n 0, 1) := by decide +kernel
theorem d_M_toldNumber_52 : decode y_M_toldNumber.2.1 52 = .ok (.getfield 173, 3) := by decide +kernel
theorem d_M_toldNumber_55 : decode y_M_toldNumber.2.1 55 = .ok (.ifCond .ne 7, 3) := by decide +kernel
theorem d_M_toldNumber_58 : decode y_M_toldNumber.2.1 58 = .ok (.aload_n 0, 1) := by decide +kernel
theorem d_M_toldNumber_59 : decode y_M_toldNumber.2.1 59 = .ok (.invokevirtual 225, 3) := by decide +kernel
theorem d_M_toldNumber_62 : decode y_M_toldNumber.2.1 62 = .ok (.iload_n 3, 1) := by decide +kernel
theorem d_M_toldNumber_63 : decode y_M_toldNumber.2.1 63 = .ok (.ireturn, 1) := by decide +kernel

abbrev y_M_told : MI := (⟨"CricketHayModel", "told", "(JII)I"⟩, prog_14_method_16_code, 5, (some .int))
theorem hy_M_told : y_M_told.1.cls ≠ "java/lang/invoke/MethodHandle" ∧ y_M_told.1.cls ≠ "java/lang/invoke/VarHandle" ∧ (parseMethodDescriptor y_M_told.1.desc).map (fun d => d.parameters.length) = some 3 := by decide +kernel
theorem d_M_told_0 : decode y_M_told.2.1 0 = .ok (.aload_n 0, 1) := by decide +kernel
theorem d_M_told_1 : decode y_M_told.2.1 1 = .ok (.lload_n 1, 1) := by decide +kernel
theorem d_M_told_2 : decode y_M_told.2.1 2 = .ok (.invokevirtual 228, 3) := by decide +kernel
theorem d_M_told_5 : decode y_M_told.2.1 5 = .ok (.aload_n 0, 1) := by decide +kernel
theorem d_M_told_6 : decode y_M_told.2.1 6 = .ok (.iload_n 3, 1) := by decide +kernel
theorem d_M_told_7 : decode y_M_told.2.1 7 = .ok (.iload 4, 2) := by decide +kernel
theorem d_M_told_9 : decode y_M_told.2.1 9 = .ok (.invokevirtual 232, 3) := by decide +kernel
theorem d_M_told_12 : decode y_M_told.2.1 12 = .ok (.ireturn, 1) := by decide +kernel

abbrev y_M_option : MI := (⟨"CricketHayModel", "option", "(JI)I"⟩, prog_14_method_17_code, 4, (some .int))
theorem hy_M_option : y_M_option.1.cls ≠ "java/lang/invoke/MethodHandle" ∧ y_M_option.1.cls ≠ "java/lang/invoke/VarHandle" ∧ (parseMethodDescriptor y_M_option.1.desc).map (fun d => d.parameters.length) = some 2 := by decide +kernel
theorem d_M_option_0 : decode y_M_option.2.1 0 = .ok (.aload_n 0, 1) := by decide +kernel
theorem d_M_option_1 : decode y_M_option.2.1 1 = .ok (.getfield 173, 3) := by decide +kernel
theorem d_M_option_4 : decode y_M_option.2.1 4 = .ok (.ifCond .ne 21, 3) := by decide +kernel
theorem d_M_option_7 : decode y_M_option.2.1 7 = .ok (.aload_n 0, 1) := by decide +kernel
theorem d_M_option_8 : decode y_M_option.2.1 8 = .ok (.lload_n 1, 1) := by decide +kernel
theorem d_M_option_9 : decode y_M_option.2.1 9 = .ok (.invokevirtual 218, 3) := by decide +kernel
theorem d_M_option_12 : decode y_M_option.2.1 12 = .ok (.ifCond .eq 13, 3) := by decide +kernel
theorem d_M_option_15 : decode y_M_option.2.1 15 = .ok (.aload_n 0, 1) := by decide +kernel
theorem d_M_option_16 : decode y_M_option.2.1 16 = .ok (.lload_n 1, 1) := by decide +kernel
theorem d_M_option_17 : decode y_M_option.2.1 17 = .ok (.iconst 0, 1) := by decide +kernel
theorem d_M_option_18 : decode y_M_option.2.1 18 = .ok (.iload_n 3, 1) := by decide +kernel
theorem d_M_option_19 : decode y_M_option.2.1 19 = .ok (.invokevirtual 236, 3) := by decide +kernel
theorem d_M_option_22 : decode y_M_option.2.1 22 = .ok (.goto 4, 3) := by decide +kernel
theorem d_M_option_25 : decode y_M_option.2.1 25 = .ok (.iconst 0, 1) := by decide +kernel
theorem d_M_option_26 : decode y_M_option.2.1 26 = .ok (.ireturn, 1) := by decide +kernel

abbrev y_M_find : MI := (⟨"CricketHayModel", "find", "(II)I"⟩, prog_14_method_18_code, 5, (some .int))
theorem hy_M_find : y_M_find.1.cls ≠ "java/lang/invoke/MethodHandle" ∧ y_M_find.1.cls ≠ "java/lang/invoke/VarHandle" ∧ (parseMethodDescriptor y_M_find.1.desc).map (fun d => d.parameters.length) = some 2 := by decide +kernel
theorem d_M_find_0 : decode y_M_find.2.1 0 = .ok (.iconst (-1), 1) := by decide +kernel
theorem d_M_find_1 : decode y_M_find.2.1 1 = .ok (.istore_n 3, 1) := by decide +kernel
theorem d_M_find_2 : decode y_M_find.2.1 2 = .ok (.iconst 0, 1) := by decide +kernel
theorem d_M_find_3 : decode y_M_find.2.1 3 = .ok (.istore 4, 2) := by decide +kernel
theorem d_M_find_5 : decode y_M_find.2.1 5 = .ok (.iload 4, 2) := by decide +kernel
theorem d_M_find_7 : decode y_M_find.2.1 7 = .ok (.iload_n 2, 1) := by decide +kernel
theorem d_M_find_8 : decode y_M_find.2.1 8 = .ok (.if_icmp .ge 33, 3) := by decide +kernel
theorem d_M_find_11 : decode y_M_find.2.1 11 = .ok (.aload_n 0, 1) := by decide +kernel
theorem d_M_find_12 : decode y_M_find.2.1 12 = .ok (.getfield 17, 3) := by decide +kernel
theorem d_M_find_15 : decode y_M_find.2.1 15 = .ok (.iload_n 1, 1) := by decide +kernel
theorem d_M_find_16 : decode y_M_find.2.1 16 = .ok (.iload 4, 2) := by decide +kernel
theorem d_M_find_18 : decode y_M_find.2.1 18 = .ok (.iadd, 1) := by decide +kernel
theorem d_M_find_19 : decode y_M_find.2.1 19 = .ok (.laload, 1) := by decide +kernel
theorem d_M_find_20 : decode y_M_find.2.1 20 = .ok (.aload_n 0, 1) := by decide +kernel
theorem d_M_find_21 : decode y_M_find.2.1 21 = .ok (.getfield 153, 3) := by decide +kernel
theorem d_M_find_24 : decode y_M_find.2.1 24 = .ok (.lcmp, 1) := by decide +kernel
theorem d_M_find_25 : decode y_M_find.2.1 25 = .ok (.ifCond .ne 8, 3) := by decide +kernel
theorem d_M_find_28 : decode y_M_find.2.1 28 = .ok (.iload 4, 2) := by decide +kernel
theorem d_M_find_30 : decode y_M_find.2.1 30 = .ok (.goto 4, 3) := by decide +kernel
theorem d_M_find_33 : decode y_M_find.2.1 33 = .ok (.iload_n 3, 1) := by decide +kernel
theorem d_M_find_34 : decode y_M_find.2.1 34 = .ok (.istore_n 3, 1) := by decide +kernel
theorem d_M_find_35 : decode y_M_find.2.1 35 = .ok (.iinc 4 1, 3) := by decide +kernel
theorem d_M_find_38 : decode y_M_find.2.1 38 = .ok (.goto (-33), 3) := by decide +kernel
theorem d_M_find_41 : decode y_M_find.2.1 41 = .ok (.iload_n 3, 1) := by decide +kernel
theorem d_M_find_42 : decode y_M_find.2.1 42 = .ok (.ireturn, 1) := by decide +kernel

abbrev y_M_newName : MI := (⟨"CricketHayModel", "newName", "(II)V"⟩, prog_14_method_19_code, 3, none)
theorem hy_M_newName : y_M_newName.1.cls ≠ "java/lang/invoke/MethodHandle" ∧ y_M_newName.1.cls ≠ "java/lang/invoke/VarHandle" ∧ (parseMethodDescriptor y_M_newName.1.desc).map (fun d => d.parameters.length) = some 2 := by decide +kernel
theorem d_M_newName_0 : decode y_M_newName.2.1 0 = .ok (.aload_n 0, 1) := by decide +kernel
theorem d_M_newName_1 : decode y_M_newName.2.1 1 = .ok (.invokevirtual 225, 3) := by decide +kernel
theorem d_M_newName_4 : decode y_M_newName.2.1 4 = .ok (.aload_n 0, 1) := by decide +kernel
theorem d_M_newName_5 : decode y_M_newName.2.1 5 = .ok (.invokevirtual 240, 3) := by decide +kernel
theorem d_M_newName_8 : decode y_M_newName.2.1 8 = .ok (.ifCond .ne 11, 3) := by decide +kernel
theorem d_M_newName_11 : decode y_M_newName.2.1 11 = .ok (.aload_n 0, 1) := by decide +kernel
theorem d_M_newName_12 : decode y_M_newName.2.1 12 = .ok (.iconst 2, 1) := by decide +kernel
theorem d_M_newName_13 : decode y_M_newName.2.1 13 = .ok (.invokevirtual 222, 3) := by decide +kernel
theorem d_M_newName_16 : decode y_M_newName.2.1 16 = .ok (.goto 17, 3) := by decide +kernel
theorem d_M_newName_19 : decode y_M_newName.2.1 19 = .ok (.aload_n 0, 1) := by decide +kernel
theorem d_M_newName_20 : decode y_M_newName.2.1 20 = .ok (.iload_n 1, 1) := by decide +kernel
theorem d_M_newName_21 : decode y_M_newName.2.1 21 = .ok (.iload_n 2, 1) := by decide +kernel
theorem d_M_newName_22 : decode y_M_newName.2.1 22 = .ok (.invokevirtual 243, 3) := by decide +kernel
theorem d_M_newName_25 : decode y_M_newName.2.1 25 = .ok (.ifCond .lt 8, 3) := by decide +kernel
theorem d_M_newName_28 : decode y_M_newName.2.1 28 = .ok (.aload_n 0, 1) := by decide +kernel
theorem d_M_newName_29 : decode y_M_newName.2.1 29 = .ok (.iconst 3, 1) := by decide +kernel
theorem d_M_newName_30 : decode y_M_newName.2.1 30 = .ok (.invokevirtual 222, 3) := by decide +kernel
theorem d_M_newName_33 : decode y_M_newName.2.1 33 = .ok (.aload_n 0, 1) := by decide +kernel
theorem d_M_newName_34 : decode y_M_newName.2.1 34 = .ok (.getfield 173, 3) := by decide +kernel
theorem d_M_newName_37 : decode y_M_newName.2.1 37 = .ok (.ifCond .le 4, 3) := by decide +kernel
theorem d_M_newName_40 : decode y_M_newName.2.1 40 = .ok (.return_, 1) := by decide +kernel
theorem d_M_newName_41 : decode y_M_newName.2.1 41 = .ok (.aload_n 0, 1) := by decide +kernel
theorem d_M_newName_42 : decode y_M_newName.2.1 42 = .ok (.getfield 17, 3) := by decide +kernel
theorem d_M_newName_45 : decode y_M_newName.2.1 45 = .ok (.iload_n 1, 1) := by decide +kernel
theorem d_M_newName_46 : decode y_M_newName.2.1 46 = .ok (.iload_n 2, 1) := by decide +kernel
theorem d_M_newName_47 : decode y_M_newName.2.1 47 = .ok (.iadd, 1) := by decide +kernel
theorem d_M_newName_48 : decode y_M_newName.2.1 48 = .ok (.aload_n 0, 1) := by decide +kernel
theorem d_M_newName_49 : decode y_M_newName.2.1 49 = .ok (.getfield 153, 3) := by decide +kernel
theorem d_M_newName_52 : decode y_M_newName.2.1 52 = .ok (.lastore, 1) := by decide +kernel
theorem d_M_newName_53 : decode y_M_newName.2.1 53 = .ok (.aload_n 0, 1) := by decide +kernel
theorem d_M_newName_54 : decode y_M_newName.2.1 54 = .ok (.invokevirtual 225, 3) := by decide +kernel
theorem d_M_newName_57 : decode y_M_newName.2.1 57 = .ok (.return_, 1) := by decide +kernel

abbrev y_M_add : MI := (⟨"CricketHayModel", "add", "(II)V"⟩, prog_14_method_20_code, 3, none)
theorem hy_M_add : y_M_add.1.cls ≠ "java/lang/invoke/MethodHandle" ∧ y_M_add.1.cls ≠ "java/lang/invoke/VarHandle" ∧ (parseMethodDescriptor y_M_add.1.desc).map (fun d => d.parameters.length) = some 2 := by decide +kernel
theorem d_M_add_0 : decode y_M_add.2.1 0 = .ok (.aload_n 0, 1) := by decide +kernel
theorem d_M_add_1 : decode y_M_add.2.1 1 = .ok (.getfield 21, 3) := by decide +kernel
theorem d_M_add_4 : decode y_M_add.2.1 4 = .ok (.sipush 320, 3) := by decide +kernel
theorem d_M_add_7 : decode y_M_add.2.1 7 = .ok (.aload_n 0, 1) := by decide +kernel
theorem d_M_add_8 : decode y_M_add.2.1 8 = .ok (.getfield 246, 3) := by decide +kernel
theorem d_M_add_11 : decode y_M_add.2.1 11 = .ok (.imul, 1) := by decide +kernel
theorem d_M_add_12 : decode y_M_add.2.1 12 = .ok (.aload_n 0, 1) := by decide +kernel
theorem d_M_add_13 : decode y_M_add.2.1 13 = .ok (.getfield 27, 3) := by decide +kernel
theorem d_M_add_16 : decode y_M_add.2.1 16 = .ok (.aload_n 0, 1) := by decide +kernel
theorem d_M_add_17 : decode y_M_add.2.1 17 = .ok (.getfield 246, 3) := by decide +kernel
theorem d_M_add_20 : decode y_M_add.2.1 20 = .ok (.iaload, 1) := by decide +kernel
theorem d_M_add_21 : decode y_M_add.2.1 21 = .ok (.iadd, 1) := by decide +kernel
theorem d_M_add_22 : decode y_M_add.2.1 22 = .ok (.iload_n 1, 1) := by decide +kernel
theorem d_M_add_23 : decode y_M_add.2.1 23 = .ok (.iastore, 1) := by decide +kernel
theorem d_M_add_24 : decode y_M_add.2.1 24 = .ok (.aload_n 0, 1) := by decide +kernel
theorem d_M_add_25 : decode y_M_add.2.1 25 = .ok (.getfield 24, 3) := by decide +kernel
theorem d_M_add_28 : decode y_M_add.2.1 28 = .ok (.sipush 320, 3) := by decide +kernel
theorem d_M_add_31 : decode y_M_add.2.1 31 = .ok (.aload_n 0, 1) := by decide +kernel
theorem d_M_add_32 : decode y_M_add.2.1 32 = .ok (.getfield 246, 3) := by decide +kernel
theorem d_M_add_35 : decode y_M_add.2.1 35 = .ok (.imul, 1) := by decide +kernel
theorem d_M_add_36 : decode y_M_add.2.1 36 = .ok (.aload_n 0, 1) := by decide +kernel
theorem d_M_add_37 : decode y_M_add.2.1 37 = .ok (.getfield 27, 3) := by decide +kernel
theorem d_M_add_40 : decode y_M_add.2.1 40 = .ok (.aload_n 0, 1) := by decide +kernel
theorem d_M_add_41 : decode y_M_add.2.1 41 = .ok (.getfield 246, 3) := by decide +kernel
theorem d_M_add_44 : decode y_M_add.2.1 44 = .ok (.iaload, 1) := by decide +kernel
theorem d_M_add_45 : decode y_M_add.2.1 45 = .ok (.iadd, 1) := by decide +kernel
theorem d_M_add_46 : decode y_M_add.2.1 46 = .ok (.iload_n 2, 1) := by decide +kernel
theorem d_M_add_47 : decode y_M_add.2.1 47 = .ok (.iastore, 1) := by decide +kernel
theorem d_M_add_48 : decode y_M_add.2.1 48 = .ok (.aload_n 0, 1) := by decide +kernel
theorem d_M_add_49 : decode y_M_add.2.1 49 = .ok (.getfield 27, 3) := by decide +kernel
theorem d_M_add_52 : decode y_M_add.2.1 52 = .ok (.aload_n 0, 1) := by decide +kernel
theorem d_M_add_53 : decode y_M_add.2.1 53 = .ok (.getfield 246, 3) := by decide +kernel
theorem d_M_add_56 : decode y_M_add.2.1 56 = .ok (.dup2, 1) := by decide +kernel
theorem d_M_add_57 : decode y_M_add.2.1 57 = .ok (.iaload, 1) := by decide +kernel
theorem d_M_add_58 : decode y_M_add.2.1 58 = .ok (.iconst 1, 1) := by decide +kernel
theorem d_M_add_59 : decode y_M_add.2.1 59 = .ok (.iadd, 1) := by decide +kernel
theorem d_M_add_60 : decode y_M_add.2.1 60 = .ok (.iastore, 1) := by decide +kernel
theorem d_M_add_61 : decode y_M_add.2.1 61 = .ok (.return_, 1) := by decide +kernel

abbrev y_M_tight : MI := (⟨"CricketHayModel", "tight", "(I)I"⟩, prog_14_method_21_code, 1, (some .int))
theorem hy_M_tight : y_M_tight.1.cls ≠ "java/lang/invoke/MethodHandle" ∧ y_M_tight.1.cls ≠ "java/lang/invoke/VarHandle" ∧ (parseMethodDescriptor y_M_tight.1.desc).map (fun d => d.parameters.length) = some 1 := by decide +kernel
theorem d_M_tight_0 : decode y_M_tight.2.1 0 = .ok (.iload_n 0, 1) := by decide +kernel
theorem d_M_tight_1 : decode y_M_tight.2.1 1 = .ok (.lookupswitch 85 #[(21, 79), (38, 77), (43, 83), (45, 83), (60, 81), (61, 81), (62, 81), (124, 75)], 75) := by decide +kernel
theorem d_M_tight_76 : decode y_M_tight.2.1 76 = .ok (.iconst 1, 1) := by decide +kernel
theorem d_M_tight_77 : decode y_M_tight.2.1 77 = .ok (.ireturn, 1) := by decide +kernel
theorem d_M_tight_78 : decode y_M_tight.2.1 78 = .ok (.iconst 2, 1) := by decide +kernel
theorem d_M_tight_79 : decode y_M_tight.2.1 79 = .ok (.ireturn, 1) := by decide +kernel
theorem d_M_tight_80 : decode y_M_tight.2.1 80 = .ok (.iconst 3, 1) := by decide +kernel
theorem d_M_tight_81 : decode y_M_tight.2.1 81 = .ok (.ireturn, 1) := by decide +kernel
theorem d_M_tight_82 : decode y_M_tight.2.1 82 = .ok (.iconst 4, 1) := by decide +kernel
theorem d_M_tight_83 : decode y_M_tight.2.1 83 = .ok (.ireturn, 1) := by decide +kernel
theorem d_M_tight_84 : decode y_M_tight.2.1 84 = .ok (.iconst 5, 1) := by decide +kernel
theorem d_M_tight_85 : decode y_M_tight.2.1 85 = .ok (.ireturn, 1) := by decide +kernel
theorem d_M_tight_86 : decode y_M_tight.2.1 86 = .ok (.bipush 6, 2) := by decide +kernel
theorem d_M_tight_88 : decode y_M_tight.2.1 88 = .ok (.ireturn, 1) := by decide +kernel

abbrev y_M_close : MI := (⟨"CricketHayModel", "close", "(I)V"⟩, prog_14_method_22_code, 2, none)
theorem hy_M_close : y_M_close.1.cls ≠ "java/lang/invoke/MethodHandle" ∧ y_M_close.1.cls ≠ "java/lang/invoke/VarHandle" ∧ (parseMethodDescriptor y_M_close.1.desc).map (fun d => d.parameters.length) = some 1 := by decide +kernel
theorem d_M_close_0 : decode y_M_close.2.1 0 = .ok (.aload_n 0, 1) := by decide +kernel
theorem d_M_close_1 : decode y_M_close.2.1 1 = .ok (.getfield 249, 3) := by decide +kernel
theorem d_M_close_4 : decode y_M_close.2.1 4 = .ok (.ifCond .le 97, 3) := by decide +kernel
theorem d_M_close_7 : decode y_M_close.2.1 7 = .ok (.aload_n 0, 1) := by decide +kernel
theorem d_M_close_8 : decode y_M_close.2.1 8 = .ok (.getfield 39, 3) := by decide +kernel
theorem d_M_close_11 : decode y_M_close.2.1 11 = .ok (.aload_n 0, 1) := by decide +kernel
theorem d_M_close_12 : decode y_M_close.2.1 12 = .ok (.getfield 249, 3) := by decide +kernel
theorem d_M_close_15 : decode y_M_close.2.1 15 = .ok (.iconst 1, 1) := by decide +kernel
theorem d_M_close_16 : decode y_M_close.2.1 16 = .ok (.isub, 1) := by decide +kernel
theorem d_M_close_17 : decode y_M_close.2.1 17 = .ok (.iaload, 1) := by decide +kernel
theorem d_M_close_18 : decode y_M_close.2.1 18 = .ok (.bipush 20, 2) := by decide +kernel
theorem d_M_close_20 : decode y_M_close.2.1 20 = .ok (.if_icmp .eq 81, 3) := by decide +kernel
theorem d_M_close_23 : decode y_M_close.2.1 23 = .ok (.aload_n 0, 1) := by decide +kernel
theorem d_M_close_24 : decode y_M_close.2.1 24 = .ok (.getfield 39, 3) := by decide +kernel
theorem d_M_close_27 : decode y_M_close.2.1 27 = .ok (.aload_n 0, 1) := by decide +kernel
theorem d_M_close_28 : decode y_M_close.2.1 28 = .ok (.getfield 249, 3) := by decide +kernel
theorem d_M_close_31 : decode y_M_close.2.1 31 = .ok (.iconst 1, 1) := by decide +kernel
theorem d_M_close_32 : decode y_M_close.2.1 32 = .ok (.isub, 1) := by decide +kernel
theorem d_M_close_33 : decode y_M_close.2.1 33 = .ok (.iaload, 1) := by decide +kernel
theorem d_M_close_34 : decode y_M_close.2.1 34 = .ok (.invokestatic 252, 3) := by decide +kernel
theorem d_M_close_37 : decode y_M_close.2.1 37 = .ok (.iload_n 1, 1) := by decide +kernel
theorem d_M_close_38 : decode y_M_close.2.1 38 = .ok (.if_icmp .lt 63, 3) := by decide +kernel
theorem d_M_close_41 : decode y_M_close.2.1 41 = .ok (.aload_n 0, 1) := by decide +kernel
theorem d_M_close_42 : decode y_M_close.2.1 42 = .ok (.dup, 1) := by decide +kernel
theorem d_M_close_43 : decode y_M_close.2.1 43 = .ok (.getfield 249, 3) := by decide +kernel
theorem d_M_close_46 : decode y_M_close.2.1 46 = .ok (.iconst 1, 1) := by decide +kernel
theorem d_M_close_47 : decode y_M_close.2.1 47 = .ok (.isub, 1) := by decide +kernel
theorem d_M_close_48 : decode y_M_close.2.1 48 = .ok (.putfield 249, 3) := by decide +kernel
theorem d_M_close_51 : decode y_M_close.2.1 51 = .ok (.aload_n 0, 1) := by decide +kernel
theorem d_M_close_52 : decode y_M_close.2.1 52 = .ok (.getfield 39, 3) := by decide +kernel
theorem d_M_close_55 : decode y_M_close.2.1 55 = .ok (.aload_n 0, 1) := by decide +kernel
theorem d_M_close_56 : decode y_M_close.2.1 56 = .ok (.getfield 249, 3) := by decide +kernel
theorem d_M_close_59 : decode y_M_close.2.1 59 = .ok (.iaload, 1) := by decide +kernel
theorem d_M_close_60 : decode y_M_close.2.1 60 = .ok (.bipush 21, 2) := by decide +kernel
theorem d_M_close_62 : decode y_M_close.2.1 62 = .ok (.if_icmp .ne 22, 3) := by decide +kernel
theorem d_M_close_65 : decode y_M_close.2.1 65 = .ok (.aload_n 0, 1) := by decide +kernel
theorem d_M_close_66 : decode y_M_close.2.1 66 = .ok (.iconst 2, 1) := by decide +kernel
theorem d_M_close_67 : decode y_M_close.2.1 67 = .ok (.iconst 0, 1) := by decide +kernel
theorem d_M_close_68 : decode y_M_close.2.1 68 = .ok (.invokevirtual 255, 3) := by decide +kernel
theorem d_M_close_71 : decode y_M_close.2.1 71 = .ok (.aload_n 0, 1) := by decide +kernel
theorem d_M_close_72 : decode y_M_close.2.1 72 = .ok (.dup, 1) := by decide +kernel
theorem d_M_close_73 : decode y_M_close.2.1 73 = .ok (.getfield 259, 3) := by decide +kernel
theorem d_M_close_76 : decode y_M_close.2.1 76 = .ok (.iconst 1, 1) := by decide +kernel
theorem d_M_close_77 : decode y_M_close.2.1 77 = .ok (.isub, 1) := by decide +kernel
theorem d_M_close_78 : decode y_M_close.2.1 78 = .ok (.putfield 259, 3) := by decide +kernel
theorem d_M_close_81 : decode y_M_close.2.1 81 = .ok (.goto (-81), 3) := by decide +kernel
theorem d_M_close_84 : decode y_M_close.2.1 84 = .ok (.aload_n 0, 1) := by decide +kernel
theorem d_M_close_85 : decode y_M_close.2.1 85 = .ok (.iconst 3, 1) := by decide +kernel
theorem d_M_close_86 : decode y_M_close.2.1 86 = .ok (.aload_n 0, 1) := by decide +kernel
theorem d_M_close_87 : decode y_M_close.2.1 87 = .ok (.getfield 39, 3) := by decide +kernel
theorem d_M_close_90 : decode y_M_close.2.1 90 = .ok (.aload_n 0, 1) := by decide +kernel
theorem d_M_close_91 : decode y_M_close.2.1 91 = .ok (.getfield 249, 3) := by decide +kernel
theorem d_M_close_94 : decode y_M_close.2.1 94 = .ok (.iaload, 1) := by decide +kernel
theorem d_M_close_95 : decode y_M_close.2.1 95 = .ok (.invokevirtual 255, 3) := by decide +kernel
theorem d_M_close_98 : decode y_M_close.2.1 98 = .ok (.goto (-98), 3) := by decide +kernel
theorem d_M_close_101 : decode y_M_close.2.1 101 = .ok (.return_, 1) := by decide +kernel

abbrev y_M_hasRelation : MI := (⟨"CricketHayModel", "hasRelation", "()Z"⟩, prog_14_method_23_code, 2, (some .boolean))
theorem hy_M_hasRelation : y_M_hasRelation.1.cls ≠ "java/lang/invoke/MethodHandle" ∧ y_M_hasRelation.1.cls ≠ "java/lang/invoke/VarHandle" ∧ (parseMethodDescriptor y_M_hasRelation.1.desc).map (fun d => d.parameters.length) = some 0 := by decide +kernel
theorem d_M_hasRelation_0 : decode y_M_hasRelation.2.1 0 = .ok (.aload_n 0, 1) := by decide +kernel
theorem d_M_hasRelation_1 : decode y_M_hasRelation.2.1 1 = .ok (.getfield 249, 3) := by decide +kernel
theorem d_M_hasRelation_4 : decode y_M_hasRelation.2.1 4 = .ok (.iconst 1, 1) := by decide +kernel
theorem d_M_hasRelation_5 : decode y_M_hasRelation.2.1 5 = .ok (.isub, 1) := by decide +kernel
theorem d_M_hasRelation_6 : decode y_M_hasRelation.2.1 6 = .ok (.istore_n 1, 1) := by decide +kernel
theorem d_M_hasRelation_7 : decode y_M_hasRelation.2.1 7 = .ok (.iload_n 1, 1) := by decide +kernel
theorem d_M_hasRelation_8 : decode y_M_hasRelation.2.1 8 = .ok (.ifCond .lt 33, 3) := by decide +kernel
theorem d_M_hasRelation_11 : decode y_M_hasRelation.2.1 11 = .ok (.aload_n 0, 1) := by decide +kernel
theorem d_M_hasRelation_12 : decode y_M_hasRelation.2.1 12 = .ok (.getfield 39, 3) := by decide +kernel
theorem d_M_hasRelation_15 : decode y_M_hasRelation.2.1 15 = .ok (.iload_n 1, 1) := by decide +kernel
theorem d_M_hasRelation_16 : decode y_M_hasRelation.2.1 16 = .ok (.iaload, 1) := by decide +kernel
theorem d_M_hasRelation_17 : decode y_M_hasRelation.2.1 17 = .ok (.bipush 20, 2) := by decide +kernel
theorem d_M_hasRelation_19 : decode y_M_hasRelation.2.1 19 = .ok (.if_icmp .eq 22, 3) := by decide +kernel
theorem d_M_hasRelation_22 : decode y_M_hasRelation.2.1 22 = .ok (.aload_n 0, 1) := by decide +kernel
theorem d_M_hasRelation_23 : decode y_M_hasRelation.2.1 23 = .ok (.getfield 39, 3) := by decide +kernel
theorem d_M_hasRelation_26 : decode y_M_hasRelation.2.1 26 = .ok (.iload_n 1, 1) := by decide +kernel
theorem d_M_hasRelation_27 : decode y_M_hasRelation.2.1 27 = .ok (.iaload, 1) := by decide +kernel
theorem d_M_hasRelation_28 : decode y_M_hasRelation.2.1 28 = .ok (.invokestatic 252, 3) := by decide +kernel
theorem d_M_hasRelation_31 : decode y_M_hasRelation.2.1 31 = .ok (.iconst 4, 1) := by decide +kernel
theorem d_M_hasRelation_32 : decode y_M_hasRelation.2.1 32 = .ok (.if_icmp .le 9, 3) := by decide +kernel
theorem d_M_hasRelation_35 : decode y_M_hasRelation.2.1 35 = .ok (.iinc 1 (-1), 3) := by decide +kernel
theorem d_M_hasRelation_38 : decode y_M_hasRelation.2.1 38 = .ok (.goto (-31), 3) := by decide +kernel
theorem d_M_hasRelation_41 : decode y_M_hasRelation.2.1 41 = .ok (.iload_n 1, 1) := by decide +kernel
theorem d_M_hasRelation_42 : decode y_M_hasRelation.2.1 42 = .ok (.ifCond .lt 31, 3) := by decide +kernel
theorem d_M_hasRelation_45 : decode y_M_hasRelation.2.1 45 = .ok (.aload_n 0, 1) := by decide +kernel
theorem d_M_hasRelation_46 : decode y_M_hasRelation.2.1 46 = .ok (.getfield 39, 3) := by decide +kernel
theorem d_M_hasRelation_49 : decode y_M_hasRelation.2.1 49 = .ok (.iload_n 1, 1) := by decide +kernel
theorem d_M_hasRelation_50 : decode y_M_hasRelation.2.1 50 = .ok (.iaload, 1) := by decide +kernel
theorem d_M_hasRelation_51 : decode y_M_hasRelation.2.1 51 = .ok (.bipush 20, 2) := by decide +kernel
theorem d_M_hasRelation_53 : decode y_M_hasRelation.2.1 53 = .ok (.if_icmp .eq 20, 3) := by decide +kernel
theorem d_M_hasRelation_56 : decode y_M_hasRelation.2.1 56 = .ok (.aload_n 0, 1) := by decide +kernel
theorem d_M_hasRelation_57 : decode y_M_hasRelation.2.1 57 = .ok (.getfield 39, 3) := by decide +kernel
theorem d_M_hasRelation_60 : decode y_M_hasRelation.2.1 60 = .ok (.iload_n 1, 1) := by decide +kernel
theorem d_M_hasRelation_61 : decode y_M_hasRelation.2.1 61 = .ok (.iaload, 1) := by decide +kernel
theorem d_M_hasRelation_62 : decode y_M_hasRelation.2.1 62 = .ok (.invokestatic 252, 3) := by decide +kernel
theorem d_M_hasRelation_65 : decode y_M_hasRelation.2.1 65 = .ok (.iconst 4, 1) := by decide +kernel
theorem d_M_hasRelation_66 : decode y_M_hasRelation.2.1 66 = .ok (.if_icmp .ne 7, 3) := by decide +kernel
theorem d_M_hasRelation_69 : decode y_M_hasRelation.2.1 69 = .ok (.iconst 1, 1) := by decide +kernel
theorem d_M_hasRelation_70 : decode y_M_hasRelation.2.1 70 = .ok (.goto 4, 3) := by decide +kernel
theorem d_M_hasRelation_73 : decode y_M_hasRelation.2.1 73 = .ok (.iconst 0, 1) := by decide +kernel
theorem d_M_hasRelation_74 : decode y_M_hasRelation.2.1 74 = .ok (.ireturn, 1) := by decide +kernel

abbrev y_M_mayNot : MI := (⟨"CricketHayModel", "mayNot", "()Z"⟩, prog_14_method_24_code, 1, (some .boolean))
theorem hy_M_mayNot : y_M_mayNot.1.cls ≠ "java/lang/invoke/MethodHandle" ∧ y_M_mayNot.1.cls ≠ "java/lang/invoke/VarHandle" ∧ (parseMethodDescriptor y_M_mayNot.1.desc).map (fun d => d.parameters.length) = some 0 := by decide +kernel
theorem d_M_mayNot_0 : decode y_M_mayNot.2.1 0 = .ok (.aload_n 0, 1) := by decide +kernel
theorem d_M_mayNot_1 : decode y_M_mayNot.2.1 1 = .ok (.getfield 249, 3) := by decide +kernel
theorem d_M_mayNot_4 : decode y_M_mayNot.2.1 4 = .ok (.ifCond .eq 37, 3) := by decide +kernel
theorem d_M_mayNot_7 : decode y_M_mayNot.2.1 7 = .ok (.aload_n 0, 1) := by decide +kernel
theorem d_M_mayNot_8 : decode y_M_mayNot.2.1 8 = .ok (.getfield 39, 3) := by decide +kernel
theorem d_M_mayNot_11 : decode y_M_mayNot.2.1 11 = .ok (.aload_n 0, 1) := by decide +kernel
theorem d_M_mayNot_12 : decode y_M_mayNot.2.1 12 = .ok (.getfield 249, 3) := by decide +kernel
theorem d_M_mayNot_15 : decode y_M_mayNot.2.1 15 = .ok (.iconst 1, 1) := by decide +kernel
theorem d_M_mayNot_16 : decode y_M_mayNot.2.1 16 = .ok (.isub, 1) := by decide +kernel
theorem d_M_mayNot_17 : decode y_M_mayNot.2.1 17 = .ok (.iaload, 1) := by decide +kernel
theorem d_M_mayNot_18 : decode y_M_mayNot.2.1 18 = .ok (.bipush 20, 2) := by decide +kernel
theorem d_M_mayNot_20 : decode y_M_mayNot.2.1 20 = .ok (.if_icmp .eq 21, 3) := by decide +kernel
theorem d_M_mayNot_23 : decode y_M_mayNot.2.1 23 = .ok (.aload_n 0, 1) := by decide +kernel
theorem d_M_mayNot_24 : decode y_M_mayNot.2.1 24 = .ok (.getfield 39, 3) := by decide +kernel
theorem d_M_mayNot_27 : decode y_M_mayNot.2.1 27 = .ok (.aload_n 0, 1) := by decide +kernel
theorem d_M_mayNot_28 : decode y_M_mayNot.2.1 28 = .ok (.getfield 249, 3) := by decide +kernel
theorem d_M_mayNot_31 : decode y_M_mayNot.2.1 31 = .ok (.iconst 1, 1) := by decide +kernel
theorem d_M_mayNot_32 : decode y_M_mayNot.2.1 32 = .ok (.isub, 1) := by decide +kernel
theorem d_M_mayNot_33 : decode y_M_mayNot.2.1 33 = .ok (.iaload, 1) := by decide +kernel
theorem d_M_mayNot_34 : decode y_M_mayNot.2.1 34 = .ok (.invokestatic 252, 3) := by decide +kernel
theorem d_M_mayNot_37 : decode y_M_mayNot.2.1 37 = .ok (.iconst 4, 1) := by decide +kernel
theorem d_M_mayNot_38 : decode y_M_mayNot.2.1 38 = .ok (.if_icmp .ge 7, 3) := by decide +kernel
theorem d_M_mayNot_41 : decode y_M_mayNot.2.1 41 = .ok (.iconst 1, 1) := by decide +kernel
theorem d_M_mayNot_42 : decode y_M_mayNot.2.1 42 = .ok (.goto 4, 3) := by decide +kernel
theorem d_M_mayNot_45 : decode y_M_mayNot.2.1 45 = .ok (.iconst 0, 1) := by decide +kernel
theorem d_M_mayNot_46 : decode y_M_mayNot.2.1 46 = .ok (.ireturn, 1) := by decide +kernel

abbrev y_M_asked : MI := (⟨"CricketHayModel", "asked", "()I"⟩, prog_14_method_25_code, 1, (some .int))
theorem hy_M_asked : y_M_asked.1.cls ≠ "java/lang/invoke/MethodHandle" ∧ y_M_asked.1.cls ≠ "java/lang/invoke/VarHandle" ∧ (parseMethodDescriptor y_M_asked.1.desc).map (fun d => d.parameters.length) = some 0 := by decide +kernel
theorem d_M_asked_0 : decode y_M_asked.2.1 0 = .ok (.aload_n 0, 1) := by decide +kernel
theorem d_M_asked_1 : decode y_M_asked.2.1 1 = .ok (.getfield 160, 3) := by decide +kernel
theorem d_M_asked_4 : decode y_M_asked.2.1 4 = .ok (.iconst 1, 1) := by decide +kernel
theorem d_M_asked_5 : decode y_M_asked.2.1 5 = .ok (.if_icmp .eq 5, 3) := by decide +kernel
theorem d_M_asked_8 : decode y_M_asked.2.1 8 = .ok (.iconst (-1), 1) := by decide +kernel
theorem d_M_asked_9 : decode y_M_asked.2.1 9 = .ok (.ireturn, 1) := by decide +kernel
theorem d_M_asked_10 : decode y_M_asked.2.1 10 = .ok (.aload_n 0, 1) := by decide +kernel
theorem d_M_asked_11 : decode y_M_asked.2.1 11 = .ok (.getfield 153, 3) := by decide +kernel
theorem d_M_asked_14 : decode y_M_asked.2.1 14 = .ok (.ldc2_w 194, 3) := by decide +kernel
theorem d_M_asked_17 : decode y_M_asked.2.1 17 = .ok (.lcmp, 1) := by decide +kernel
theorem d_M_asked_18 : decode y_M_asked.2.1 18 = .ok (.ifCond .ne 5, 3) := by decide +kernel
theorem d_M_asked_21 : decode y_M_asked.2.1 21 = .ok (.iconst 0, 1) := by decide +kernel
theorem d_M_asked_22 : decode y_M_asked.2.1 22 = .ok (.ireturn, 1) := by decide +kernel
theorem d_M_asked_23 : decode y_M_asked.2.1 23 = .ok (.aload_n 0, 1) := by decide +kernel
theorem d_M_asked_24 : decode y_M_asked.2.1 24 = .ok (.getfield 153, 3) := by decide +kernel
theorem d_M_asked_27 : decode y_M_asked.2.1 27 = .ok (.ldc2_w 182, 3) := by decide +kernel
theorem d_M_asked_30 : decode y_M_asked.2.1 30 = .ok (.lcmp, 1) := by decide +kernel
theorem d_M_asked_31 : decode y_M_asked.2.1 31 = .ok (.ifCond .ne 5, 3) := by decide +kernel
theorem d_M_asked_34 : decode y_M_asked.2.1 34 = .ok (.iconst 1, 1) := by decide +kernel
theorem d_M_asked_35 : decode y_M_asked.2.1 35 = .ok (.ireturn, 1) := by decide +kernel
theorem d_M_asked_36 : decode y_M_asked.2.1 36 = .ok (.aload_n 0, 1) := by decide +kernel
theorem d_M_asked_37 : decode y_M_asked.2.1 37 = .ok (.getfield 153, 3) := by decide +kernel
theorem d_M_asked_40 : decode y_M_asked.2.1 40 = .ok (.ldc2_w 184, 3) := by decide +kernel
theorem d_M_asked_43 : decode y_M_asked.2.1 43 = .ok (.lcmp, 1) := by decide +kernel
theorem d_M_asked_44 : decode y_M_asked.2.1 44 = .ok (.ifCond .ne 5, 3) := by decide +kernel
theorem d_M_asked_47 : decode y_M_asked.2.1 47 = .ok (.iconst 2, 1) := by decide +kernel
theorem d_M_asked_48 : decode y_M_asked.2.1 48 = .ok (.ireturn, 1) := by decide +kernel
theorem d_M_asked_49 : decode y_M_asked.2.1 49 = .ok (.aload_n 0, 1) := by decide +kernel
theorem d_M_asked_50 : decode y_M_asked.2.1 50 = .ok (.getfield 153, 3) := by decide +kernel
theorem d_M_asked_53 : decode y_M_asked.2.1 53 = .ok (.ldc2_w 202, 3) := by decide +kernel
theorem d_M_asked_56 : decode y_M_asked.2.1 56 = .ok (.lcmp, 1) := by decide +kernel
theorem d_M_asked_57 : decode y_M_asked.2.1 57 = .ok (.ifCond .ne 5, 3) := by decide +kernel
theorem d_M_asked_60 : decode y_M_asked.2.1 60 = .ok (.iconst 3, 1) := by decide +kernel
theorem d_M_asked_61 : decode y_M_asked.2.1 61 = .ok (.ireturn, 1) := by decide +kernel
theorem d_M_asked_62 : decode y_M_asked.2.1 62 = .ok (.aload_n 0, 1) := by decide +kernel
theorem d_M_asked_63 : decode y_M_asked.2.1 63 = .ok (.getfield 153, 3) := by decide +kernel
theorem d_M_asked_66 : decode y_M_asked.2.1 66 = .ok (.ldc2_w 204, 3) := by decide +kernel
theorem d_M_asked_69 : decode y_M_asked.2.1 69 = .ok (.lcmp, 1) := by decide +kernel
theorem d_M_asked_70 : decode y_M_asked.2.1 70 = .ok (.ifCond .ne 5, 3) := by decide +kernel
theorem d_M_asked_73 : decode y_M_asked.2.1 73 = .ok (.iconst 4, 1) := by decide +kernel
theorem d_M_asked_74 : decode y_M_asked.2.1 74 = .ok (.ireturn, 1) := by decide +kernel
theorem d_M_asked_75 : decode y_M_asked.2.1 75 = .ok (.aload_n 0, 1) := by decide +kernel
theorem d_M_asked_76 : decode y_M_asked.2.1 76 = .ok (.getfield 153, 3) := by decide +kernel
theorem d_M_asked_79 : decode y_M_asked.2.1 79 = .ok (.ldc2_w 206, 3) := by decide +kernel
theorem d_M_asked_82 : decode y_M_asked.2.1 82 = .ok (.lcmp, 1) := by decide +kernel
theorem d_M_asked_83 : decode y_M_asked.2.1 83 = .ok (.ifCond .ne 7, 3) := by decide +kernel
theorem d_M_asked_86 : decode y_M_asked.2.1 86 = .ok (.iconst 5, 1) := by decide +kernel
theorem d_M_asked_87 : decode y_M_asked.2.1 87 = .ok (.goto 4, 3) := by decide +kernel
theorem d_M_asked_90 : decode y_M_asked.2.1 90 = .ok (.iconst (-1), 1) := by decide +kernel
theorem d_M_asked_91 : decode y_M_asked.2.1 91 = .ok (.ireturn, 1) := by decide +kernel

abbrev y_M_isFull : MI := (⟨"CricketHayModel", "isFull", "()Z"⟩, prog_14_method_26_code, 1, (some .boolean))
theorem hy_M_isFull : y_M_isFull.1.cls ≠ "java/lang/invoke/MethodHandle" ∧ y_M_isFull.1.cls ≠ "java/lang/invoke/VarHandle" ∧ (parseMethodDescriptor y_M_isFull.1.desc).map (fun d => d.parameters.length) = some 0 := by decide +kernel
theorem d_M_isFull_0 : decode y_M_isFull.2.1 0 = .ok (.aload_n 0, 1) := by decide +kernel
theorem d_M_isFull_1 : decode y_M_isFull.2.1 1 = .ok (.getfield 262, 3) := by decide +kernel
theorem d_M_isFull_4 : decode y_M_isFull.2.1 4 = .ok (.bipush 60, 2) := by decide +kernel
theorem d_M_isFull_6 : decode y_M_isFull.2.1 6 = .ok (.if_icmp .eq 12, 3) := by decide +kernel
theorem d_M_isFull_9 : decode y_M_isFull.2.1 9 = .ok (.aload_n 0, 1) := by decide +kernel
theorem d_M_isFull_10 : decode y_M_isFull.2.1 10 = .ok (.getfield 265, 3) := by decide +kernel
theorem d_M_isFull_13 : decode y_M_isFull.2.1 13 = .ok (.bipush 30, 2) := by decide +kernel
theorem d_M_isFull_15 : decode y_M_isFull.2.1 15 = .ok (.if_icmp .ne 7, 3) := by decide +kernel
theorem d_M_isFull_18 : decode y_M_isFull.2.1 18 = .ok (.iconst 1, 1) := by decide +kernel
theorem d_M_isFull_19 : decode y_M_isFull.2.1 19 = .ok (.goto 4, 3) := by decide +kernel
theorem d_M_isFull_22 : decode y_M_isFull.2.1 22 = .ok (.iconst 0, 1) := by decide +kernel
theorem d_M_isFull_23 : decode y_M_isFull.2.1 23 = .ok (.ireturn, 1) := by decide +kernel

abbrev y_M_countUnit : MI := (⟨"CricketHayModel", "countUnit", "()V"⟩, prog_14_method_27_code, 1, none)
theorem hy_M_countUnit : y_M_countUnit.1.cls ≠ "java/lang/invoke/MethodHandle" ∧ y_M_countUnit.1.cls ≠ "java/lang/invoke/VarHandle" ∧ (parseMethodDescriptor y_M_countUnit.1.desc).map (fun d => d.parameters.length) = some 0 := by decide +kernel
theorem d_M_countUnit_0 : decode y_M_countUnit.2.1 0 = .ok (.aload_n 0, 1) := by decide +kernel
theorem d_M_countUnit_1 : decode y_M_countUnit.2.1 1 = .ok (.dup, 1) := by decide +kernel
theorem d_M_countUnit_2 : decode y_M_countUnit.2.1 2 = .ok (.getfield 262, 3) := by decide +kernel
theorem d_M_countUnit_5 : decode y_M_countUnit.2.1 5 = .ok (.iconst 1, 1) := by decide +kernel
theorem d_M_countUnit_6 : decode y_M_countUnit.2.1 6 = .ok (.iadd, 1) := by decide +kernel
theorem d_M_countUnit_7 : decode y_M_countUnit.2.1 7 = .ok (.putfield 262, 3) := by decide +kernel
theorem d_M_countUnit_10 : decode y_M_countUnit.2.1 10 = .ok (.aload_n 0, 1) := by decide +kernel
theorem d_M_countUnit_11 : decode y_M_countUnit.2.1 11 = .ok (.dup, 1) := by decide +kernel
theorem d_M_countUnit_12 : decode y_M_countUnit.2.1 12 = .ok (.getfield 265, 3) := by decide +kernel
theorem d_M_countUnit_15 : decode y_M_countUnit.2.1 15 = .ok (.iconst 1, 1) := by decide +kernel
theorem d_M_countUnit_16 : decode y_M_countUnit.2.1 16 = .ok (.iadd, 1) := by decide +kernel
theorem d_M_countUnit_17 : decode y_M_countUnit.2.1 17 = .ok (.putfield 265, 3) := by decide +kernel
theorem d_M_countUnit_20 : decode y_M_countUnit.2.1 20 = .ok (.return_, 1) := by decide +kernel

abbrev y_M_openUp : MI := (⟨"CricketHayModel", "openUp", "(I)V"⟩, prog_14_method_28_code, 2, none)
theorem hy_M_openUp : y_M_openUp.1.cls ≠ "java/lang/invoke/MethodHandle" ∧ y_M_openUp.1.cls ≠ "java/lang/invoke/VarHandle" ∧ (parseMethodDescriptor y_M_openUp.1.desc).map (fun d => d.parameters.length) = some 1 := by decide +kernel
theorem d_M_openUp_0 : decode y_M_openUp.2.1 0 = .ok (.aload_n 0, 1) := by decide +kernel
theorem d_M_openUp_1 : decode y_M_openUp.2.1 1 = .ok (.getfield 39, 3) := by decide +kernel
theorem d_M_openUp_4 : decode y_M_openUp.2.1 4 = .ok (.aload_n 0, 1) := by decide +kernel
theorem d_M_openUp_5 : decode y_M_openUp.2.1 5 = .ok (.getfield 249, 3) := by decide +kernel
theorem d_M_openUp_8 : decode y_M_openUp.2.1 8 = .ok (.iload_n 1, 1) := by decide +kernel
theorem d_M_openUp_9 : decode y_M_openUp.2.1 9 = .ok (.iastore, 1) := by decide +kernel
theorem d_M_openUp_10 : decode y_M_openUp.2.1 10 = .ok (.aload_n 0, 1) := by decide +kernel
theorem d_M_openUp_11 : decode y_M_openUp.2.1 11 = .ok (.dup, 1) := by decide +kernel
theorem d_M_openUp_12 : decode y_M_openUp.2.1 12 = .ok (.getfield 249, 3) := by decide +kernel
theorem d_M_openUp_15 : decode y_M_openUp.2.1 15 = .ok (.iconst 1, 1) := by decide +kernel
theorem d_M_openUp_16 : decode y_M_openUp.2.1 16 = .ok (.iadd, 1) := by decide +kernel
theorem d_M_openUp_17 : decode y_M_openUp.2.1 17 = .ok (.putfield 249, 3) := by decide +kernel
theorem d_M_openUp_20 : decode y_M_openUp.2.1 20 = .ok (.aload_n 0, 1) := by decide +kernel
theorem d_M_openUp_21 : decode y_M_openUp.2.1 21 = .ok (.dup, 1) := by decide +kernel
theorem d_M_openUp_22 : decode y_M_openUp.2.1 22 = .ok (.getfield 259, 3) := by decide +kernel
theorem d_M_openUp_25 : decode y_M_openUp.2.1 25 = .ok (.iconst 1, 1) := by decide +kernel
theorem d_M_openUp_26 : decode y_M_openUp.2.1 26 = .ok (.iadd, 1) := by decide +kernel
theorem d_M_openUp_27 : decode y_M_openUp.2.1 27 = .ok (.putfield 259, 3) := by decide +kernel
theorem d_M_openUp_30 : decode y_M_openUp.2.1 30 = .ok (.aload_n 0, 1) := by decide +kernel
theorem d_M_openUp_31 : decode y_M_openUp.2.1 31 = .ok (.getfield 173, 3) := by decide +kernel
theorem d_M_openUp_34 : decode y_M_openUp.2.1 34 = .ok (.ifCond .ne 7, 3) := by decide +kernel
theorem d_M_openUp_37 : decode y_M_openUp.2.1 37 = .ok (.aload_n 0, 1) := by decide +kernel
theorem d_M_openUp_38 : decode y_M_openUp.2.1 38 = .ok (.invokevirtual 225, 3) := by decide +kernel
theorem d_M_openUp_41 : decode y_M_openUp.2.1 41 = .ok (.return_, 1) := by decide +kernel

abbrev y_M_unit : MI := (⟨"CricketHayModel", "unit", "()V"⟩, prog_14_method_29_code, 3, none)
theorem hy_M_unit : y_M_unit.1.cls ≠ "java/lang/invoke/MethodHandle" ∧ y_M_unit.1.cls ≠ "java/lang/invoke/VarHandle" ∧ (parseMethodDescriptor y_M_unit.1.desc).map (fun d => d.parameters.length) = some 0 := by decide +kernel
theorem d_M_unit_0 : decode y_M_unit.2.1 0 = .ok (.iconst 1, 1) := by decide +kernel
theorem d_M_unit_1 : decode y_M_unit.2.1 1 = .ok (.istore_n 1, 1) := by decide +kernel
theorem d_M_unit_2 : decode y_M_unit.2.1 2 = .ok (.iload_n 1, 1) := by decide +kernel
theorem d_M_unit_3 : decode y_M_unit.2.1 3 = .ok (.ifCond .eq 98, 3) := by decide +kernel
theorem d_M_unit_6 : decode y_M_unit.2.1 6 = .ok (.aload_n 0, 1) := by decide +kernel
theorem d_M_unit_7 : decode y_M_unit.2.1 7 = .ok (.getfield 173, 3) := by decide +kernel
theorem d_M_unit_10 : decode y_M_unit.2.1 10 = .ok (.ifCond .ne 91, 3) := by decide +kernel
theorem d_M_unit_13 : decode y_M_unit.2.1 13 = .ok (.aload_n 0, 1) := by decide +kernel
theorem d_M_unit_14 : decode y_M_unit.2.1 14 = .ok (.ldc2_w 212, 3) := by decide +kernel
theorem d_M_unit_17 : decode y_M_unit.2.1 17 = .ok (.invokevirtual 218, 3) := by decide +kernel
theorem d_M_unit_20 : decode y_M_unit.2.1 20 = .ok (.ifCond .eq 33, 3) := by decide +kernel
theorem d_M_unit_23 : decode y_M_unit.2.1 23 = .ok (.aload_n 0, 1) := by decide +kernel
theorem d_M_unit_24 : decode y_M_unit.2.1 24 = .ok (.invokevirtual 268, 3) := by decide +kernel
theorem d_M_unit_27 : decode y_M_unit.2.1 27 = .ok (.ifCond .eq 26, 3) := by decide +kernel
theorem d_M_unit_30 : decode y_M_unit.2.1 30 = .ok (.aload_n 0, 1) := by decide +kernel
theorem d_M_unit_31 : decode y_M_unit.2.1 31 = .ok (.getfield 259, 3) := by decide +kernel
theorem d_M_unit_34 : decode y_M_unit.2.1 34 = .ok (.bipush 6, 2) := by decide +kernel
theorem d_M_unit_36 : decode y_M_unit.2.1 36 = .ok (.if_icmp .le 8, 3) := by decide +kernel
theorem d_M_unit_39 : decode y_M_unit.2.1 39 = .ok (.aload_n 0, 1) := by decide +kernel
theorem d_M_unit_40 : decode y_M_unit.2.1 40 = .ok (.iconst 2, 1) := by decide +kernel
theorem d_M_unit_41 : decode y_M_unit.2.1 41 = .ok (.invokevirtual 222, 3) := by decide +kernel
theorem d_M_unit_44 : decode y_M_unit.2.1 44 = .ok (.aload_n 0, 1) := by decide +kernel
theorem d_M_unit_45 : decode y_M_unit.2.1 45 = .ok (.bipush 21, 2) := by decide +kernel
theorem d_M_unit_47 : decode y_M_unit.2.1 47 = .ok (.invokevirtual 271, 3) := by decide +kernel
theorem d_M_unit_50 : decode y_M_unit.2.1 50 = .ok (.goto (-48), 3) := by decide +kernel
theorem d_M_unit_53 : decode y_M_unit.2.1 53 = .ok (.aload_n 0, 1) := by decide +kernel
theorem d_M_unit_54 : decode y_M_unit.2.1 54 = .ok (.getfield 160, 3) := by decide +kernel
theorem d_M_unit_57 : decode y_M_unit.2.1 57 = .ok (.bipush 40, 2) := by decide +kernel
theorem d_M_unit_59 : decode y_M_unit.2.1 59 = .ok (.if_icmp .ne 37, 3) := by decide +kernel
theorem d_M_unit_62 : decode y_M_unit.2.1 62 = .ok (.aload_n 0, 1) := by decide +kernel
theorem d_M_unit_63 : decode y_M_unit.2.1 63 = .ok (.invokevirtual 274, 3) := by decide +kernel
theorem d_M_unit_66 : decode y_M_unit.2.1 66 = .ok (.ifCond .ne 12, 3) := by decide +kernel
theorem d_M_unit_69 : decode y_M_unit.2.1 69 = .ok (.aload_n 0, 1) := by decide +kernel
theorem d_M_unit_70 : decode y_M_unit.2.1 70 = .ok (.getfield 259, 3) := by decide +kernel
theorem d_M_unit_73 : decode y_M_unit.2.1 73 = .ok (.bipush 6, 2) := by decide +kernel
theorem d_M_unit_75 : decode y_M_unit.2.1 75 = .ok (.if_icmp .le 8, 3) := by decide +kernel
theorem d_M_unit_78 : decode y_M_unit.2.1 78 = .ok (.aload_n 0, 1) := by decide +kernel
theorem d_M_unit_79 : decode y_M_unit.2.1 79 = .ok (.iconst 2, 1) := by decide +kernel
theorem d_M_unit_80 : decode y_M_unit.2.1 80 = .ok (.invokevirtual 222, 3) := by decide +kernel
theorem d_M_unit_83 : decode y_M_unit.2.1 83 = .ok (.aload_n 0, 1) := by decide +kernel
theorem d_M_unit_84 : decode y_M_unit.2.1 84 = .ok (.invokevirtual 277, 3) := by decide +kernel
theorem d_M_unit_87 : decode y_M_unit.2.1 87 = .ok (.aload_n 0, 1) := by decide +kernel
theorem d_M_unit_88 : decode y_M_unit.2.1 88 = .ok (.bipush 20, 2) := by decide +kernel
theorem d_M_unit_90 : decode y_M_unit.2.1 90 = .ok (.invokevirtual 271, 3) := by decide +kernel
theorem d_M_unit_93 : decode y_M_unit.2.1 93 = .ok (.goto (-91), 3) := by decide +kernel
theorem d_M_unit_96 : decode y_M_unit.2.1 96 = .ok (.iconst 0, 1) := by decide +kernel
theorem d_M_unit_97 : decode y_M_unit.2.1 97 = .ok (.istore_n 1, 1) := by decide +kernel
theorem d_M_unit_98 : decode y_M_unit.2.1 98 = .ok (.goto (-96), 3) := by decide +kernel
theorem d_M_unit_101 : decode y_M_unit.2.1 101 = .ok (.aload_n 0, 1) := by decide +kernel
theorem d_M_unit_102 : decode y_M_unit.2.1 102 = .ok (.getfield 173, 3) := by decide +kernel
theorem d_M_unit_105 : decode y_M_unit.2.1 105 = .ok (.ifCond .le 4, 3) := by decide +kernel
theorem d_M_unit_108 : decode y_M_unit.2.1 108 = .ok (.return_, 1) := by decide +kernel
theorem d_M_unit_109 : decode y_M_unit.2.1 109 = .ok (.aload_n 0, 1) := by decide +kernel
theorem d_M_unit_110 : decode y_M_unit.2.1 110 = .ok (.invokevirtual 280, 3) := by decide +kernel
theorem d_M_unit_113 : decode y_M_unit.2.1 113 = .ok (.istore_n 2, 1) := by decide +kernel
theorem d_M_unit_114 : decode y_M_unit.2.1 114 = .ok (.aload_n 0, 1) := by decide +kernel
theorem d_M_unit_115 : decode y_M_unit.2.1 115 = .ok (.getfield 160, 3) := by decide +kernel
theorem d_M_unit_118 : decode y_M_unit.2.1 118 = .ok (.iconst 2, 1) := by decide +kernel
theorem d_M_unit_119 : decode y_M_unit.2.1 119 = .ok (.if_icmp .eq 7, 3) := by decide +kernel
theorem d_M_unit_122 : decode y_M_unit.2.1 122 = .ok (.iload_n 2, 1) := by decide +kernel
theorem d_M_unit_123 : decode y_M_unit.2.1 123 = .ok (.ifCond .lt 10, 3) := by decide +kernel
theorem d_M_unit_126 : decode y_M_unit.2.1 126 = .ok (.aload_n 0, 1) := by decide +kernel
theorem d_M_unit_127 : decode y_M_unit.2.1 127 = .ok (.invokevirtual 274, 3) := by decide +kernel
theorem d_M_unit_130 : decode y_M_unit.2.1 130 = .ok (.ifCond .eq 8, 3) := by decide +kernel
theorem d_M_unit_133 : decode y_M_unit.2.1 133 = .ok (.aload_n 0, 1) := by decide +kernel
theorem d_M_unit_134 : decode y_M_unit.2.1 134 = .ok (.iconst 2, 1) := by decide +kernel
theorem d_M_unit_135 : decode y_M_unit.2.1 135 = .ok (.invokevirtual 222, 3) := by decide +kernel
theorem d_M_unit_138 : decode y_M_unit.2.1 138 = .ok (.aload_n 0, 1) := by decide +kernel
theorem d_M_unit_139 : decode y_M_unit.2.1 139 = .ok (.getfield 173, 3) := by decide +kernel
theorem d_M_unit_142 : decode y_M_unit.2.1 142 = .ok (.ifCond .le 4, 3) := by decide +kernel
theorem d_M_unit_145 : decode y_M_unit.2.1 145 = .ok (.return_, 1) := by decide +kernel
theorem d_M_unit_146 : decode y_M_unit.2.1 146 = .ok (.aload_n 0, 1) := by decide +kernel
theorem d_M_unit_147 : decode y_M_unit.2.1 147 = .ok (.invokevirtual 277, 3) := by decide +kernel
theorem d_M_unit_150 : decode y_M_unit.2.1 150 = .ok (.aload_n 0, 1) := by decide +kernel
theorem d_M_unit_151 : decode y_M_unit.2.1 151 = .ok (.iload_n 2, 1) := by decide +kernel
theorem d_M_unit_152 : decode y_M_unit.2.1 152 = .ok (.ifCond .ge 7, 3) := by decide +kernel
theorem d_M_unit_155 : decode y_M_unit.2.1 155 = .ok (.iconst 0, 1) := by decide +kernel
theorem d_M_unit_156 : decode y_M_unit.2.1 156 = .ok (.goto 4, 3) := by decide +kernel
theorem d_M_unit_159 : decode y_M_unit.2.1 159 = .ok (.iconst 1, 1) := by decide +kernel
theorem d_M_unit_160 : decode y_M_unit.2.1 160 = .ok (.iload_n 2, 1) := by decide +kernel
theorem d_M_unit_161 : decode y_M_unit.2.1 161 = .ok (.ifCond .ge 10, 3) := by decide +kernel
theorem d_M_unit_164 : decode y_M_unit.2.1 164 = .ok (.aload_n 0, 1) := by decide +kernel
theorem d_M_unit_165 : decode y_M_unit.2.1 165 = .ok (.getfield 157, 3) := by decide +kernel
theorem d_M_unit_168 : decode y_M_unit.2.1 168 = .ok (.goto 4, 3) := by decide +kernel
theorem d_M_unit_171 : decode y_M_unit.2.1 171 = .ok (.iload_n 2, 1) := by decide +kernel
theorem d_M_unit_172 : decode y_M_unit.2.1 172 = .ok (.invokevirtual 255, 3) := by decide +kernel
theorem d_M_unit_175 : decode y_M_unit.2.1 175 = .ok (.aload_n 0, 1) := by decide +kernel
theorem d_M_unit_176 : decode y_M_unit.2.1 176 = .ok (.invokevirtual 225, 3) := by decide +kernel
theorem d_M_unit_179 : decode y_M_unit.2.1 179 = .ok (.return_, 1) := by decide +kernel

abbrev y_M_sign : MI := (⟨"CricketHayModel", "sign", "()I"⟩, prog_14_method_30_code, 1, (some .int))
theorem hy_M_sign : y_M_sign.1.cls ≠ "java/lang/invoke/MethodHandle" ∧ y_M_sign.1.cls ≠ "java/lang/invoke/VarHandle" ∧ (parseMethodDescriptor y_M_sign.1.desc).map (fun d => d.parameters.length) = some 0 := by decide +kernel
theorem d_M_sign_0 : decode y_M_sign.2.1 0 = .ok (.aload_n 0, 1) := by decide +kernel
theorem d_M_sign_1 : decode y_M_sign.2.1 1 = .ok (.ldc2_w 208, 3) := by decide +kernel
theorem d_M_sign_4 : decode y_M_sign.2.1 4 = .ok (.invokevirtual 218, 3) := by decide +kernel
theorem d_M_sign_7 : decode y_M_sign.2.1 7 = .ok (.ifCond .eq 6, 3) := by decide +kernel
theorem d_M_sign_10 : decode y_M_sign.2.1 10 = .ok (.bipush 38, 2) := by decide +kernel
theorem d_M_sign_12 : decode y_M_sign.2.1 12 = .ok (.ireturn, 1) := by decide +kernel
theorem d_M_sign_13 : decode y_M_sign.2.1 13 = .ok (.aload_n 0, 1) := by decide +kernel
theorem d_M_sign_14 : decode y_M_sign.2.1 14 = .ok (.ldc2_w 210, 3) := by decide +kernel
theorem d_M_sign_17 : decode y_M_sign.2.1 17 = .ok (.invokevirtual 218, 3) := by decide +kernel
theorem d_M_sign_20 : decode y_M_sign.2.1 20 = .ok (.ifCond .eq 6, 3) := by decide +kernel
theorem d_M_sign_23 : decode y_M_sign.2.1 23 = .ok (.bipush 124, 2) := by decide +kernel
theorem d_M_sign_25 : decode y_M_sign.2.1 25 = .ok (.ireturn, 1) := by decide +kernel
theorem d_M_sign_26 : decode y_M_sign.2.1 26 = .ok (.aload_n 0, 1) := by decide +kernel
theorem d_M_sign_27 : decode y_M_sign.2.1 27 = .ok (.getfield 160, 3) := by decide +kernel
theorem d_M_sign_30 : decode y_M_sign.2.1 30 = .ok (.bipush 60, 2) := by decide +kernel
theorem d_M_sign_32 : decode y_M_sign.2.1 32 = .ok (.if_icmp .eq 66, 3) := by decide +kernel
theorem d_M_sign_35 : decode y_M_sign.2.1 35 = .ok (.aload_n 0, 1) := by decide +kernel
theorem d_M_sign_36 : decode y_M_sign.2.1 36 = .ok (.getfield 160, 3) := by decide +kernel
theorem d_M_sign_39 : decode y_M_sign.2.1 39 = .ok (.bipush 62, 2) := by decide +kernel
theorem d_M_sign_41 : decode y_M_sign.2.1 41 = .ok (.if_icmp .eq 57, 3) := by decide +kernel
theorem d_M_sign_44 : decode y_M_sign.2.1 44 = .ok (.aload_n 0, 1) := by decide +kernel
theorem d_M_sign_45 : decode y_M_sign.2.1 45 = .ok (.getfield 160, 3) := by decide +kernel
theorem d_M_sign_48 : decode y_M_sign.2.1 48 = .ok (.bipush 61, 2) := by decide +kernel
theorem d_M_sign_50 : decode y_M_sign.2.1 50 = .ok (.if_icmp .eq 48, 3) := by decide +kernel
theorem d_M_sign_53 : decode y_M_sign.2.1 53 = .ok (.aload_n 0, 1) := by decide +kernel
theorem d_M_sign_54 : decode y_M_sign.2.1 54 = .ok (.getfield 160, 3) := by decide +kernel
theorem d_M_sign_57 : decode y_M_sign.2.1 57 = .ok (.bipush 43, 2) := by decide +kernel
theorem d_M_sign_59 : decode y_M_sign.2.1 59 = .ok (.if_icmp .eq 39, 3) := by decide +kernel
theorem d_M_sign_62 : decode y_M_sign.2.1 62 = .ok (.aload_n 0, 1) := by decide +kernel
theorem d_M_sign_63 : decode y_M_sign.2.1 63 = .ok (.getfield 160, 3) := by decide +kernel
theorem d_M_sign_66 : decode y_M_sign.2.1 66 = .ok (.bipush 45, 2) := by decide +kernel
theorem d_M_sign_68 : decode y_M_sign.2.1 68 = .ok (.if_icmp .eq 30, 3) := by decide +kernel
theorem d_M_sign_71 : decode y_M_sign.2.1 71 = .ok (.aload_n 0, 1) := by decide +kernel
theorem d_M_sign_72 : decode y_M_sign.2.1 72 = .ok (.getfield 160, 3) := by decide +kernel
theorem d_M_sign_75 : decode y_M_sign.2.1 75 = .ok (.bipush 42, 2) := by decide +kernel
theorem d_M_sign_77 : decode y_M_sign.2.1 77 = .ok (.if_icmp .eq 21, 3) := by decide +kernel
theorem d_M_sign_80 : decode y_M_sign.2.1 80 = .ok (.aload_n 0, 1) := by decide +kernel
theorem d_M_sign_81 : decode y_M_sign.2.1 81 = .ok (.getfield 160, 3) := by decide +kernel
theorem d_M_sign_84 : decode y_M_sign.2.1 84 = .ok (.bipush 47, 2) := by decide +kernel
theorem d_M_sign_86 : decode y_M_sign.2.1 86 = .ok (.if_icmp .eq 12, 3) := by decide +kernel
theorem d_M_sign_89 : decode y_M_sign.2.1 89 = .ok (.aload_n 0, 1) := by decide +kernel
theorem d_M_sign_90 : decode y_M_sign.2.1 90 = .ok (.getfield 160, 3) := by decide +kernel
theorem d_M_sign_93 : decode y_M_sign.2.1 93 = .ok (.bipush 37, 2) := by decide +kernel
theorem d_M_sign_95 : decode y_M_sign.2.1 95 = .ok (.if_icmp .ne 10, 3) := by decide +kernel
theorem d_M_sign_98 : decode y_M_sign.2.1 98 = .ok (.aload_n 0, 1) := by decide +kernel
theorem d_M_sign_99 : decode y_M_sign.2.1 99 = .ok (.getfield 160, 3) := by decide +kernel
theorem d_M_sign_102 : decode y_M_sign.2.1 102 = .ok (.goto 4, 3) := by decide +kernel
theorem d_M_sign_105 : decode y_M_sign.2.1 105 = .ok (.iconst 0, 1) := by decide +kernel
theorem d_M_sign_106 : decode y_M_sign.2.1 106 = .ok (.ireturn, 1) := by decide +kernel

abbrev y_M_hasBracket : MI := (⟨"CricketHayModel", "hasBracket", "()Z"⟩, prog_14_method_31_code, 3, (some .boolean))
theorem hy_M_hasBracket : y_M_hasBracket.1.cls ≠ "java/lang/invoke/MethodHandle" ∧ y_M_hasBracket.1.cls ≠ "java/lang/invoke/VarHandle" ∧ (parseMethodDescriptor y_M_hasBracket.1.desc).map (fun d => d.parameters.length) = some 0 := by decide +kernel
theorem d_M_hasBracket_0 : decode y_M_hasBracket.2.1 0 = .ok (.iconst 0, 1) := by decide +kernel
theorem d_M_hasBracket_1 : decode y_M_hasBracket.2.1 1 = .ok (.istore_n 1, 1) := by decide +kernel
theorem d_M_hasBracket_2 : decode y_M_hasBracket.2.1 2 = .ok (.iconst 0, 1) := by decide +kernel
theorem d_M_hasBracket_3 : decode y_M_hasBracket.2.1 3 = .ok (.istore_n 2, 1) := by decide +kernel
theorem d_M_hasBracket_4 : decode y_M_hasBracket.2.1 4 = .ok (.iload_n 2, 1) := by decide +kernel
theorem d_M_hasBracket_5 : decode y_M_hasBracket.2.1 5 = .ok (.aload_n 0, 1) := by decide +kernel
theorem d_M_hasBracket_6 : decode y_M_hasBracket.2.1 6 = .ok (.getfield 249, 3) := by decide +kernel
theorem d_M_hasBracket_9 : decode y_M_hasBracket.2.1 9 = .ok (.if_icmp .ge 30, 3) := by decide +kernel
theorem d_M_hasBracket_12 : decode y_M_hasBracket.2.1 12 = .ok (.iload_n 1, 1) := by decide +kernel
theorem d_M_hasBracket_13 : decode y_M_hasBracket.2.1 13 = .ok (.ifCond .ne 14, 3) := by decide +kernel
theorem d_M_hasBracket_16 : decode y_M_hasBracket.2.1 16 = .ok (.aload_n 0, 1) := by decide +kernel
theorem d_M_hasBracket_17 : decode y_M_hasBracket.2.1 17 = .ok (.getfield 39, 3) := by decide +kernel
theorem d_M_hasBracket_20 : decode y_M_hasBracket.2.1 20 = .ok (.iload_n 2, 1) := by decide +kernel
theorem d_M_hasBracket_21 : decode y_M_hasBracket.2.1 21 = .ok (.iaload, 1) := by decide +kernel
theorem d_M_hasBracket_22 : decode y_M_hasBracket.2.1 22 = .ok (.bipush 20, 2) := by decide +kernel
theorem d_M_hasBracket_24 : decode y_M_hasBracket.2.1 24 = .ok (.if_icmp .ne 7, 3) := by decide +kernel
theorem d_M_hasBracket_27 : decode y_M_hasBracket.2.1 27 = .ok (.iconst 1, 1) := by decide +kernel
theorem d_M_hasBracket_28 : decode y_M_hasBracket.2.1 28 = .ok (.goto 4, 3) := by decide +kernel
theorem d_M_hasBracket_31 : decode y_M_hasBracket.2.1 31 = .ok (.iconst 0, 1) := by decide +kernel
theorem d_M_hasBracket_32 : decode y_M_hasBracket.2.1 32 = .ok (.istore_n 1, 1) := by decide +kernel
theorem d_M_hasBracket_33 : decode y_M_hasBracket.2.1 33 = .ok (.iinc 2 1, 3) := by decide +kernel
theorem d_M_hasBracket_36 : decode y_M_hasBracket.2.1 36 = .ok (.goto (-32), 3) := by decide +kernel
theorem d_M_hasBracket_39 : decode y_M_hasBracket.2.1 39 = .ok (.iload_n 1, 1) := by decide +kernel
theorem d_M_hasBracket_40 : decode y_M_hasBracket.2.1 40 = .ok (.ireturn, 1) := by decide +kernel

abbrev y_M_formula : MI := (⟨"CricketHayModel", "formula", "(I)V"⟩, prog_14_method_32_code, 4, none)
theorem hy_M_formula : y_M_formula.1.cls ≠ "java/lang/invoke/MethodHandle" ∧ y_M_formula.1.cls ≠ "java/lang/invoke/VarHandle" ∧ (parseMethodDescriptor y_M_formula.1.desc).map (fun d => d.parameters.length) = some 1 := by decide +kernel
theorem d_M_formula_0 : decode y_M_formula.2.1 0 = .ok (.aload_n 0, 1) := by decide +kernel
theorem d_M_formula_1 : decode y_M_formula.2.1 1 = .ok (.invokevirtual 225, 3) := by decide +kernel
theorem d_M_formula_4 : decode y_M_formula.2.1 4 = .ok (.aload_n 0, 1) := by decide +kernel
theorem d_M_formula_5 : decode y_M_formula.2.1 5 = .ok (.iload_n 1, 1) := by decide +kernel
theorem d_M_formula_6 : decode y_M_formula.2.1 6 = .ok (.putfield 246, 3) := by decide +kernel
theorem d_M_formula_9 : decode y_M_formula.2.1 9 = .ok (.aload_n 0, 1) := by decide +kernel
theorem d_M_formula_10 : decode y_M_formula.2.1 10 = .ok (.getfield 45, 3) := by decide +kernel
theorem d_M_formula_13 : decode y_M_formula.2.1 13 = .ok (.aload_n 0, 1) := by decide +kernel
theorem d_M_formula_14 : decode y_M_formula.2.1 14 = .ok (.getfield 246, 3) := by decide +kernel
theorem d_M_formula_17 : decode y_M_formula.2.1 17 = .ok (.iconst 1, 1) := by decide +kernel
theorem d_M_formula_18 : decode y_M_formula.2.1 18 = .ok (.bastore, 1) := by decide +kernel
theorem d_M_formula_19 : decode y_M_formula.2.1 19 = .ok (.aload_n 0, 1) := by decide +kernel
theorem d_M_formula_20 : decode y_M_formula.2.1 20 = .ok (.getfield 27, 3) := by decide +kernel
theorem d_M_formula_23 : decode y_M_formula.2.1 23 = .ok (.aload_n 0, 1) := by decide +kernel
theorem d_M_formula_24 : decode y_M_formula.2.1 24 = .ok (.getfield 246, 3) := by decide +kernel
theorem d_M_formula_27 : decode y_M_formula.2.1 27 = .ok (.iconst 0, 1) := by decide +kernel
theorem d_M_formula_28 : decode y_M_formula.2.1 28 = .ok (.iastore, 1) := by decide +kernel
theorem d_M_formula_29 : decode y_M_formula.2.1 29 = .ok (.aload_n 0, 1) := by decide +kernel
theorem d_M_formula_30 : decode y_M_formula.2.1 30 = .ok (.iconst 0, 1) := by decide +kernel
theorem d_M_formula_31 : decode y_M_formula.2.1 31 = .ok (.putfield 249, 3) := by decide +kernel
theorem d_M_formula_34 : decode y_M_formula.2.1 34 = .ok (.aload_n 0, 1) := by decide +kernel
theorem d_M_formula_35 : decode y_M_formula.2.1 35 = .ok (.iconst 0, 1) := by decide +kernel
theorem d_M_formula_36 : decode y_M_formula.2.1 36 = .ok (.putfield 259, 3) := by decide +kernel
theorem d_M_formula_39 : decode y_M_formula.2.1 39 = .ok (.aload_n 0, 1) := by decide +kernel
theorem d_M_formula_40 : decode y_M_formula.2.1 40 = .ok (.iconst 0, 1) := by decide +kernel
theorem d_M_formula_41 : decode y_M_formula.2.1 41 = .ok (.putfield 265, 3) := by decide +kernel
theorem d_M_formula_44 : decode y_M_formula.2.1 44 = .ok (.aload_n 0, 1) := by decide +kernel
theorem d_M_formula_45 : decode y_M_formula.2.1 45 = .ok (.invokevirtual 284, 3) := by decide +kernel
theorem d_M_formula_48 : decode y_M_formula.2.1 48 = .ok (.iconst 1, 1) := by decide +kernel
theorem d_M_formula_49 : decode y_M_formula.2.1 49 = .ok (.istore_n 2, 1) := by decide +kernel
theorem d_M_formula_50 : decode y_M_formula.2.1 50 = .ok (.iload_n 2, 1) := by decide +kernel
theorem d_M_formula_51 : decode y_M_formula.2.1 51 = .ok (.ifCond .eq 126, 3) := by decide +kernel
theorem d_M_formula_54 : decode y_M_formula.2.1 54 = .ok (.aload_n 0, 1) := by decide +kernel
theorem d_M_formula_55 : decode y_M_formula.2.1 55 = .ok (.getfield 173, 3) := by decide +kernel
theorem d_M_formula_58 : decode y_M_formula.2.1 58 = .ok (.ifCond .ne 119, 3) := by decide +kernel
theorem d_M_formula_61 : decode y_M_formula.2.1 61 = .ok (.aload_n 0, 1) := by decide +kernel
theorem d_M_formula_62 : decode y_M_formula.2.1 62 = .ok (.invokevirtual 287, 3) := by decide +kernel
theorem d_M_formula_65 : decode y_M_formula.2.1 65 = .ok (.istore_n 3, 1) := by decide +kernel
theorem d_M_formula_66 : decode y_M_formula.2.1 66 = .ok (.aload_n 0, 1) := by decide +kernel
theorem d_M_formula_67 : decode y_M_formula.2.1 67 = .ok (.getfield 160, 3) := by decide +kernel
theorem d_M_formula_70 : decode y_M_formula.2.1 70 = .ok (.bipush 41, 2) := by decide +kernel
theorem d_M_formula_72 : decode y_M_formula.2.1 72 = .ok (.if_icmp .ne 42, 3) := by decide +kernel
theorem d_M_formula_75 : decode y_M_formula.2.1 75 = .ok (.aload_n 0, 1) := by decide +kernel
theorem d_M_formula_76 : decode y_M_formula.2.1 76 = .ok (.invokevirtual 290, 3) := by decide +kernel
theorem d_M_formula_79 : decode y_M_formula.2.1 79 = .ok (.ifCond .eq 35, 3) := by decide +kernel
theorem d_M_formula_82 : decode y_M_formula.2.1 82 = .ok (.aload_n 0, 1) := by decide +kernel
theorem d_M_formula_83 : decode y_M_formula.2.1 83 = .ok (.iconst 0, 1) := by decide +kernel
theorem d_M_formula_84 : decode y_M_formula.2.1 84 = .ok (.invokevirtual 293, 3) := by decide +kernel
theorem d_M_formula_87 : decode y_M_formula.2.1 87 = .ok (.aload_n 0, 1) := by decide +kernel
theorem d_M_formula_88 : decode y_M_formula.2.1 88 = .ok (.dup, 1) := by decide +kernel
theorem d_M_formula_89 : decode y_M_formula.2.1 89 = .ok (.getfield 249, 3) := by decide +kernel
theorem d_M_formula_92 : decode y_M_formula.2.1 92 = .ok (.iconst 1, 1) := by decide +kernel
theorem d_M_formula_93 : decode y_M_formula.2.1 93 = .ok (.isub, 1) := by decide +kernel
theorem d_M_formula_94 : decode y_M_formula.2.1 94 = .ok (.putfield 249, 3) := by decide +kernel
theorem d_M_formula_97 : decode y_M_formula.2.1 97 = .ok (.aload_n 0, 1) := by decide +kernel
theorem d_M_formula_98 : decode y_M_formula.2.1 98 = .ok (.dup, 1) := by decide +kernel
theorem d_M_formula_99 : decode y_M_formula.2.1 99 = .ok (.getfield 259, 3) := by decide +kernel
theorem d_M_formula_102 : decode y_M_formula.2.1 102 = .ok (.iconst 1, 1) := by decide +kernel
theorem d_M_formula_103 : decode y_M_formula.2.1 103 = .ok (.isub, 1) := by decide +kernel
theorem d_M_formula_104 : decode y_M_formula.2.1 104 = .ok (.putfield 259, 3) := by decide +kernel
theorem d_M_formula_107 : decode y_M_formula.2.1 107 = .ok (.aload_n 0, 1) := by decide +kernel
theorem d_M_formula_108 : decode y_M_formula.2.1 108 = .ok (.invokevirtual 225, 3) := by decide +kernel
theorem d_M_formula_111 : decode y_M_formula.2.1 111 = .ok (.goto 63, 3) := by decide +kernel
theorem d_M_formula_114 : decode y_M_formula.2.1 114 = .ok (.iload_n 3, 1) := by decide +kernel
theorem d_M_formula_115 : decode y_M_formula.2.1 115 = .ok (.ifCond .eq 57, 3) := by decide +kernel
theorem d_M_formula_118 : decode y_M_formula.2.1 118 = .ok (.iload_n 3, 1) := by decide +kernel
theorem d_M_formula_119 : decode y_M_formula.2.1 119 = .ok (.invokestatic 252, 3) := by decide +kernel
theorem d_M_formula_122 : decode y_M_formula.2.1 122 = .ok (.iconst 4, 1) := by decide +kernel
theorem d_M_formula_123 : decode y_M_formula.2.1 123 = .ok (.if_icmp .ne 10, 3) := by decide +kernel
theorem d_M_formula_126 : decode y_M_formula.2.1 126 = .ok (.aload_n 0, 1) := by decide +kernel
theorem d_M_formula_127 : decode y_M_formula.2.1 127 = .ok (.invokevirtual 296, 3) := by decide +kernel
theorem d_M_formula_130 : decode y_M_formula.2.1 130 = .ok (.ifCond .ne 42, 3) := by decide +kernel
theorem d_M_formula_133 : decode y_M_formula.2.1 133 = .ok (.aload_n 0, 1) := by decide +kernel
theorem d_M_formula_134 : decode y_M_formula.2.1 134 = .ok (.iload_n 3, 1) := by decide +kernel
theorem d_M_formula_135 : decode y_M_formula.2.1 135 = .ok (.invokestatic 252, 3) := by decide +kernel
theorem d_M_formula_138 : decode y_M_formula.2.1 138 = .ok (.invokevirtual 293, 3) := by decide +kernel
theorem d_M_formula_141 : decode y_M_formula.2.1 141 = .ok (.aload_n 0, 1) := by decide +kernel
theorem d_M_formula_142 : decode y_M_formula.2.1 142 = .ok (.getfield 39, 3) := by decide +kernel
theorem d_M_formula_145 : decode y_M_formula.2.1 145 = .ok (.aload_n 0, 1) := by decide +kernel
theorem d_M_formula_146 : decode y_M_formula.2.1 146 = .ok (.getfield 249, 3) := by decide +kernel
theorem d_M_formula_149 : decode y_M_formula.2.1 149 = .ok (.iload_n 3, 1) := by decide +kernel
theorem d_M_formula_150 : decode y_M_formula.2.1 150 = .ok (.iastore, 1) := by decide +kernel
theorem d_M_formula_151 : decode y_M_formula.2.1 151 = .ok (.aload_n 0, 1) := by decide +kernel
theorem d_M_formula_152 : decode y_M_formula.2.1 152 = .ok (.dup, 1) := by decide +kernel
theorem d_M_formula_153 : decode y_M_formula.2.1 153 = .ok (.getfield 249, 3) := by decide +kernel
theorem d_M_formula_156 : decode y_M_formula.2.1 156 = .ok (.iconst 1, 1) := by decide +kernel
theorem d_M_formula_157 : decode y_M_formula.2.1 157 = .ok (.iadd, 1) := by decide +kernel
theorem d_M_formula_158 : decode y_M_formula.2.1 158 = .ok (.putfield 249, 3) := by decide +kernel
theorem d_M_formula_161 : decode y_M_formula.2.1 161 = .ok (.aload_n 0, 1) := by decide +kernel
theorem d_M_formula_162 : decode y_M_formula.2.1 162 = .ok (.invokevirtual 225, 3) := by decide +kernel
theorem d_M_formula_165 : decode y_M_formula.2.1 165 = .ok (.aload_n 0, 1) := by decide +kernel
theorem d_M_formula_166 : decode y_M_formula.2.1 166 = .ok (.invokevirtual 284, 3) := by decide +kernel
theorem d_M_formula_169 : decode y_M_formula.2.1 169 = .ok (.goto 5, 3) := by decide +kernel
theorem d_M_formula_172 : decode y_M_formula.2.1 172 = .ok (.iconst 0, 1) := by decide +kernel
theorem d_M_formula_173 : decode y_M_formula.2.1 173 = .ok (.istore_n 2, 1) := by decide +kernel
theorem d_M_formula_174 : decode y_M_formula.2.1 174 = .ok (.goto (-124), 3) := by decide +kernel
theorem d_M_formula_177 : decode y_M_formula.2.1 177 = .ok (.aload_n 0, 1) := by decide +kernel
theorem d_M_formula_178 : decode y_M_formula.2.1 178 = .ok (.getfield 173, 3) := by decide +kernel
theorem d_M_formula_181 : decode y_M_formula.2.1 181 = .ok (.ifCond .ne 15, 3) := by decide +kernel
theorem d_M_formula_184 : decode y_M_formula.2.1 184 = .ok (.aload_n 0, 1) := by decide +kernel
theorem d_M_formula_185 : decode y_M_formula.2.1 185 = .ok (.invokevirtual 290, 3) := by decide +kernel
theorem d_M_formula_188 : decode y_M_formula.2.1 188 = .ok (.ifCond .eq 8, 3) := by decide +kernel
theorem d_M_formula_191 : decode y_M_formula.2.1 191 = .ok (.aload_n 0, 1) := by decide +kernel
theorem d_M_formula_192 : decode y_M_formula.2.1 192 = .ok (.iconst 2, 1) := by decide +kernel
theorem d_M_formula_193 : decode y_M_formula.2.1 193 = .ok (.invokevirtual 222, 3) := by decide +kernel
theorem d_M_formula_196 : decode y_M_formula.2.1 196 = .ok (.aload_n 0, 1) := by decide +kernel
theorem d_M_formula_197 : decode y_M_formula.2.1 197 = .ok (.getfield 173, 3) := by decide +kernel
theorem d_M_formula_200 : decode y_M_formula.2.1 200 = .ok (.ifCond .ne 8, 3) := by decide +kernel
theorem d_M_formula_203 : decode y_M_formula.2.1 203 = .ok (.aload_n 0, 1) := by decide +kernel
theorem d_M_formula_204 : decode y_M_formula.2.1 204 = .ok (.iconst 0, 1) := by decide +kernel
theorem d_M_formula_205 : decode y_M_formula.2.1 205 = .ok (.invokevirtual 293, 3) := by decide +kernel
theorem d_M_formula_208 : decode y_M_formula.2.1 208 = .ok (.return_, 1) := by decide +kernel

abbrev y_M_truth : MI := (⟨"CricketHayModel", "truth", "(Z)I"⟩, prog_14_method_33_code, 1, (some .int))
theorem hy_M_truth : y_M_truth.1.cls ≠ "java/lang/invoke/MethodHandle" ∧ y_M_truth.1.cls ≠ "java/lang/invoke/VarHandle" ∧ (parseMethodDescriptor y_M_truth.1.desc).map (fun d => d.parameters.length) = some 1 := by decide +kernel
theorem d_M_truth_0 : decode y_M_truth.2.1 0 = .ok (.iload_n 0, 1) := by decide +kernel
theorem d_M_truth_1 : decode y_M_truth.2.1 1 = .ok (.ifCond .eq 7, 3) := by decide +kernel
theorem d_M_truth_4 : decode y_M_truth.2.1 4 = .ok (.iconst 1, 1) := by decide +kernel
theorem d_M_truth_5 : decode y_M_truth.2.1 5 = .ok (.goto 4, 3) := by decide +kernel
theorem d_M_truth_8 : decode y_M_truth.2.1 8 = .ok (.iconst 0, 1) := by decide +kernel
theorem d_M_truth_9 : decode y_M_truth.2.1 9 = .ok (.ireturn, 1) := by decide +kernel

abbrev y_M_done : MI := (⟨"CricketHayModel", "done", "(III)I"⟩, prog_14_method_34_code, 3, (some .int))
theorem hy_M_done : y_M_done.1.cls ≠ "java/lang/invoke/MethodHandle" ∧ y_M_done.1.cls ≠ "java/lang/invoke/VarHandle" ∧ (parseMethodDescriptor y_M_done.1.desc).map (fun d => d.parameters.length) = some 3 := by decide +kernel
theorem d_M_done_0 : decode y_M_done.2.1 0 = .ok (.iload_n 0, 1) := by decide +kernel
theorem d_M_done_1 : decode y_M_done.2.1 1 = .ok (.tableswitch 214 37 62 #[143, 197, 214, 214, 214, 127, 119, 214, 123, 214, 131, 214, 214, 214, 214, 214, 214, 214, 214, 214, 214, 214, 214, 155, 183, 169], 119) := by decide +kernel
theorem d_M_done_120 : decode y_M_done.2.1 120 = .ok (.iload_n 1, 1) := by decide +kernel
theorem d_M_done_121 : decode y_M_done.2.1 121 = .ok (.iload_n 2, 1) := by decide +kernel
theorem d_M_done_122 : decode y_M_done.2.1 122 = .ok (.iadd, 1) := by decide +kernel
theorem d_M_done_123 : decode y_M_done.2.1 123 = .ok (.ireturn, 1) := by decide +kernel
theorem d_M_done_124 : decode y_M_done.2.1 124 = .ok (.iload_n 1, 1) := by decide +kernel
theorem d_M_done_125 : decode y_M_done.2.1 125 = .ok (.iload_n 2, 1) := by decide +kernel
theorem d_M_done_126 : decode y_M_done.2.1 126 = .ok (.isub, 1) := by decide +kernel
theorem d_M_done_127 : decode y_M_done.2.1 127 = .ok (.ireturn, 1) := by decide +kernel
theorem d_M_done_128 : decode y_M_done.2.1 128 = .ok (.iload_n 1, 1) := by decide +kernel
theorem d_M_done_129 : decode y_M_done.2.1 129 = .ok (.iload_n 2, 1) := by decide +kernel
theorem d_M_done_130 : decode y_M_done.2.1 130 = .ok (.imul, 1) := by decide +kernel
theorem d_M_done_131 : decode y_M_done.2.1 131 = .ok (.ireturn, 1) := by decide +kernel
theorem d_M_done_132 : decode y_M_done.2.1 132 = .ok (.iload_n 2, 1) := by decide +kernel
theorem d_M_done_133 : decode y_M_done.2.1 133 = .ok (.ifCond .ne 7, 3) := by decide +kernel
theorem d_M_done_136 : decode y_M_done.2.1 136 = .ok (.iconst 0, 1) := by decide +kernel
theorem d_M_done_137 : decode y_M_done.2.1 137 = .ok (.goto 6, 3) := by decide +kernel
theorem d_M_done_140 : decode y_M_done.2.1 140 = .ok (.iload_n 1, 1) := by decide +kernel
theorem d_M_done_141 : decode y_M_done.2.1 141 = .ok (.iload_n 2, 1) := by decide +kernel
theorem d_M_done_142 : decode y_M_done.2.1 142 = .ok (.idiv, 1) := by decide +kernel
theorem d_M_done_143 : decode y_M_done.2.1 143 = .ok (.ireturn, 1) := by decide +kernel
theorem d_M_done_144 : decode y_M_done.2.1 144 = .ok (.iload_n 2, 1) := by decide +kernel
theorem d_M_done_145 : decode y_M_done.2.1 145 = .ok (.ifCond .ne 7, 3) := by decide +kernel
theorem d_M_done_148 : decode y_M_done.2.1 148 = .ok (.iconst 0, 1) := by decide +kernel
theorem d_M_done_149 : decode y_M_done.2.1 149 = .ok (.goto 6, 3) := by decide +kernel
theorem d_M_done_152 : decode y_M_done.2.1 152 = .ok (.iload_n 1, 1) := by decide +kernel
theorem d_M_done_153 : decode y_M_done.2.1 153 = .ok (.iload_n 2, 1) := by decide +kernel
theorem d_M_done_154 : decode y_M_done.2.1 154 = .ok (.irem, 1) := by decide +kernel
theorem d_M_done_155 : decode y_M_done.2.1 155 = .ok (.ireturn, 1) := by decide +kernel
theorem d_M_done_156 : decode y_M_done.2.1 156 = .ok (.iload_n 1, 1) := by decide +kernel
theorem d_M_done_157 : decode y_M_done.2.1 157 = .ok (.iload_n 2, 1) := by decide +kernel
theorem d_M_done_158 : decode y_M_done.2.1 158 = .ok (.if_icmp .ge 7, 3) := by decide +kernel
theorem d_M_done_161 : decode y_M_done.2.1 161 = .ok (.iconst 1, 1) := by decide +kernel
theorem d_M_done_162 : decode y_M_done.2.1 162 = .ok (.goto 4, 3) := by decide +kernel
theorem d_M_done_165 : decode y_M_done.2.1 165 = .ok (.iconst 0, 1) := by decide +kernel
theorem d_M_done_166 : decode y_M_done.2.1 166 = .ok (.invokestatic 299, 3) := by decide +kernel
theorem d_M_done_169 : decode y_M_done.2.1 169 = .ok (.ireturn, 1) := by decide +kernel
theorem d_M_done_170 : decode y_M_done.2.1 170 = .ok (.iload_n 1, 1) := by decide +kernel
theorem d_M_done_171 : decode y_M_done.2.1 171 = .ok (.iload_n 2, 1) := by decide +kernel
theorem d_M_done_172 : decode y_M_done.2.1 172 = .ok (.if_icmp .le 7, 3) := by decide +kernel
theorem d_M_done_175 : decode y_M_done.2.1 175 = .ok (.iconst 1, 1) := by decide +kernel
theorem d_M_done_176 : decode y_M_done.2.1 176 = .ok (.goto 4, 3) := by decide +kernel
theorem d_M_done_179 : decode y_M_done.2.1 179 = .ok (.iconst 0, 1) := by decide +kernel
theorem d_M_done_180 : decode y_M_done.2.1 180 = .ok (.invokestatic 299, 3) := by decide +kernel
theorem d_M_done_183 : decode y_M_done.2.1 183 = .ok (.ireturn, 1) := by decide +kernel
theorem d_M_done_184 : decode y_M_done.2.1 184 = .ok (.iload_n 1, 1) := by decide +kernel
theorem d_M_done_185 : decode y_M_done.2.1 185 = .ok (.iload_n 2, 1) := by decide +kernel
theorem d_M_done_186 : decode y_M_done.2.1 186 = .ok (.if_icmp .ne 7, 3) := by decide +kernel
theorem d_M_done_189 : decode y_M_done.2.1 189 = .ok (.iconst 1, 1) := by decide +kernel
theorem d_M_done_190 : decode y_M_done.2.1 190 = .ok (.goto 4, 3) := by decide +kernel
theorem d_M_done_193 : decode y_M_done.2.1 193 = .ok (.iconst 0, 1) := by decide +kernel
theorem d_M_done_194 : decode y_M_done.2.1 194 = .ok (.invokestatic 299, 3) := by decide +kernel
theorem d_M_done_197 : decode y_M_done.2.1 197 = .ok (.ireturn, 1) := by decide +kernel
theorem d_M_done_198 : decode y_M_done.2.1 198 = .ok (.iload_n 1, 1) := by decide +kernel
theorem d_M_done_199 : decode y_M_done.2.1 199 = .ok (.ifCond .eq 11, 3) := by decide +kernel
theorem d_M_done_202 : decode y_M_done.2.1 202 = .ok (.iload_n 2, 1) := by decide +kernel
theorem d_M_done_203 : decode y_M_done.2.1 203 = .ok (.ifCond .eq 7, 3) := by decide +kernel
theorem d_M_done_206 : decode y_M_done.2.1 206 = .ok (.iconst 1, 1) := by decide +kernel
theorem d_M_done_207 : decode y_M_done.2.1 207 = .ok (.goto 4, 3) := by decide +kernel
theorem d_M_done_210 : decode y_M_done.2.1 210 = .ok (.iconst 0, 1) := by decide +kernel
theorem d_M_done_211 : decode y_M_done.2.1 211 = .ok (.invokestatic 299, 3) := by decide +kernel
theorem d_M_done_214 : decode y_M_done.2.1 214 = .ok (.ireturn, 1) := by decide +kernel
theorem d_M_done_215 : decode y_M_done.2.1 215 = .ok (.iload_n 1, 1) := by decide +kernel
theorem d_M_done_216 : decode y_M_done.2.1 216 = .ok (.ifCond .ne 7, 3) := by decide +kernel
theorem d_M_done_219 : decode y_M_done.2.1 219 = .ok (.iload_n 2, 1) := by decide +kernel
theorem d_M_done_220 : decode y_M_done.2.1 220 = .ok (.ifCond .eq 7, 3) := by decide +kernel
theorem d_M_done_223 : decode y_M_done.2.1 223 = .ok (.iconst 1, 1) := by decide +kernel
theorem d_M_done_224 : decode y_M_done.2.1 224 = .ok (.goto 4, 3) := by decide +kernel
theorem d_M_done_227 : decode y_M_done.2.1 227 = .ok (.iconst 0, 1) := by decide +kernel
theorem d_M_done_228 : decode y_M_done.2.1 228 = .ok (.invokestatic 299, 3) := by decide +kernel
theorem d_M_done_231 : decode y_M_done.2.1 231 = .ok (.ireturn, 1) := by decide +kernel

abbrev y_M_worked : MI := (⟨"CricketHayModel", "worked", "(II)I"⟩, prog_14_method_35_code, 5, (some .int))
theorem hy_M_worked : y_M_worked.1.cls ≠ "java/lang/invoke/MethodHandle" ∧ y_M_worked.1.cls ≠ "java/lang/invoke/VarHandle" ∧ (parseMethodDescriptor y_M_worked.1.desc).map (fun d => d.parameters.length) = some 2 := by decide +kernel
theorem d_M_worked_0 : decode y_M_worked.2.1 0 = .ok (.iconst 0, 1) := by decide +kernel
theorem d_M_worked_1 : decode y_M_worked.2.1 1 = .ok (.istore_n 3, 1) := by decide +kernel
theorem d_M_worked_2 : decode y_M_worked.2.1 2 = .ok (.aload_n 0, 1) := by decide +kernel
theorem d_M_worked_3 : decode y_M_worked.2.1 3 = .ok (.getfield 42, 3) := by decide +kernel
theorem d_M_worked_6 : decode y_M_worked.2.1 6 = .ok (.iconst 0, 1) := by decide +kernel
theorem d_M_worked_7 : decode y_M_worked.2.1 7 = .ok (.iload_n 2, 1) := by decide +kernel
theorem d_M_worked_8 : decode y_M_worked.2.1 8 = .ok (.iastore, 1) := by decide +kernel
theorem d_M_worked_9 : decode y_M_worked.2.1 9 = .ok (.sipush 320, 3) := by decide +kernel
theorem d_M_worked_12 : decode y_M_worked.2.1 12 = .ok (.iload_n 1, 1) := by decide +kernel
theorem d_M_worked_13 : decode y_M_worked.2.1 13 = .ok (.imul, 1) := by decide +kernel
theorem d_M_worked_14 : decode y_M_worked.2.1 14 = .ok (.istore 4, 2) := by decide +kernel
theorem d_M_worked_16 : decode y_M_worked.2.1 16 = .ok (.iload 4, 2) := by decide +kernel
theorem d_M_worked_18 : decode y_M_worked.2.1 18 = .ok (.sipush 320, 3) := by decide +kernel
theorem d_M_worked_21 : decode y_M_worked.2.1 21 = .ok (.iload_n 1, 1) := by decide +kernel
theorem d_M_worked_22 : decode y_M_worked.2.1 22 = .ok (.imul, 1) := by decide +kernel
theorem d_M_worked_23 : decode y_M_worked.2.1 23 = .ok (.aload_n 0, 1) := by decide +kernel
theorem d_M_worked_24 : decode y_M_worked.2.1 24 = .ok (.getfield 36, 3) := by decide +kernel
theorem d_M_worked_27 : decode y_M_worked.2.1 27 = .ok (.iload_n 1, 1) := by decide +kernel
theorem d_M_worked_28 : decode y_M_worked.2.1 28 = .ok (.iaload, 1) := by decide +kernel
theorem d_M_worked_29 : decode y_M_worked.2.1 29 = .ok (.iadd, 1) := by decide +kernel
theorem d_M_worked_30 : decode y_M_worked.2.1 30 = .ok (.if_icmp .ge 150, 3) := by decide +kernel
theorem d_M_worked_33 : decode y_M_worked.2.1 33 = .ok (.aload_n 0, 1) := by decide +kernel
theorem d_M_worked_34 : decode y_M_worked.2.1 34 = .ok (.getfield 30, 3) := by decide +kernel
theorem d_M_worked_37 : decode y_M_worked.2.1 37 = .ok (.iload 4, 2) := by decide +kernel
theorem d_M_worked_39 : decode y_M_worked.2.1 39 = .ok (.iaload, 1) := by decide +kernel
theorem d_M_worked_40 : decode y_M_worked.2.1 40 = .ok (.ifCond .eq 14, 3) := by decide +kernel
theorem d_M_worked_43 : decode y_M_worked.2.1 43 = .ok (.aload_n 0, 1) := by decide +kernel
theorem d_M_worked_44 : decode y_M_worked.2.1 44 = .ok (.getfield 30, 3) := by decide +kernel
theorem d_M_worked_47 : decode y_M_worked.2.1 47 = .ok (.iload 4, 2) := by decide +kernel
theorem d_M_worked_49 : decode y_M_worked.2.1 49 = .ok (.iaload, 1) := by decide +kernel
theorem d_M_worked_50 : decode y_M_worked.2.1 50 = .ok (.iconst 1, 1) := by decide +kernel
theorem d_M_worked_51 : decode y_M_worked.2.1 51 = .ok (.if_icmp .ne 47, 3) := by decide +kernel
theorem d_M_worked_54 : decode y_M_worked.2.1 54 = .ok (.aload_n 0, 1) := by decide +kernel
theorem d_M_worked_55 : decode y_M_worked.2.1 55 = .ok (.getfield 42, 3) := by decide +kernel
theorem d_M_worked_58 : decode y_M_worked.2.1 58 = .ok (.iload_n 3, 1) := by decide +kernel
theorem d_M_worked_59 : decode y_M_worked.2.1 59 = .ok (.aload_n 0, 1) := by decide +kernel
theorem d_M_worked_60 : decode y_M_worked.2.1 60 = .ok (.getfield 30, 3) := by decide +kernel
theorem d_M_worked_63 : decode y_M_worked.2.1 63 = .ok (.iload 4, 2) := by decide +kernel
theorem d_M_worked_65 : decode y_M_worked.2.1 65 = .ok (.iaload, 1) := by decide +kernel
theorem d_M_worked_66 : decode y_M_worked.2.1 66 = .ok (.ifCond .ne 13, 3) := by decide +kernel
theorem d_M_worked_69 : decode y_M_worked.2.1 69 = .ok (.aload_n 0, 1) := by decide +kernel
theorem d_M_worked_70 : decode y_M_worked.2.1 70 = .ok (.getfield 33, 3) := by decide +kernel
theorem d_M_worked_73 : decode y_M_worked.2.1 73 = .ok (.iload 4, 2) := by decide +kernel
theorem d_M_worked_75 : decode y_M_worked.2.1 75 = .ok (.iaload, 1) := by decide +kernel
theorem d_M_worked_76 : decode y_M_worked.2.1 76 = .ok (.goto 15, 3) := by decide +kernel
theorem d_M_worked_79 : decode y_M_worked.2.1 79 = .ok (.aload_n 0, 1) := by decide +kernel
theorem d_M_worked_80 : decode y_M_worked.2.1 80 = .ok (.getfield 49, 3) := by decide +kernel
theorem d_M_worked_83 : decode y_M_worked.2.1 83 = .ok (.aload_n 0, 1) := by decide +kernel
theorem d_M_worked_84 : decode y_M_worked.2.1 84 = .ok (.getfield 33, 3) := by decide +kernel
theorem d_M_worked_87 : decode y_M_worked.2.1 87 = .ok (.iload 4, 2) := by decide +kernel
theorem d_M_worked_89 : decode y_M_worked.2.1 89 = .ok (.iaload, 1) := by decide +kernel
theorem d_M_worked_90 : decode y_M_worked.2.1 90 = .ok (.iaload, 1) := by decide +kernel
theorem d_M_worked_91 : decode y_M_worked.2.1 91 = .ok (.iastore, 1) := by decide +kernel
theorem d_M_worked_92 : decode y_M_worked.2.1 92 = .ok (.iinc 3 1, 3) := by decide +kernel
theorem d_M_worked_95 : decode y_M_worked.2.1 95 = .ok (.goto 79, 3) := by decide +kernel
theorem d_M_worked_98 : decode y_M_worked.2.1 98 = .ok (.aload_n 0, 1) := by decide +kernel
theorem d_M_worked_99 : decode y_M_worked.2.1 99 = .ok (.getfield 30, 3) := by decide +kernel
theorem d_M_worked_102 : decode y_M_worked.2.1 102 = .ok (.iload 4, 2) := by decide +kernel
theorem d_M_worked_104 : decode y_M_worked.2.1 104 = .ok (.iaload, 1) := by decide +kernel
theorem d_M_worked_105 : decode y_M_worked.2.1 105 = .ok (.iconst 2, 1) := by decide +kernel
theorem d_M_worked_106 : decode y_M_worked.2.1 106 = .ok (.if_icmp .ne 33, 3) := by decide +kernel
theorem d_M_worked_109 : decode y_M_worked.2.1 109 = .ok (.aload_n 0, 1) := by decide +kernel
theorem d_M_worked_110 : decode y_M_worked.2.1 110 = .ok (.getfield 42, 3) := by decide +kernel
theorem d_M_worked_113 : decode y_M_worked.2.1 113 = .ok (.iload_n 3, 1) := by decide +kernel
theorem d_M_worked_114 : decode y_M_worked.2.1 114 = .ok (.iconst 1, 1) := by decide +kernel
theorem d_M_worked_115 : decode y_M_worked.2.1 115 = .ok (.isub, 1) := by decide +kernel
theorem d_M_worked_116 : decode y_M_worked.2.1 116 = .ok (.aload_n 0, 1) := by decide +kernel
theorem d_M_worked_117 : decode y_M_worked.2.1 117 = .ok (.getfield 42, 3) := by decide +kernel
theorem d_M_worked_120 : decode y_M_worked.2.1 120 = .ok (.iload_n 3, 1) := by decide +kernel
theorem d_M_worked_121 : decode y_M_worked.2.1 121 = .ok (.iconst 1, 1) := by decide +kernel
theorem d_M_worked_122 : decode y_M_worked.2.1 122 = .ok (.isub, 1) := by decide +kernel
theorem d_M_worked_123 : decode y_M_worked.2.1 123 = .ok (.iaload, 1) := by decide +kernel
theorem d_M_worked_124 : decode y_M_worked.2.1 124 = .ok (.ifCond .ne 7, 3) := by decide +kernel
theorem d_M_worked_127 : decode y_M_worked.2.1 127 = .ok (.iconst 1, 1) := by decide +kernel
theorem d_M_worked_128 : decode y_M_worked.2.1 128 = .ok (.goto 4, 3) := by decide +kernel
theorem d_M_worked_131 : decode y_M_worked.2.1 131 = .ok (.iconst 0, 1) := by decide +kernel
theorem d_M_worked_132 : decode y_M_worked.2.1 132 = .ok (.invokestatic 299, 3) := by decide +kernel
theorem d_M_worked_135 : decode y_M_worked.2.1 135 = .ok (.iastore, 1) := by decide +kernel
theorem d_M_worked_136 : decode y_M_worked.2.1 136 = .ok (.goto 38, 3) := by decide +kernel
theorem d_M_worked_139 : decode y_M_worked.2.1 139 = .ok (.iinc 3 (-1), 3) := by decide +kernel
theorem d_M_worked_142 : decode y_M_worked.2.1 142 = .ok (.aload_n 0, 1) := by decide +kernel
theorem d_M_worked_143 : decode y_M_worked.2.1 143 = .ok (.getfield 42, 3) := by decide +kernel
theorem d_M_worked_146 : decode y_M_worked.2.1 146 = .ok (.iload_n 3, 1) := by decide +kernel
theorem d_M_worked_147 : decode y_M_worked.2.1 147 = .ok (.iconst 1, 1) := by decide +kernel
theorem d_M_worked_148 : decode y_M_worked.2.1 148 = .ok (.isub, 1) := by decide +kernel
theorem d_M_worked_149 : decode y_M_worked.2.1 149 = .ok (.aload_n 0, 1) := by decide +kernel
theorem d_M_worked_150 : decode y_M_worked.2.1 150 = .ok (.getfield 33, 3) := by decide +kernel
theorem d_M_worked_153 : decode y_M_worked.2.1 153 = .ok (.iload 4, 2) := by decide +kernel
theorem d_M_worked_155 : decode y_M_worked.2.1 155 = .ok (.iaload, 1) := by decide +kernel
theorem d_M_worked_156 : decode y_M_worked.2.1 156 = .ok (.aload_n 0, 1) := by decide +kernel
theorem d_M_worked_157 : decode y_M_worked.2.1 157 = .ok (.getfield 42, 3) := by decide +kernel
theorem d_M_worked_160 : decode y_M_worked.2.1 160 = .ok (.iload_n 3, 1) := by decide +kernel
theorem d_M_worked_161 : decode y_M_worked.2.1 161 = .ok (.iconst 1, 1) := by decide +kernel
theorem d_M_worked_162 : decode y_M_worked.2.1 162 = .ok (.isub, 1) := by decide +kernel
theorem d_M_worked_163 : decode y_M_worked.2.1 163 = .ok (.iaload, 1) := by decide +kernel
theorem d_M_worked_164 : decode y_M_worked.2.1 164 = .ok (.aload_n 0, 1) := by decide +kernel
theorem d_M_worked_165 : decode y_M_worked.2.1 165 = .ok (.getfield 42, 3) := by decide +kernel
theorem d_M_worked_168 : decode y_M_worked.2.1 168 = .ok (.iload_n 3, 1) := by decide +kernel
theorem d_M_worked_169 : decode y_M_worked.2.1 169 = .ok (.iaload, 1) := by decide +kernel
theorem d_M_worked_170 : decode y_M_worked.2.1 170 = .ok (.invokestatic 303, 3) := by decide +kernel
theorem d_M_worked_173 : decode y_M_worked.2.1 173 = .ok (.iastore, 1) := by decide +kernel
theorem d_M_worked_174 : decode y_M_worked.2.1 174 = .ok (.iinc 4 1, 3) := by decide +kernel
theorem d_M_worked_177 : decode y_M_worked.2.1 177 = .ok (.goto (-161), 3) := by decide +kernel
theorem d_M_worked_180 : decode y_M_worked.2.1 180 = .ok (.aload_n 0, 1) := by decide +kernel
theorem d_M_worked_181 : decode y_M_worked.2.1 181 = .ok (.getfield 42, 3) := by decide +kernel
theorem d_M_worked_184 : decode y_M_worked.2.1 184 = .ok (.iconst 0, 1) := by decide +kernel
theorem d_M_worked_185 : decode y_M_worked.2.1 185 = .ok (.iaload, 1) := by decide +kernel
theorem d_M_worked_186 : decode y_M_worked.2.1 186 = .ok (.ireturn, 1) := by decide +kernel
def f_M_four_l3  (a1 : Int32)  : Nat → Int32 → AH → Option AH
  | 0, _, _ => none
  | n + 1, x2, h =>
    if x2 < 0 then
      some h
    else
      gx (hI h 383 1) 1600 <|
      lt (sI h 384 (ix (hI h 383 1)) ((a1 >>> (x2 &&& 31)) &&& (255 : Int32))) fun hq2 =>
      lt (sI hq2 383 1 ((hI hq2 383 1) + (1 : Int32))) fun hq3 =>
      lt (x2 + (-8 : Int32)) fun xq4 =>
      f_M_four_l3 a1 n xq4 hq3
set_option maxHeartbeats 2000000 in
theorem o_M_four_l3 {G : AE} {n : Nat} (hn : NN ≤ n)  {a1 : Int32}   : ∀ (n0 : Nat) (x2 : Int32) (h : AH), AJ G n y_M_four (1) φV 3 [some (.ref 383), some (.int a1), some (.int x2)] [] h (f_M_four_l3 a1 n0 x2 h) := by
  intro n0
  induction n0 with
  | zero => intros; exact r_none
  | succ n0 ih =>
    intro x2 h
    rw [f_M_four_l3]
    refine r_iload_n (pc := 3) (i := 2) d_M_four_3 rfl rfl ?_
    refine r_if_lt (pc := 4) (tgt := 39) d_M_four_4 (by rfl) ?_ ?_
    · exact r_vret (pc := 39) rfl d_M_four_39
    · refine r_aload_n (pc := 7) (i := 0) d_M_four_7 rfl rfl ?_
      refine r_getf (pc := 8) (ci := 12) (k := 0) (C := "CricketHayModel") (T := F_12) (N := 73) (v := .ref 384) (fun s => Std.k s (lc hn rfl) kq_383) rfl (Nat.le_of_ble_eq_true rfl) rfl w_1086 (fun s => vr rfl (Std.r s (lc hn rfl) rq_383_0)) d_M_four_8 ?_
      refine r_aload_n (pc := 11) (i := 0) d_M_four_11 rfl rfl ?_
      refine r_getf (pc := 12) (ci := 12) (k := 1) (C := "CricketHayModel") (T := F_12) (N := 73) (v := .int (hI h 383 1)) (fun s => Std.k s (lc hn rfl) kq_383) rfl (Nat.le_of_ble_eq_true rfl) rfl w_1087 (fun _ => rfl) d_M_four_12 ?_
      refine r_iload_n (pc := 15) (i := 1) d_M_four_15 rfl rfl ?_
      refine r_iload_n (pc := 16) (i := 2) d_M_four_16 rfl rfl ?_
      refine r_ishr (pc := 17) d_M_four_17 ?_
      refine r_sipush (pc := 18) (v := 255) d_M_four_18 (by rfl) ?_
      refine r_iand (pc := 21) d_M_four_21 ?_
      refine r_gx (fun zq1 => ?_)
      refine r_iast (pc := 22) (n := 1600) (i0 := (ix (hI h 383 1))) (fun s => Std.k s (lc hn rfl) kq_384) zq1 rfl (fun s => Std.sI s _ _ _) d_M_four_22 ?_
      refine r_ltH (fun hq2 => ?_)
      refine r_aload_n (pc := 23) (i := 0) d_M_four_23 rfl rfl ?_
      refine r_dup (pc := 24) d_M_four_24 rfl ?_
      refine r_getf (pc := 25) (ci := 12) (k := 1) (C := "CricketHayModel") (T := F_12) (N := 73) (v := .int (hI hq2 383 1)) (fun s => Std.k s (lc hn rfl) kq_383) rfl (Nat.le_of_ble_eq_true rfl) rfl w_1087 (fun _ => rfl) d_M_four_25 ?_
      refine r_iconst (pc := 28) (v := 1) d_M_four_28 (by rfl) ?_
      refine r_iadd (pc := 29) d_M_four_29 ?_
      refine r_putI (pc := 30) (ci := 12) (k := 1) (C := "CricketHayModel") (T := F_12) (N := 73) (fun s => Std.k s (lc hn rfl) kq_383) rfl (Nat.le_of_ble_eq_true rfl) rfl rfl w_1087 (fun _ _ => rfl) (fun _ => rfl) (fun _ => rfl) (fun s => Std.sI s _ _ _) d_M_four_30 ?_
      refine r_ltH (fun hq3 => ?_)
      refine r_ltE (fun xq4 exq4 => ?_)
      refine r_iinc (pc := 33) (v := xq4) (lv1 := [some (.ref 383), some (.int a1), some (.int xq4)]) d_M_four_33 rfl exq4.symm (Nat.le_of_ble_eq_true rfl) rfl ?_
      refine r_goto (pc := 36) (tgt := 3) d_M_four_36 (by rfl) ?_
      exact r_wk (ih xq4 hq3) ⟨rfl, ⟨rfl, ⟨rfl, trivial⟩⟩⟩
def f_M_four  (a1 : Int32) (h : AH) : Option AH :=
  f_M_four_l3 a1 FU (24 : Int32) h
set_option maxHeartbeats 2000000 in
theorem ok_M_four {G : AE} {n : Nat} (hn : NN ≤ n)  (a1 : Int32) (h : AH) : OK G n y_M_four (1) φV [.ref 383, .int a1] h (f_M_four a1 h) := by
  refine ok_of (y := y_M_four) (lv0 := [some (.ref 383), some (.int a1), none]) (by decide +kernel) (Nat.le_of_ble_eq_true rfl) ⟨rfl, ⟨rfl, trivial⟩⟩ ?_
  rw [f_M_four]
  refine r_bipush (pc := 0) (v := 24) d_M_four_0 (by rfl) ?_
  refine r_istore_n (pc := 2) (i := 2) (lv1 := [some (.ref 383), some (.int a1), some (.int (24 : Int32))]) d_M_four_2 rfl (Nat.le_of_ble_eq_true rfl) rfl ?_
  exact r_wk (o_M_four_l3 hn FU (24 : Int32) h) ⟨rfl, ⟨rfl, ⟨rfl, trivial⟩⟩⟩

def f_M_feed  (a1 : Int32) (a2 : Int32) (a3 : Int32) (a4 : Int32) (a5 : Int32) (h : AH) : Option (Int32 × AH) :=
  if ((hI h 383 1) + (20 : Int32)) ≤ (1600 : Int32) then
    bV (f_M_four a1 h) fun hq1 =>
    bV (f_M_four a2 hq1) fun hq2 =>
    bV (f_M_four a3 hq2) fun hq3 =>
    bV (f_M_four a4 hq3) fun hq4 =>
    bV (f_M_four a5 hq4) fun hq5 =>
    some ((hI hq5 383 1), hq5)
  else
    some ((-1 : Int32), h)
set_option maxHeartbeats 2000000 in
theorem ok_M_feed {G : AE} {n : Nat} (hn : NN ≤ n)  (a1 : Int32) (a2 : Int32) (a3 : Int32) (a4 : Int32) (a5 : Int32) (h : AH) : OK G n y_M_feed (2) φI [.ref 383, .int a1, .int a2, .int a3, .int a4, .int a5] h (f_M_feed a1 a2 a3 a4 a5 h) := by
  refine ok_of (y := y_M_feed) (lv0 := [some (.ref 383), some (.int a1), some (.int a2), some (.int a3), some (.int a4), some (.int a5)]) (by decide +kernel) (Nat.le_of_ble_eq_true rfl) ⟨rfl, ⟨rfl, ⟨rfl, ⟨rfl, ⟨rfl, ⟨rfl, trivial⟩⟩⟩⟩⟩⟩ ?_
  rw [f_M_feed]
  refine r_aload_n (pc := 0) (i := 0) d_M_feed_0 rfl rfl ?_
  refine r_getf (pc := 1) (ci := 12) (k := 1) (C := "CricketHayModel") (T := F_12) (N := 73) (v := .int (hI h 383 1)) (fun s => Std.k s (lc hn rfl) kq_383) rfl (Nat.le_of_ble_eq_true rfl) rfl w_1087 (fun _ => rfl) d_M_feed_1 ?_
  refine r_bipush (pc := 4) (v := 20) d_M_feed_4 (by rfl) ?_
  refine r_iadd (pc := 6) d_M_feed_6 ?_
  refine r_sipush (pc := 7) (v := 1600) d_M_feed_7 (by rfl) ?_
  refine r_icmp_le (pc := 10) (tgt := 15) d_M_feed_10 (by rfl) ?_ ?_
  · refine r_aload_n (pc := 15) (i := 0) d_M_feed_15 rfl rfl ?_
    refine r_iload_n (pc := 16) (i := 1) d_M_feed_16 rfl rfl ?_
    refine r_cVv (pc := 17) (T := F_12) (N := 73) (st := []) (ok_M_four hn a1 h) (fun s => Std.k s (lc hn rfl) kq_383) rfl w_1313 w_13 w_1310 w_1312 ws_46 hy_M_four ⟨Nat.le_of_ble_eq_true rfl, Nat.le_of_ble_eq_true rfl⟩ ⟨Nat.le_of_ble_eq_true rfl, Nat.le_of_ble_eq_true rfl⟩ rfl (Nat.le_of_ble_eq_true rfl) d_M_feed_17 (fun hq1 => ?_)
    refine r_aload_n (pc := 20) (i := 0) d_M_feed_20 rfl rfl ?_
    refine r_iload_n (pc := 21) (i := 2) d_M_feed_21 rfl rfl ?_
    refine r_cVv (pc := 22) (T := F_12) (N := 73) (st := []) (ok_M_four hn a2 hq1) (fun s => Std.k s (lc hn rfl) kq_383) rfl w_1313 w_13 w_1310 w_1312 ws_46 hy_M_four ⟨Nat.le_of_ble_eq_true rfl, Nat.le_of_ble_eq_true rfl⟩ ⟨Nat.le_of_ble_eq_true rfl, Nat.le_of_ble_eq_true rfl⟩ rfl (Nat.le_of_ble_eq_true rfl) d_M_feed_22 (fun hq2 => ?_)
    refine r_aload_n (pc := 25) (i := 0) d_M_feed_25 rfl rfl ?_
    refine r_iload_n (pc := 26) (i := 3) d_M_feed_26 rfl rfl ?_
    refine r_cVv (pc := 27) (T := F_12) (N := 73) (st := []) (ok_M_four hn a3 hq2) (fun s => Std.k s (lc hn rfl) kq_383) rfl w_1313 w_13 w_1310 w_1312 ws_46 hy_M_four ⟨Nat.le_of_ble_eq_true rfl, Nat.le_of_ble_eq_true rfl⟩ ⟨Nat.le_of_ble_eq_true rfl, Nat.le_of_ble_eq_true rfl⟩ rfl (Nat.le_of_ble_eq_true rfl) d_M_feed_27 (fun hq3 => ?_)
    refine r_aload_n (pc := 30) (i := 0) d_M_feed_30 rfl rfl ?_
    refine r_iload (pc := 31) d_M_feed_31 rfl ?_
    refine r_cVv (pc := 33) (T := F_12) (N := 73) (st := []) (ok_M_four hn a4 hq3) (fun s => Std.k s (lc hn rfl) kq_383) rfl w_1313 w_13 w_1310 w_1312 ws_46 hy_M_four ⟨Nat.le_of_ble_eq_true rfl, Nat.le_of_ble_eq_true rfl⟩ ⟨Nat.le_of_ble_eq_true rfl, Nat.le_of_ble_eq_true rfl⟩ rfl (Nat.le_of_ble_eq_true rfl) d_M_feed_33 (fun hq4 => ?_)
    refine r_aload_n (pc := 36) (i := 0) d_M_feed_36 rfl rfl ?_
    refine r_iload (pc := 37) d_M_feed_37 rfl ?_
    refine r_cVv (pc := 39) (T := F_12) (N := 73) (st := []) (ok_M_four hn a5 hq4) (fun s => Std.k s (lc hn rfl) kq_383) rfl w_1313 w_13 w_1310 w_1312 ws_46 hy_M_four ⟨Nat.le_of_ble_eq_true rfl, Nat.le_of_ble_eq_true rfl⟩ ⟨Nat.le_of_ble_eq_true rfl, Nat.le_of_ble_eq_true rfl⟩ rfl (Nat.le_of_ble_eq_true rfl) d_M_feed_39 (fun hq5 => ?_)
    refine r_aload_n (pc := 42) (i := 0) d_M_feed_42 rfl rfl ?_
    refine r_getf (pc := 43) (ci := 12) (k := 1) (C := "CricketHayModel") (T := F_12) (N := 73) (v := .int (hI hq5 383 1)) (fun s => Std.k s (lc hn rfl) kq_383) rfl (Nat.le_of_ble_eq_true rfl) rfl w_1087 (fun _ => rfl) d_M_feed_43 ?_
    exact r_iret (pc := 46) rfl d_M_feed_46
  · refine r_iconst (pc := 13) (v := -1) d_M_feed_13 (by rfl) ?_
    exact r_iret (pc := 14) rfl d_M_feed_14

def f_M_end  (a1 : Int32) (h : AH) : Option (Int32 × AH) :=
  if a1 < 0 then
    some ((-1 : Int32), h)
  else
    if a1 ≤ (hI h 383 1) then
      lt (sI h 383 1 a1) fun hq1 =>
      some (a1, hq1)
    else
      some ((-1 : Int32), h)
set_option maxHeartbeats 2000000 in
theorem ok_M_end {G : AE} {n : Nat} (hn : NN ≤ n)  (a1 : Int32) (h : AH) : OK G n y_M_end (1) φI [.ref 383, .int a1] h (f_M_end a1 h) := by
  refine ok_of (y := y_M_end) (lv0 := [some (.ref 383), some (.int a1)]) (by decide +kernel) (Nat.le_of_ble_eq_true rfl) ⟨rfl, ⟨rfl, trivial⟩⟩ ?_
  rw [f_M_end]
  refine r_iload_n (pc := 0) (i := 1) d_M_end_0 rfl rfl ?_
  refine r_if_lt (pc := 1) (tgt := 12) d_M_end_1 (by rfl) ?_ ?_
  · refine r_iconst (pc := 12) (v := -1) d_M_end_12 (by rfl) ?_
    exact r_iret (pc := 13) rfl d_M_end_13
  · refine r_iload_n (pc := 4) (i := 1) d_M_end_4 rfl rfl ?_
    refine r_aload_n (pc := 5) (i := 0) d_M_end_5 rfl rfl ?_
    refine r_getf (pc := 6) (ci := 12) (k := 1) (C := "CricketHayModel") (T := F_12) (N := 73) (v := .int (hI h 383 1)) (fun s => Std.k s (lc hn rfl) kq_383) rfl (Nat.le_of_ble_eq_true rfl) rfl w_1087 (fun _ => rfl) d_M_end_6 ?_
    refine r_icmp_le (pc := 9) (tgt := 14) d_M_end_9 (by rfl) ?_ ?_
    · refine r_aload_n (pc := 14) (i := 0) d_M_end_14 rfl rfl ?_
      refine r_iload_n (pc := 15) (i := 1) d_M_end_15 rfl rfl ?_
      refine r_putI (pc := 16) (ci := 12) (k := 1) (C := "CricketHayModel") (T := F_12) (N := 73) (fun s => Std.k s (lc hn rfl) kq_383) rfl (Nat.le_of_ble_eq_true rfl) rfl rfl w_1087 (fun _ _ => rfl) (fun _ => rfl) (fun _ => rfl) (fun s => Std.sI s _ _ _) d_M_end_16 ?_
      refine r_ltH (fun hq1 => ?_)
      refine r_iload_n (pc := 19) (i := 1) d_M_end_19 rfl rfl ?_
      exact r_iret (pc := 20) rfl d_M_end_20
    · refine r_iconst (pc := 12) (v := -1) d_M_end_12 (by rfl) ?_
      exact r_iret (pc := 13) rfl d_M_end_13

def f_M_here  (a1 : Int32) (h : AH) : Option (Int32 × AH) :=
  if (hI h 383 5) ≤ ((hI h 383 4) + a1) then
    some ((-1 : Int32), h)
  else
    gx ((hI h 383 4) + a1) 1600 <|
    some ((hI h 384 (ix ((hI h 383 4) + a1))), h)
set_option maxHeartbeats 2000000 in
theorem ok_M_here {G : AE} {n : Nat} (hn : NN ≤ n)  (a1 : Int32) (h : AH) : OK G n y_M_here (1) φI [.ref 383, .int a1] h (f_M_here a1 h) := by
  refine ok_of (y := y_M_here) (lv0 := [some (.ref 383), some (.int a1)]) (by decide +kernel) (Nat.le_of_ble_eq_true rfl) ⟨rfl, ⟨rfl, trivial⟩⟩ ?_
  rw [f_M_here]
  refine r_aload_n (pc := 0) (i := 0) d_M_here_0 rfl rfl ?_
  refine r_getf (pc := 1) (ci := 12) (k := 4) (C := "CricketHayModel") (T := F_12) (N := 73) (v := .int (hI h 383 4)) (fun s => Std.k s (lc hn rfl) kq_383) rfl (Nat.le_of_ble_eq_true rfl) rfl w_1090 (fun _ => rfl) d_M_here_1 ?_
  refine r_iload_n (pc := 4) (i := 1) d_M_here_4 rfl rfl ?_
  refine r_iadd (pc := 5) d_M_here_5 ?_
  refine r_aload_n (pc := 6) (i := 0) d_M_here_6 rfl rfl ?_
  refine r_getf (pc := 7) (ci := 12) (k := 5) (C := "CricketHayModel") (T := F_12) (N := 73) (v := .int (hI h 383 5)) (fun s => Std.k s (lc hn rfl) kq_383) rfl (Nat.le_of_ble_eq_true rfl) rfl w_1091 (fun _ => rfl) d_M_here_7 ?_
  refine r_icmp_ge (pc := 10) (tgt := 27) d_M_here_10 (by rfl) ?_ ?_
  · refine r_iconst (pc := 27) (v := -1) d_M_here_27 (by rfl) ?_
    exact r_iret (pc := 28) rfl d_M_here_28
  · refine r_aload_n (pc := 13) (i := 0) d_M_here_13 rfl rfl ?_
    refine r_getf (pc := 14) (ci := 12) (k := 0) (C := "CricketHayModel") (T := F_12) (N := 73) (v := .ref 384) (fun s => Std.k s (lc hn rfl) kq_383) rfl (Nat.le_of_ble_eq_true rfl) rfl w_1086 (fun s => vr rfl (Std.r s (lc hn rfl) rq_383_0)) d_M_here_14 ?_
    refine r_aload_n (pc := 17) (i := 0) d_M_here_17 rfl rfl ?_
    refine r_getf (pc := 18) (ci := 12) (k := 4) (C := "CricketHayModel") (T := F_12) (N := 73) (v := .int (hI h 383 4)) (fun s => Std.k s (lc hn rfl) kq_383) rfl (Nat.le_of_ble_eq_true rfl) rfl w_1090 (fun _ => rfl) d_M_here_18 ?_
    refine r_iload_n (pc := 21) (i := 1) d_M_here_21 rfl rfl ?_
    refine r_iadd (pc := 22) d_M_here_22 ?_
    refine r_gx (fun zq1 => ?_)
    refine r_iald (pc := 23) (n := 1600) (i0 := (ix ((hI h 383 4) + a1))) (fun s => Std.k s (lc hn rfl) kq_384) zq1 rfl d_M_here_23 ?_
    refine r_goto (pc := 24) (tgt := 28) d_M_here_24 (by rfl) ?_
    exact r_iret (pc := 28) rfl d_M_here_28

def f_M_isLetter  (a0 : Int32) (h : AH) : Option (Int32 × AH) :=
  if a0 < (97 : Int32) then
    some ((0 : Int32), h)
  else
    if (122 : Int32) < a0 then
      some ((0 : Int32), h)
    else
      some ((1 : Int32), h)
set_option maxHeartbeats 2000000 in
theorem ok_M_isLetter {G : AE} {n : Nat} (hn : NN ≤ n)  (a0 : Int32) (h : AH) : OK G n y_M_isLetter (1) φI [.int a0] h (f_M_isLetter a0 h) := by
  refine ok_of (y := y_M_isLetter) (lv0 := [some (.int a0)]) (by decide +kernel) (Nat.le_of_ble_eq_true rfl) ⟨rfl, trivial⟩ ?_
  rw [f_M_isLetter]
  refine r_iload_n (pc := 0) (i := 0) d_M_isLetter_0 rfl rfl ?_
  refine r_bipush (pc := 1) (v := 97) d_M_isLetter_1 (by rfl) ?_
  refine r_icmp_lt (pc := 3) (tgt := 16) d_M_isLetter_3 (by rfl) ?_ ?_
  · refine r_iconst (pc := 16) (v := 0) d_M_isLetter_16 (by rfl) ?_
    exact r_zret (pc := 17) rfl rfl d_M_isLetter_17
  · refine r_iload_n (pc := 6) (i := 0) d_M_isLetter_6 rfl rfl ?_
    refine r_bipush (pc := 7) (v := 122) d_M_isLetter_7 (by rfl) ?_
    refine r_icmp_gt (pc := 9) (tgt := 16) d_M_isLetter_9 (by rfl) ?_ ?_
    · refine r_iconst (pc := 16) (v := 0) d_M_isLetter_16 (by rfl) ?_
      exact r_zret (pc := 17) rfl rfl d_M_isLetter_17
    · refine r_iconst (pc := 12) (v := 1) d_M_isLetter_12 (by rfl) ?_
      refine r_goto (pc := 13) (tgt := 17) d_M_isLetter_13 (by rfl) ?_
      exact r_zret (pc := 17) rfl rfl d_M_isLetter_17

def f_M_isDigit  (a0 : Int32) (h : AH) : Option (Int32 × AH) :=
  if a0 < (48 : Int32) then
    some ((0 : Int32), h)
  else
    if (57 : Int32) < a0 then
      some ((0 : Int32), h)
    else
      some ((1 : Int32), h)
set_option maxHeartbeats 2000000 in
theorem ok_M_isDigit {G : AE} {n : Nat} (hn : NN ≤ n)  (a0 : Int32) (h : AH) : OK G n y_M_isDigit (1) φI [.int a0] h (f_M_isDigit a0 h) := by
  refine ok_of (y := y_M_isDigit) (lv0 := [some (.int a0)]) (by decide +kernel) (Nat.le_of_ble_eq_true rfl) ⟨rfl, trivial⟩ ?_
  rw [f_M_isDigit]
  refine r_iload_n (pc := 0) (i := 0) d_M_isDigit_0 rfl rfl ?_
  refine r_bipush (pc := 1) (v := 48) d_M_isDigit_1 (by rfl) ?_
  refine r_icmp_lt (pc := 3) (tgt := 16) d_M_isDigit_3 (by rfl) ?_ ?_
  · refine r_iconst (pc := 16) (v := 0) d_M_isDigit_16 (by rfl) ?_
    exact r_zret (pc := 17) rfl rfl d_M_isDigit_17
  · refine r_iload_n (pc := 6) (i := 0) d_M_isDigit_6 rfl rfl ?_
    refine r_bipush (pc := 7) (v := 57) d_M_isDigit_7 (by rfl) ?_
    refine r_icmp_gt (pc := 9) (tgt := 16) d_M_isDigit_9 (by rfl) ?_ ?_
    · refine r_iconst (pc := 16) (v := 0) d_M_isDigit_16 (by rfl) ?_
      exact r_zret (pc := 17) rfl rfl d_M_isDigit_17
    · refine r_iconst (pc := 12) (v := 1) d_M_isDigit_12 (by rfl) ?_
      refine r_goto (pc := 13) (tgt := 17) d_M_isDigit_13 (by rfl) ?_
      exact r_zret (pc := 17) rfl rfl d_M_isDigit_17

def f_M_isSign  (a0 : Int32) (h : AH) : Option (Int32 × AH) :=
  if a0 = (59 : Int32) then
    some ((1 : Int32), h)
  else
    if a0 = (40 : Int32) then
      some ((1 : Int32), h)
    else
      if a0 = (41 : Int32) then
        some ((1 : Int32), h)
      else
        if a0 = (60 : Int32) then
          some ((1 : Int32), h)
        else
          if a0 = (62 : Int32) then
            some ((1 : Int32), h)
          else
            if a0 = (61 : Int32) then
              some ((1 : Int32), h)
            else
              if a0 = (43 : Int32) then
                some ((1 : Int32), h)
              else
                if a0 = (45 : Int32) then
                  some ((1 : Int32), h)
                else
                  if a0 = (42 : Int32) then
                    some ((1 : Int32), h)
                  else
                    if a0 = (47 : Int32) then
                      some ((1 : Int32), h)
                    else
                      if ¬ a0 = (37 : Int32) then
                        some ((0 : Int32), h)
                      else
                        some ((1 : Int32), h)
set_option maxHeartbeats 2000000 in
theorem ok_M_isSign {G : AE} {n : Nat} (hn : NN ≤ n)  (a0 : Int32) (h : AH) : OK G n y_M_isSign (1) φI [.int a0] h (f_M_isSign a0 h) := by
  refine ok_of (y := y_M_isSign) (lv0 := [some (.int a0)]) (by decide +kernel) (Nat.le_of_ble_eq_true rfl) ⟨rfl, trivial⟩ ?_
  rw [f_M_isSign]
  refine r_iload_n (pc := 0) (i := 0) d_M_isSign_0 rfl rfl ?_
  refine r_bipush (pc := 1) (v := 59) d_M_isSign_1 (by rfl) ?_
  refine r_icmp_eq (pc := 3) (tgt := 66) d_M_isSign_3 (by rfl) ?_ ?_
  · refine r_iconst (pc := 66) (v := 1) d_M_isSign_66 (by rfl) ?_
    refine r_goto (pc := 67) (tgt := 71) d_M_isSign_67 (by rfl) ?_
    exact r_zret (pc := 71) rfl rfl d_M_isSign_71
  · refine r_iload_n (pc := 6) (i := 0) d_M_isSign_6 rfl rfl ?_
    refine r_bipush (pc := 7) (v := 40) d_M_isSign_7 (by rfl) ?_
    refine r_icmp_eq (pc := 9) (tgt := 66) d_M_isSign_9 (by rfl) ?_ ?_
    · refine r_iconst (pc := 66) (v := 1) d_M_isSign_66 (by rfl) ?_
      refine r_goto (pc := 67) (tgt := 71) d_M_isSign_67 (by rfl) ?_
      exact r_zret (pc := 71) rfl rfl d_M_isSign_71
    · refine r_iload_n (pc := 12) (i := 0) d_M_isSign_12 rfl rfl ?_
      refine r_bipush (pc := 13) (v := 41) d_M_isSign_13 (by rfl) ?_
      refine r_icmp_eq (pc := 15) (tgt := 66) d_M_isSign_15 (by rfl) ?_ ?_
      · refine r_iconst (pc := 66) (v := 1) d_M_isSign_66 (by rfl) ?_
        refine r_goto (pc := 67) (tgt := 71) d_M_isSign_67 (by rfl) ?_
        exact r_zret (pc := 71) rfl rfl d_M_isSign_71
      · refine r_iload_n (pc := 18) (i := 0) d_M_isSign_18 rfl rfl ?_
        refine r_bipush (pc := 19) (v := 60) d_M_isSign_19 (by rfl) ?_
        refine r_icmp_eq (pc := 21) (tgt := 66) d_M_isSign_21 (by rfl) ?_ ?_
        · refine r_iconst (pc := 66) (v := 1) d_M_isSign_66 (by rfl) ?_
          refine r_goto (pc := 67) (tgt := 71) d_M_isSign_67 (by rfl) ?_
          exact r_zret (pc := 71) rfl rfl d_M_isSign_71
        · refine r_iload_n (pc := 24) (i := 0) d_M_isSign_24 rfl rfl ?_
          refine r_bipush (pc := 25) (v := 62) d_M_isSign_25 (by rfl) ?_
          refine r_icmp_eq (pc := 27) (tgt := 66) d_M_isSign_27 (by rfl) ?_ ?_
          · refine r_iconst (pc := 66) (v := 1) d_M_isSign_66 (by rfl) ?_
            refine r_goto (pc := 67) (tgt := 71) d_M_isSign_67 (by rfl) ?_
            exact r_zret (pc := 71) rfl rfl d_M_isSign_71
          · refine r_iload_n (pc := 30) (i := 0) d_M_isSign_30 rfl rfl ?_
            refine r_bipush (pc := 31) (v := 61) d_M_isSign_31 (by rfl) ?_
            refine r_icmp_eq (pc := 33) (tgt := 66) d_M_isSign_33 (by rfl) ?_ ?_
            · refine r_iconst (pc := 66) (v := 1) d_M_isSign_66 (by rfl) ?_
              refine r_goto (pc := 67) (tgt := 71) d_M_isSign_67 (by rfl) ?_
              exact r_zret (pc := 71) rfl rfl d_M_isSign_71
            · refine r_iload_n (pc := 36) (i := 0) d_M_isSign_36 rfl rfl ?_
              refine r_bipush (pc := 37) (v := 43) d_M_isSign_37 (by rfl) ?_
              refine r_icmp_eq (pc := 39) (tgt := 66) d_M_isSign_39 (by rfl) ?_ ?_
              · refine r_iconst (pc := 66) (v := 1) d_M_isSign_66 (by rfl) ?_
                refine r_goto (pc := 67) (tgt := 71) d_M_isSign_67 (by rfl) ?_
                exact r_zret (pc := 71) rfl rfl d_M_isSign_71
              · refine r_iload_n (pc := 42) (i := 0) d_M_isSign_42 rfl rfl ?_
                refine r_bipush (pc := 43) (v := 45) d_M_isSign_43 (by rfl) ?_
                refine r_icmp_eq (pc := 45) (tgt := 66) d_M_isSign_45 (by rfl) ?_ ?_
                · refine r_iconst (pc := 66) (v := 1) d_M_isSign_66 (by rfl) ?_
                  refine r_goto (pc := 67) (tgt := 71) d_M_isSign_67 (by rfl) ?_
                  exact r_zret (pc := 71) rfl rfl d_M_isSign_71
                · refine r_iload_n (pc := 48) (i := 0) d_M_isSign_48 rfl rfl ?_
                  refine r_bipush (pc := 49) (v := 42) d_M_isSign_49 (by rfl) ?_
                  refine r_icmp_eq (pc := 51) (tgt := 66) d_M_isSign_51 (by rfl) ?_ ?_
                  · refine r_iconst (pc := 66) (v := 1) d_M_isSign_66 (by rfl) ?_
                    refine r_goto (pc := 67) (tgt := 71) d_M_isSign_67 (by rfl) ?_
                    exact r_zret (pc := 71) rfl rfl d_M_isSign_71
                  · refine r_iload_n (pc := 54) (i := 0) d_M_isSign_54 rfl rfl ?_
                    refine r_bipush (pc := 55) (v := 47) d_M_isSign_55 (by rfl) ?_
                    refine r_icmp_eq (pc := 57) (tgt := 66) d_M_isSign_57 (by rfl) ?_ ?_
                    · refine r_iconst (pc := 66) (v := 1) d_M_isSign_66 (by rfl) ?_
                      refine r_goto (pc := 67) (tgt := 71) d_M_isSign_67 (by rfl) ?_
                      exact r_zret (pc := 71) rfl rfl d_M_isSign_71
                    · refine r_iload_n (pc := 60) (i := 0) d_M_isSign_60 rfl rfl ?_
                      refine r_bipush (pc := 61) (v := 37) d_M_isSign_61 (by rfl) ?_
                      refine r_icmp_ne (pc := 63) (tgt := 70) d_M_isSign_63 (by rfl) ?_ ?_
                      · refine r_iconst (pc := 70) (v := 0) d_M_isSign_70 (by rfl) ?_
                        exact r_zret (pc := 71) rfl rfl d_M_isSign_71
                      · refine r_iconst (pc := 66) (v := 1) d_M_isSign_66 (by rfl) ?_
                        refine r_goto (pc := 67) (tgt := 71) d_M_isSign_67 (by rfl) ?_
                        exact r_zret (pc := 71) rfl rfl d_M_isSign_71

def f_M_token_b232    (x2 : Int32) (h : AH) : Option AH :=
  if (hI h 383 6) = (3 : Int32) then
    some h
  else
    lt (sI h 383 4 ((hI h 383 4) + x2)) fun hq1 =>
    some hq1
set_option maxHeartbeats 2000000 in
theorem o_M_token_b232 {G : AE} {n : Nat} (hn : NN ≤ n)     : ∀ (x2 : Int32) (h : AH), AJ G n y_M_token (2) φV 232 [some (.ref 383), none, some (.int x2)] [] h (f_M_token_b232 x2 h) := by
  intro x2 h
  rw [f_M_token_b232]
  refine r_aload_n (pc := 232) (i := 0) d_M_token_232 rfl rfl ?_
  refine r_getf (pc := 233) (ci := 12) (k := 6) (C := "CricketHayModel") (T := F_12) (N := 73) (v := .int (hI h 383 6)) (fun s => Std.k s (lc hn rfl) kq_383) rfl (Nat.le_of_ble_eq_true rfl) rfl w_1092 (fun _ => rfl) d_M_token_233 ?_
  refine r_iconst (pc := 236) (v := 3) d_M_token_236 (by rfl) ?_
  refine r_icmp_eq (pc := 237) (tgt := 250) d_M_token_237 (by rfl) ?_ ?_
  · exact r_vret (pc := 250) rfl d_M_token_250
  · refine r_aload_n (pc := 240) (i := 0) d_M_token_240 rfl rfl ?_
    refine r_dup (pc := 241) d_M_token_241 rfl ?_
    refine r_getf (pc := 242) (ci := 12) (k := 4) (C := "CricketHayModel") (T := F_12) (N := 73) (v := .int (hI h 383 4)) (fun s => Std.k s (lc hn rfl) kq_383) rfl (Nat.le_of_ble_eq_true rfl) rfl w_1090 (fun _ => rfl) d_M_token_242 ?_
    refine r_iload_n (pc := 245) (i := 2) d_M_token_245 rfl rfl ?_
    refine r_iadd (pc := 246) d_M_token_246 ?_
    refine r_putI (pc := 247) (ci := 12) (k := 4) (C := "CricketHayModel") (T := F_12) (N := 73) (fun s => Std.k s (lc hn rfl) kq_383) rfl (Nat.le_of_ble_eq_true rfl) rfl rfl w_1090 (fun _ _ => rfl) (fun _ => rfl) (fun _ => rfl) (fun s => Std.sI s _ _ _) d_M_token_247 ?_
    refine r_ltH (fun hq1 => ?_)
    exact r_vret (pc := 250) rfl d_M_token_250
def f_M_token_b229    (x2 : Int32) (v1 : Int32) (h : AH) : Option AH :=
  lt (sI h 383 6 v1) fun hq1 =>
  f_M_token_b232 x2 hq1
set_option maxHeartbeats 2000000 in
theorem o_M_token_b229 {G : AE} {n : Nat} (hn : NN ≤ n)     : ∀ (x2 : Int32) (v1 : Int32) (h : AH), AJ G n y_M_token (2) φV 229 [some (.ref 383), none, some (.int x2)] [.int v1, .ref 383] h (f_M_token_b229 x2 v1 h) := by
  intro x2 v1 h
  rw [f_M_token_b229]
  refine r_putI (pc := 229) (ci := 12) (k := 6) (C := "CricketHayModel") (T := F_12) (N := 73) (fun s => Std.k s (lc hn rfl) kq_383) rfl (Nat.le_of_ble_eq_true rfl) rfl rfl w_1092 (fun _ _ => rfl) (fun _ => rfl) (fun _ => rfl) (fun s => Std.sI s _ _ _) d_M_token_229 ?_
  refine r_ltH (fun hq1 => ?_)
  exact r_wk (o_M_token_b232 hn x2 hq1) ⟨rfl, ⟨rfl, trivial⟩⟩
def f_M_token_b208    (x2 : Int32) (v1 : Int32) (h : AH) : Option AH :=
  lt (sI h 383 6 v1) fun hq1 =>
  f_M_token_b232 x2 hq1
set_option maxHeartbeats 2000000 in
theorem o_M_token_b208 {G : AE} {n : Nat} (hn : NN ≤ n)     : ∀ (x2 : Int32) (v1 : Int32) (h : AH), AJ G n y_M_token (2) φV 208 [some (.ref 383), none, some (.int x2)] [.int v1, .ref 383] h (f_M_token_b208 x2 v1 h) := by
  intro x2 v1 h
  rw [f_M_token_b208]
  refine r_putI (pc := 208) (ci := 12) (k := 6) (C := "CricketHayModel") (T := F_12) (N := 73) (fun s => Std.k s (lc hn rfl) kq_383) rfl (Nat.le_of_ble_eq_true rfl) rfl rfl w_1092 (fun _ _ => rfl) (fun _ => rfl) (fun _ => rfl) (fun s => Std.sI s _ _ _) d_M_token_208 ?_
  refine r_ltH (fun hq1 => ?_)
  refine r_goto (pc := 211) (tgt := 232) d_M_token_211 (by rfl) ?_
  exact r_wk (o_M_token_b232 hn x2 hq1) ⟨rfl, ⟨rfl, trivial⟩⟩
def f_M_token_b203    (x2 : Int32) (h : AH) : Option AH :=
  f_M_token_b208 x2 (3 : Int32) h
set_option maxHeartbeats 2000000 in
theorem o_M_token_b203 {G : AE} {n : Nat} (hn : NN ≤ n)     : ∀ (x2 : Int32) (h : AH), AJ G n y_M_token (2) φV 203 [some (.ref 383), none, some (.int x2)] [.ref 383] h (f_M_token_b203 x2 h) := by
  intro x2 h
  rw [f_M_token_b203]
  refine r_iconst (pc := 203) (v := 3) d_M_token_203 (by rfl) ?_
  refine r_goto (pc := 204) (tgt := 208) d_M_token_204 (by rfl) ?_
  exact r_wk (o_M_token_b208 hn x2 (3 : Int32) h) ⟨rfl, ⟨rfl, trivial⟩⟩
def f_M_token_l144    : Nat → Int32 → AH → Option AH
  | 0, _, _ => none
  | n + 1, x2, h =>
    bI (f_M_here x2 h) fun rq1 hq2 =>
    bI (f_M_isDigit rq1 hq2) fun rq3 hq4 =>
    if rq3 = 0 then
      if (4 : Int32) < x2 then
        f_M_token_b203 x2 hq4
      else
        bI (f_M_here x2 hq4) fun rq5 hq6 =>
        bI (f_M_isLetter rq5 hq6) fun rq7 hq8 =>
        if rq7 = 0 then
          f_M_token_b208 x2 (2 : Int32) hq8
        else
          f_M_token_b203 x2 hq8
    else
      if (4 : Int32) ≤ x2 then
        lt (x2 + (1 : Int32)) fun xq9 =>
        f_M_token_l144 n xq9 hq4
      else
        bI (f_M_here x2 hq4) fun rq10 hq11 =>
        lt (sI hq11 383 8 ((((10 : Int32) * (hI hq4 383 8)) + rq10) - (48 : Int32))) fun hq12 =>
        lt (x2 + (1 : Int32)) fun xq13 =>
        f_M_token_l144 n xq13 hq12
set_option maxHeartbeats 2000000 in
theorem o_M_token_l144 {G : AE} {n : Nat} (hn : NN ≤ n)     : ∀ (n0 : Nat) (x2 : Int32) (h : AH), AJ G n y_M_token (2) φV 144 [some (.ref 383), none, some (.int x2)] [] h (f_M_token_l144 n0 x2 h) := by
  intro n0
  induction n0 with
  | zero => intros; exact r_none
  | succ n0 ih =>
    intro x2 h
    rw [f_M_token_l144]
    refine r_aload_n (pc := 144) (i := 0) d_M_token_144 rfl rfl ?_
    refine r_iload_n (pc := 145) (i := 2) d_M_token_145 rfl rfl ?_
    refine r_cVi (pc := 146) (T := F_12) (N := 73) (st := []) (ok_M_here hn x2 h) (fun s => Std.k s (lc hn rfl) kq_383) rfl w_1333 w_13 w_1330 w_1332 ws_49 hy_M_here ⟨Nat.le_of_ble_eq_true rfl, Nat.le_of_ble_eq_true rfl⟩ ⟨Nat.le_of_ble_eq_true rfl, Nat.le_of_ble_eq_true rfl⟩ rfl (Nat.le_of_ble_eq_true rfl) d_M_token_146 (fun rq1 hq2 => ?_)
    refine r_cSi (pc := 149) (st := []) (ok_M_isDigit hn rq1 hq2) w_1339 w_13 w_1337 w_1338 hy_M_isDigit ⟨Nat.le_of_ble_eq_true rfl, Nat.le_of_ble_eq_true rfl⟩ ⟨Nat.le_of_ble_eq_true rfl, Nat.le_of_ble_eq_true rfl⟩ rfl (Nat.le_of_ble_eq_true rfl) d_M_token_149 (fun rq3 hq4 => ?_)
    refine r_if_eq (pc := 152) (tgt := 186) d_M_token_152 (by rfl) ?_ ?_
    · refine r_aload_n (pc := 186) (i := 0) d_M_token_186 rfl rfl ?_
      refine r_iload_n (pc := 187) (i := 2) d_M_token_187 rfl rfl ?_
      refine r_iconst (pc := 188) (v := 4) d_M_token_188 (by rfl) ?_
      refine r_icmp_gt (pc := 189) (tgt := 203) d_M_token_189 (by rfl) ?_ ?_
      · exact r_wk (o_M_token_b203 hn x2 hq4) ⟨rfl, ⟨rfl, trivial⟩⟩
      · refine r_aload_n (pc := 192) (i := 0) d_M_token_192 rfl rfl ?_
        refine r_iload_n (pc := 193) (i := 2) d_M_token_193 rfl rfl ?_
        refine r_cVi (pc := 194) (T := F_12) (N := 73) (st := [.ref 383]) (ok_M_here hn x2 hq4) (fun s => Std.k s (lc hn rfl) kq_383) rfl w_1333 w_13 w_1330 w_1332 ws_49 hy_M_here ⟨Nat.le_of_ble_eq_true rfl, Nat.le_of_ble_eq_true rfl⟩ ⟨Nat.le_of_ble_eq_true rfl, Nat.le_of_ble_eq_true rfl⟩ rfl (Nat.le_of_ble_eq_true rfl) d_M_token_194 (fun rq5 hq6 => ?_)
        refine r_cSi (pc := 197) (st := [.ref 383]) (ok_M_isLetter hn rq5 hq6) w_1336 w_13 w_1334 w_1335 hy_M_isLetter ⟨Nat.le_of_ble_eq_true rfl, Nat.le_of_ble_eq_true rfl⟩ ⟨Nat.le_of_ble_eq_true rfl, Nat.le_of_ble_eq_true rfl⟩ rfl (Nat.le_of_ble_eq_true rfl) d_M_token_197 (fun rq7 hq8 => ?_)
        refine r_if_eq (pc := 200) (tgt := 207) d_M_token_200 (by rfl) ?_ ?_
        · refine r_iconst (pc := 207) (v := 2) d_M_token_207 (by rfl) ?_
          exact r_wk (o_M_token_b208 hn x2 (2 : Int32) hq8) ⟨rfl, ⟨rfl, trivial⟩⟩
        · exact r_wk (o_M_token_b203 hn x2 hq8) ⟨rfl, ⟨rfl, trivial⟩⟩
    · refine r_iload_n (pc := 155) (i := 2) d_M_token_155 rfl rfl ?_
      refine r_iconst (pc := 156) (v := 4) d_M_token_156 (by rfl) ?_
      refine r_icmp_ge (pc := 157) (tgt := 180) d_M_token_157 (by rfl) ?_ ?_
      · refine r_ltE (fun xq9 exq9 => ?_)
        refine r_iinc (pc := 180) (v := xq9) (lv1 := [some (.ref 383), none, some (.int xq9)]) d_M_token_180 rfl exq9.symm (Nat.le_of_ble_eq_true rfl) rfl ?_
        refine r_goto (pc := 183) (tgt := 144) d_M_token_183 (by rfl) ?_
        exact r_wk (ih xq9 hq4) ⟨rfl, ⟨rfl, trivial⟩⟩
      · refine r_aload_n (pc := 160) (i := 0) d_M_token_160 rfl rfl ?_
        refine r_bipush (pc := 161) (v := 10) d_M_token_161 (by rfl) ?_
        refine r_aload_n (pc := 163) (i := 0) d_M_token_163 rfl rfl ?_
        refine r_getf (pc := 164) (ci := 12) (k := 8) (C := "CricketHayModel") (T := F_12) (N := 73) (v := .int (hI hq4 383 8)) (fun s => Std.k s (lc hn rfl) kq_383) rfl (Nat.le_of_ble_eq_true rfl) rfl w_1094 (fun _ => rfl) d_M_token_164 ?_
        refine r_imul (pc := 167) d_M_token_167 ?_
        refine r_aload_n (pc := 168) (i := 0) d_M_token_168 rfl rfl ?_
        refine r_iload_n (pc := 169) (i := 2) d_M_token_169 rfl rfl ?_
        refine r_cVi (pc := 170) (T := F_12) (N := 73) (st := [.int ((10 : Int32) * (hI hq4 383 8)), .ref 383]) (ok_M_here hn x2 hq4) (fun s => Std.k s (lc hn rfl) kq_383) rfl w_1333 w_13 w_1330 w_1332 ws_49 hy_M_here ⟨Nat.le_of_ble_eq_true rfl, Nat.le_of_ble_eq_true rfl⟩ ⟨Nat.le_of_ble_eq_true rfl, Nat.le_of_ble_eq_true rfl⟩ rfl (Nat.le_of_ble_eq_true rfl) d_M_token_170 (fun rq10 hq11 => ?_)
        refine r_iadd (pc := 173) d_M_token_173 ?_
        refine r_bipush (pc := 174) (v := 48) d_M_token_174 (by rfl) ?_
        refine r_isub (pc := 176) d_M_token_176 ?_
        refine r_putI (pc := 177) (ci := 12) (k := 8) (C := "CricketHayModel") (T := F_12) (N := 73) (fun s => Std.k s (lc hn rfl) kq_383) rfl (Nat.le_of_ble_eq_true rfl) rfl rfl w_1094 (fun _ _ => rfl) (fun _ => rfl) (fun _ => rfl) (fun s => Std.sI s _ _ _) d_M_token_177 ?_
        refine r_ltH (fun hq12 => ?_)
        refine r_ltE (fun xq13 exq13 => ?_)
        refine r_iinc (pc := 180) (v := xq13) (lv1 := [some (.ref 383), none, some (.int xq13)]) d_M_token_180 rfl exq13.symm (Nat.le_of_ble_eq_true rfl) rfl ?_
        refine r_goto (pc := 183) (tgt := 144) d_M_token_183 (by rfl) ?_
        exact r_wk (ih xq13 hq12) ⟨rfl, ⟨rfl, trivial⟩⟩
def f_M_token_b131    (x2 : Int32) (v1 : Int32) (h : AH) : Option AH :=
  lt (sI h 383 6 v1) fun hq1 =>
  f_M_token_b232 x2 hq1
set_option maxHeartbeats 2000000 in
theorem o_M_token_b131 {G : AE} {n : Nat} (hn : NN ≤ n)     : ∀ (x2 : Int32) (v1 : Int32) (h : AH), AJ G n y_M_token (2) φV 131 [some (.ref 383), none, some (.int x2)] [.int v1, .ref 383] h (f_M_token_b131 x2 v1 h) := by
  intro x2 v1 h
  rw [f_M_token_b131]
  refine r_putI (pc := 131) (ci := 12) (k := 6) (C := "CricketHayModel") (T := F_12) (N := 73) (fun s => Std.k s (lc hn rfl) kq_383) rfl (Nat.le_of_ble_eq_true rfl) rfl rfl w_1092 (fun _ _ => rfl) (fun _ => rfl) (fun _ => rfl) (fun s => Std.sI s _ _ _) d_M_token_131 ?_
  refine r_ltH (fun hq1 => ?_)
  refine r_goto (pc := 134) (tgt := 232) d_M_token_134 (by rfl) ?_
  exact r_wk (o_M_token_b232 hn x2 hq1) ⟨rfl, ⟨rfl, trivial⟩⟩
def f_M_token_l78    : Nat → Int32 → AH → Option AH
  | 0, _, _ => none
  | n + 1, x2, h =>
    bI (f_M_here x2 h) fun rq1 hq2 =>
    bI (f_M_isLetter rq1 hq2) fun rq3 hq4 =>
    if rq3 = 0 then
      if x2 ≤ (8 : Int32) then
        f_M_token_b131 x2 (1 : Int32) hq4
      else
        f_M_token_b131 x2 (3 : Int32) hq4
    else
      if (8 : Int32) ≤ x2 then
        lt (x2 + (1 : Int32)) fun xq5 =>
        f_M_token_l78 n xq5 hq4
      else
        bI (f_M_here x2 hq4) fun rq6 hq7 =>
        lt (sL hq7 383 9 ((lshl (hL hq4 383 9) (8 : Int32)) ||| (Int32.toInt64 rq6))) fun hq8 =>
        lt (x2 + (1 : Int32)) fun xq9 =>
        f_M_token_l78 n xq9 hq8
set_option maxHeartbeats 2000000 in
theorem o_M_token_l78 {G : AE} {n : Nat} (hn : NN ≤ n)     : ∀ (n0 : Nat) (x2 : Int32) (h : AH), AJ G n y_M_token (2) φV 78 [some (.ref 383), none, some (.int x2)] [] h (f_M_token_l78 n0 x2 h) := by
  intro n0
  induction n0 with
  | zero => intros; exact r_none
  | succ n0 ih =>
    intro x2 h
    rw [f_M_token_l78]
    refine r_aload_n (pc := 78) (i := 0) d_M_token_78 rfl rfl ?_
    refine r_iload_n (pc := 79) (i := 2) d_M_token_79 rfl rfl ?_
    refine r_cVi (pc := 80) (T := F_12) (N := 73) (st := []) (ok_M_here hn x2 h) (fun s => Std.k s (lc hn rfl) kq_383) rfl w_1333 w_13 w_1330 w_1332 ws_49 hy_M_here ⟨Nat.le_of_ble_eq_true rfl, Nat.le_of_ble_eq_true rfl⟩ ⟨Nat.le_of_ble_eq_true rfl, Nat.le_of_ble_eq_true rfl⟩ rfl (Nat.le_of_ble_eq_true rfl) d_M_token_80 (fun rq1 hq2 => ?_)
    refine r_cSi (pc := 83) (st := []) (ok_M_isLetter hn rq1 hq2) w_1336 w_13 w_1334 w_1335 hy_M_isLetter ⟨Nat.le_of_ble_eq_true rfl, Nat.le_of_ble_eq_true rfl⟩ ⟨Nat.le_of_ble_eq_true rfl, Nat.le_of_ble_eq_true rfl⟩ rfl (Nat.le_of_ble_eq_true rfl) d_M_token_83 (fun rq3 hq4 => ?_)
    refine r_if_eq (pc := 86) (tgt := 119) d_M_token_86 (by rfl) ?_ ?_
    · refine r_aload_n (pc := 119) (i := 0) d_M_token_119 rfl rfl ?_
      refine r_iload_n (pc := 120) (i := 2) d_M_token_120 rfl rfl ?_
      refine r_bipush (pc := 121) (v := 8) d_M_token_121 (by rfl) ?_
      refine r_icmp_le (pc := 123) (tgt := 130) d_M_token_123 (by rfl) ?_ ?_
      · refine r_iconst (pc := 130) (v := 1) d_M_token_130 (by rfl) ?_
        exact r_wk (o_M_token_b131 hn x2 (1 : Int32) hq4) ⟨rfl, ⟨rfl, trivial⟩⟩
      · refine r_iconst (pc := 126) (v := 3) d_M_token_126 (by rfl) ?_
        refine r_goto (pc := 127) (tgt := 131) d_M_token_127 (by rfl) ?_
        exact r_wk (o_M_token_b131 hn x2 (3 : Int32) hq4) ⟨rfl, ⟨rfl, trivial⟩⟩
    · refine r_iload_n (pc := 89) (i := 2) d_M_token_89 rfl rfl ?_
      refine r_bipush (pc := 90) (v := 8) d_M_token_90 (by rfl) ?_
      refine r_icmp_ge (pc := 92) (tgt := 113) d_M_token_92 (by rfl) ?_ ?_
      · refine r_ltE (fun xq5 exq5 => ?_)
        refine r_iinc (pc := 113) (v := xq5) (lv1 := [some (.ref 383), none, some (.int xq5)]) d_M_token_113 rfl exq5.symm (Nat.le_of_ble_eq_true rfl) rfl ?_
        refine r_goto (pc := 116) (tgt := 78) d_M_token_116 (by rfl) ?_
        exact r_wk (ih xq5 hq4) ⟨rfl, ⟨rfl, trivial⟩⟩
      · refine r_aload_n (pc := 95) (i := 0) d_M_token_95 rfl rfl ?_
        refine r_aload_n (pc := 96) (i := 0) d_M_token_96 rfl rfl ?_
        refine r_getf (pc := 97) (ci := 12) (k := 9) (C := "CricketHayModel") (T := F_12) (N := 73) (v := .long (hL hq4 383 9)) (fun s => Std.k s (lc hn rfl) kq_383) rfl (Nat.le_of_ble_eq_true rfl) rfl w_1095 (fun _ => rfl) d_M_token_97 ?_
        refine r_bipush (pc := 100) (v := 8) d_M_token_100 (by rfl) ?_
        refine r_lshl (pc := 102) d_M_token_102 ?_
        refine r_aload_n (pc := 103) (i := 0) d_M_token_103 rfl rfl ?_
        refine r_iload_n (pc := 104) (i := 2) d_M_token_104 rfl rfl ?_
        refine r_cVi (pc := 105) (T := F_12) (N := 73) (st := [.long (lshl (hL hq4 383 9) (8 : Int32)), .ref 383]) (ok_M_here hn x2 hq4) (fun s => Std.k s (lc hn rfl) kq_383) rfl w_1333 w_13 w_1330 w_1332 ws_49 hy_M_here ⟨Nat.le_of_ble_eq_true rfl, Nat.le_of_ble_eq_true rfl⟩ ⟨Nat.le_of_ble_eq_true rfl, Nat.le_of_ble_eq_true rfl⟩ rfl (Nat.le_of_ble_eq_true rfl) d_M_token_105 (fun rq6 hq7 => ?_)
        refine r_i2l (pc := 108) d_M_token_108 ?_
        refine r_lor (pc := 109) d_M_token_109 ?_
        refine r_putL (pc := 110) (ci := 12) (k := 9) (C := "CricketHayModel") (T := F_12) (N := 73) (fun s => Std.k s (lc hn rfl) kq_383) rfl (Nat.le_of_ble_eq_true rfl) rfl rfl w_1095 (fun _ _ => rfl) (fun _ => rfl) (fun _ => rfl) (fun s => Std.sL s _ _ _) d_M_token_110 ?_
        refine r_ltH (fun hq8 => ?_)
        refine r_ltE (fun xq9 exq9 => ?_)
        refine r_iinc (pc := 113) (v := xq9) (lv1 := [some (.ref 383), none, some (.int xq9)]) d_M_token_113 rfl exq9.symm (Nat.le_of_ble_eq_true rfl) rfl ?_
        refine r_goto (pc := 116) (tgt := 78) d_M_token_116 (by rfl) ?_
        exact r_wk (ih xq9 hq8) ⟨rfl, ⟨rfl, trivial⟩⟩
def f_M_token_b20   (k0 : AH → Option AH)  (h : AH) : Option AH :=
  lt (sI h 383 4 ((hI h 383 4) + (1 : Int32))) fun hq1 =>
  k0 hq1
set_option maxHeartbeats 2000000 in
theorem o_M_token_b20 {G : AE} {n : Nat} (hn : NN ≤ n)    {k0 : AH → Option AH} (hk0 : ∀  (h : AH), AJ G n y_M_token (2) φV 0 [some (.ref 383), none, none] [] h (k0 h)) : ∀  (h : AH), AJ G n y_M_token (2) φV 20 [some (.ref 383), none, none] [] h (f_M_token_b20 k0 h) := by
  intro  h
  rw [f_M_token_b20]
  refine r_aload_n (pc := 20) (i := 0) d_M_token_20 rfl rfl ?_
  refine r_dup (pc := 21) d_M_token_21 rfl ?_
  refine r_getf (pc := 22) (ci := 12) (k := 4) (C := "CricketHayModel") (T := F_12) (N := 73) (v := .int (hI h 383 4)) (fun s => Std.k s (lc hn rfl) kq_383) rfl (Nat.le_of_ble_eq_true rfl) rfl w_1090 (fun _ => rfl) d_M_token_22 ?_
  refine r_iconst (pc := 25) (v := 1) d_M_token_25 (by rfl) ?_
  refine r_iadd (pc := 26) d_M_token_26 ?_
  refine r_putI (pc := 27) (ci := 12) (k := 4) (C := "CricketHayModel") (T := F_12) (N := 73) (fun s => Std.k s (lc hn rfl) kq_383) rfl (Nat.le_of_ble_eq_true rfl) rfl rfl w_1090 (fun _ _ => rfl) (fun _ => rfl) (fun _ => rfl) (fun s => Std.sI s _ _ _) d_M_token_27 ?_
  refine r_ltH (fun hq1 => ?_)
  refine r_goto (pc := 30) (tgt := 0) d_M_token_30 (by rfl) ?_
  exact r_wk (hk0 hq1) ⟨rfl, trivial⟩
def f_M_token_l0    : Nat → AH → Option AH
  | 0, _ => none
  | n + 1, h =>
    bI (f_M_here (0 : Int32) h) fun rq1 hq2 =>
    if rq1 = (32 : Int32) then
      f_M_token_b20 (f_M_token_l0 n) hq2
    else
      bI (f_M_here (0 : Int32) hq2) fun rq3 hq4 =>
      if ¬ rq3 = (10 : Int32) then
        lt (sI hq4 383 7 (hI hq4 383 4)) fun hq5 =>
        bI (f_M_here (0 : Int32) hq5) fun rq6 hq7 =>
        lt (sL hq7 383 9 (0 : Int64)) fun hq8 =>
        lt (sI hq8 383 8 (0 : Int32)) fun hq9 =>
        if 0 ≤ rq6 then
          bI (f_M_isLetter rq6 hq9) fun rq10 hq11 =>
          if rq10 = 0 then
            bI (f_M_isDigit rq6 hq11) fun rq12 hq13 =>
            if rq12 = 0 then
              bI (f_M_isSign rq6 hq13) fun rq14 hq15 =>
              if rq14 = 0 then
                f_M_token_b229 (1 : Int32) (3 : Int32) hq15
              else
                f_M_token_b229 (1 : Int32) rq6 hq15
            else
              f_M_token_l144 FU (0 : Int32) hq13
          else
            f_M_token_l78 FU (0 : Int32) hq11
        else
          lt (sI hq9 383 6 (0 : Int32)) fun hq16 =>
          f_M_token_b232 (0 : Int32) hq16
      else
        f_M_token_b20 (f_M_token_l0 n) hq4
set_option maxHeartbeats 2000000 in
theorem o_M_token_l0 {G : AE} {n : Nat} (hn : NN ≤ n)     : ∀ (n0 : Nat)  (h : AH), AJ G n y_M_token (2) φV 0 [some (.ref 383), none, none] [] h (f_M_token_l0 n0 h) := by
  intro n0
  induction n0 with
  | zero => intros; exact r_none
  | succ n0 ih =>
    intro  h
    rw [f_M_token_l0]
    refine r_aload_n (pc := 0) (i := 0) d_M_token_0 rfl rfl ?_
    refine r_iconst (pc := 1) (v := 0) d_M_token_1 (by rfl) ?_
    refine r_cVi (pc := 2) (T := F_12) (N := 73) (st := []) (ok_M_here hn (0 : Int32) h) (fun s => Std.k s (lc hn rfl) kq_383) rfl w_1333 w_13 w_1330 w_1332 ws_49 hy_M_here ⟨Nat.le_of_ble_eq_true rfl, Nat.le_of_ble_eq_true rfl⟩ ⟨Nat.le_of_ble_eq_true rfl, Nat.le_of_ble_eq_true rfl⟩ rfl (Nat.le_of_ble_eq_true rfl) d_M_token_2 (fun rq1 hq2 => ?_)
    refine r_bipush (pc := 5) (v := 32) d_M_token_5 (by rfl) ?_
    refine r_icmp_eq (pc := 7) (tgt := 20) d_M_token_7 (by rfl) ?_ ?_
    · exact r_wk (o_M_token_b20 hn ih hq2) ⟨rfl, trivial⟩
    · refine r_aload_n (pc := 10) (i := 0) d_M_token_10 rfl rfl ?_
      refine r_iconst (pc := 11) (v := 0) d_M_token_11 (by rfl) ?_
      refine r_cVi (pc := 12) (T := F_12) (N := 73) (st := []) (ok_M_here hn (0 : Int32) hq2) (fun s => Std.k s (lc hn rfl) kq_383) rfl w_1333 w_13 w_1330 w_1332 ws_49 hy_M_here ⟨Nat.le_of_ble_eq_true rfl, Nat.le_of_ble_eq_true rfl⟩ ⟨Nat.le_of_ble_eq_true rfl, Nat.le_of_ble_eq_true rfl⟩ rfl (Nat.le_of_ble_eq_true rfl) d_M_token_12 (fun rq3 hq4 => ?_)
      refine r_bipush (pc := 15) (v := 10) d_M_token_15 (by rfl) ?_
      refine r_icmp_ne (pc := 17) (tgt := 33) d_M_token_17 (by rfl) ?_ ?_
      · refine r_aload_n (pc := 33) (i := 0) d_M_token_33 rfl rfl ?_
        refine r_aload_n (pc := 34) (i := 0) d_M_token_34 rfl rfl ?_
        refine r_getf (pc := 35) (ci := 12) (k := 4) (C := "CricketHayModel") (T := F_12) (N := 73) (v := .int (hI hq4 383 4)) (fun s => Std.k s (lc hn rfl) kq_383) rfl (Nat.le_of_ble_eq_true rfl) rfl w_1090 (fun _ => rfl) d_M_token_35 ?_
        refine r_putI (pc := 38) (ci := 12) (k := 7) (C := "CricketHayModel") (T := F_12) (N := 73) (fun s => Std.k s (lc hn rfl) kq_383) rfl (Nat.le_of_ble_eq_true rfl) rfl rfl w_1093 (fun _ _ => rfl) (fun _ => rfl) (fun _ => rfl) (fun s => Std.sI s _ _ _) d_M_token_38 ?_
        refine r_ltH (fun hq5 => ?_)
        refine r_aload_n (pc := 41) (i := 0) d_M_token_41 rfl rfl ?_
        refine r_iconst (pc := 42) (v := 0) d_M_token_42 (by rfl) ?_
        refine r_cVi (pc := 43) (T := F_12) (N := 73) (st := []) (ok_M_here hn (0 : Int32) hq5) (fun s => Std.k s (lc hn rfl) kq_383) rfl w_1333 w_13 w_1330 w_1332 ws_49 hy_M_here ⟨Nat.le_of_ble_eq_true rfl, Nat.le_of_ble_eq_true rfl⟩ ⟨Nat.le_of_ble_eq_true rfl, Nat.le_of_ble_eq_true rfl⟩ rfl (Nat.le_of_ble_eq_true rfl) d_M_token_43 (fun rq6 hq7 => ?_)
        refine r_istore_n (pc := 46) (i := 1) (lv1 := [some (.ref 383), some (.int rq6), none]) d_M_token_46 rfl (Nat.le_of_ble_eq_true rfl) rfl ?_
        refine r_iconst (pc := 47) (v := 0) d_M_token_47 (by rfl) ?_
        refine r_istore_n (pc := 48) (i := 2) (lv1 := [some (.ref 383), some (.int rq6), some (.int (0 : Int32))]) d_M_token_48 rfl (Nat.le_of_ble_eq_true rfl) rfl ?_
        refine r_aload_n (pc := 49) (i := 0) d_M_token_49 rfl rfl ?_
        refine r_lconst (pc := 50) (v := 0) d_M_token_50 (by rfl) ?_
        refine r_putL (pc := 51) (ci := 12) (k := 9) (C := "CricketHayModel") (T := F_12) (N := 73) (fun s => Std.k s (lc hn rfl) kq_383) rfl (Nat.le_of_ble_eq_true rfl) rfl rfl w_1095 (fun _ _ => rfl) (fun _ => rfl) (fun _ => rfl) (fun s => Std.sL s _ _ _) d_M_token_51 ?_
        refine r_ltH (fun hq8 => ?_)
        refine r_aload_n (pc := 54) (i := 0) d_M_token_54 rfl rfl ?_
        refine r_iconst (pc := 55) (v := 0) d_M_token_55 (by rfl) ?_
        refine r_putI (pc := 56) (ci := 12) (k := 8) (C := "CricketHayModel") (T := F_12) (N := 73) (fun s => Std.k s (lc hn rfl) kq_383) rfl (Nat.le_of_ble_eq_true rfl) rfl rfl w_1094 (fun _ _ => rfl) (fun _ => rfl) (fun _ => rfl) (fun s => Std.sI s _ _ _) d_M_token_56 ?_
        refine r_ltH (fun hq9 => ?_)
        refine r_iload_n (pc := 59) (i := 1) d_M_token_59 rfl rfl ?_
        refine r_if_ge (pc := 60) (tgt := 71) d_M_token_60 (by rfl) ?_ ?_
        · refine r_iload_n (pc := 71) (i := 1) d_M_token_71 rfl rfl ?_
          refine r_cSi (pc := 72) (st := []) (ok_M_isLetter hn rq6 hq9) w_1336 w_13 w_1334 w_1335 hy_M_isLetter ⟨Nat.le_of_ble_eq_true rfl, Nat.le_of_ble_eq_true rfl⟩ ⟨Nat.le_of_ble_eq_true rfl, Nat.le_of_ble_eq_true rfl⟩ rfl (Nat.le_of_ble_eq_true rfl) d_M_token_72 (fun rq10 hq11 => ?_)
          refine r_if_eq (pc := 75) (tgt := 137) d_M_token_75 (by rfl) ?_ ?_
          · refine r_iload_n (pc := 137) (i := 1) d_M_token_137 rfl rfl ?_
            refine r_cSi (pc := 138) (st := []) (ok_M_isDigit hn rq6 hq11) w_1339 w_13 w_1337 w_1338 hy_M_isDigit ⟨Nat.le_of_ble_eq_true rfl, Nat.le_of_ble_eq_true rfl⟩ ⟨Nat.le_of_ble_eq_true rfl, Nat.le_of_ble_eq_true rfl⟩ rfl (Nat.le_of_ble_eq_true rfl) d_M_token_138 (fun rq12 hq13 => ?_)
            refine r_if_eq (pc := 141) (tgt := 214) d_M_token_141 (by rfl) ?_ ?_
            · refine r_iconst (pc := 214) (v := 1) d_M_token_214 (by rfl) ?_
              refine r_istore_n (pc := 215) (i := 2) (lv1 := [some (.ref 383), some (.int rq6), some (.int (1 : Int32))]) d_M_token_215 rfl (Nat.le_of_ble_eq_true rfl) rfl ?_
              refine r_aload_n (pc := 216) (i := 0) d_M_token_216 rfl rfl ?_
              refine r_iload_n (pc := 217) (i := 1) d_M_token_217 rfl rfl ?_
              refine r_cSi (pc := 218) (st := [.ref 383]) (ok_M_isSign hn rq6 hq13) w_1342 w_13 w_1340 w_1341 hy_M_isSign ⟨Nat.le_of_ble_eq_true rfl, Nat.le_of_ble_eq_true rfl⟩ ⟨Nat.le_of_ble_eq_true rfl, Nat.le_of_ble_eq_true rfl⟩ rfl (Nat.le_of_ble_eq_true rfl) d_M_token_218 (fun rq14 hq15 => ?_)
              refine r_if_eq (pc := 221) (tgt := 228) d_M_token_221 (by rfl) ?_ ?_
              · refine r_iconst (pc := 228) (v := 3) d_M_token_228 (by rfl) ?_
                exact r_wk (o_M_token_b229 hn (1 : Int32) (3 : Int32) hq15) ⟨rfl, ⟨rfl, trivial⟩⟩
              · refine r_iload_n (pc := 224) (i := 1) d_M_token_224 rfl rfl ?_
                refine r_goto (pc := 225) (tgt := 229) d_M_token_225 (by rfl) ?_
                exact r_wk (o_M_token_b229 hn (1 : Int32) rq6 hq15) ⟨rfl, ⟨rfl, trivial⟩⟩
            · exact r_wk (o_M_token_l144 hn FU (0 : Int32) hq13) ⟨rfl, ⟨rfl, trivial⟩⟩
          · exact r_wk (o_M_token_l78 hn FU (0 : Int32) hq11) ⟨rfl, ⟨rfl, trivial⟩⟩
        · refine r_aload_n (pc := 63) (i := 0) d_M_token_63 rfl rfl ?_
          refine r_iconst (pc := 64) (v := 0) d_M_token_64 (by rfl) ?_
          refine r_putI (pc := 65) (ci := 12) (k := 6) (C := "CricketHayModel") (T := F_12) (N := 73) (fun s => Std.k s (lc hn rfl) kq_383) rfl (Nat.le_of_ble_eq_true rfl) rfl rfl w_1092 (fun _ _ => rfl) (fun _ => rfl) (fun _ => rfl) (fun s => Std.sI s _ _ _) d_M_token_65 ?_
          refine r_ltH (fun hq16 => ?_)
          refine r_goto (pc := 68) (tgt := 232) d_M_token_68 (by rfl) ?_
          exact r_wk (o_M_token_b232 hn (0 : Int32) hq16) ⟨rfl, ⟨rfl, trivial⟩⟩
      · exact r_wk (o_M_token_b20 hn ih hq4) ⟨rfl, trivial⟩
def f_M_token   (h : AH) : Option AH :=
  f_M_token_l0 FU h
set_option maxHeartbeats 2000000 in
theorem ok_M_token {G : AE} {n : Nat} (hn : NN ≤ n)   (h : AH) : OK G n y_M_token (2) φV [.ref 383] h (f_M_token h) := by
  refine ok_of (y := y_M_token) (lv0 := [some (.ref 383), none, none]) (by decide +kernel) (Nat.le_of_ble_eq_true rfl) ⟨rfl, trivial⟩ ?_
  rw [f_M_token]
  exact r_wk (o_M_token_l0 hn FU h) ⟨rfl, trivial⟩

def f_M_wrong_b22  (a1 : Int32)  (v1 : Int32) (h : AH) : Option AH :=
  lt (sI h 383 2 v1) fun hq1 =>
  lt (sI hq1 383 3 (hI hq1 383 7)) fun hq2 =>
  some hq2
set_option maxHeartbeats 2000000 in
theorem o_M_wrong_b22 {G : AE} {n : Nat} (hn : NN ≤ n)  {a1 : Int32}   : ∀ (v1 : Int32) (h : AH), AJ G n y_M_wrong (1) φV 22 [some (.ref 383), none] [.int v1, .ref 383] h (f_M_wrong_b22 a1 v1 h) := by
  intro v1 h
  rw [f_M_wrong_b22]
  refine r_putI (pc := 22) (ci := 12) (k := 2) (C := "CricketHayModel") (T := F_12) (N := 73) (fun s => Std.k s (lc hn rfl) kq_383) rfl (Nat.le_of_ble_eq_true rfl) rfl rfl w_1088 (fun _ _ => rfl) (fun _ => rfl) (fun _ => rfl) (fun s => Std.sI s _ _ _) d_M_wrong_22 ?_
  refine r_ltH (fun hq1 => ?_)
  refine r_aload_n (pc := 25) (i := 0) d_M_wrong_25 rfl rfl ?_
  refine r_aload_n (pc := 26) (i := 0) d_M_wrong_26 rfl rfl ?_
  refine r_getf (pc := 27) (ci := 12) (k := 7) (C := "CricketHayModel") (T := F_12) (N := 73) (v := .int (hI hq1 383 7)) (fun s => Std.k s (lc hn rfl) kq_383) rfl (Nat.le_of_ble_eq_true rfl) rfl w_1093 (fun _ => rfl) d_M_wrong_27 ?_
  refine r_putI (pc := 30) (ci := 12) (k := 3) (C := "CricketHayModel") (T := F_12) (N := 73) (fun s => Std.k s (lc hn rfl) kq_383) rfl (Nat.le_of_ble_eq_true rfl) rfl rfl w_1089 (fun _ _ => rfl) (fun _ => rfl) (fun _ => rfl) (fun s => Std.sI s _ _ _) d_M_wrong_30 ?_
  refine r_ltH (fun hq2 => ?_)
  exact r_vret (pc := 33) rfl d_M_wrong_33
def f_M_wrong  (a1 : Int32) (h : AH) : Option AH :=
  if (hI h 383 2) ≤ 0 then
    if ¬ (hI h 383 6) = (3 : Int32) then
      f_M_wrong_b22 a1 a1 h
    else
      f_M_wrong_b22 a1 (1 : Int32) h
  else
    some h
set_option maxHeartbeats 2000000 in
theorem ok_M_wrong {G : AE} {n : Nat} (hn : NN ≤ n)  (a1 : Int32) (h : AH) : OK G n y_M_wrong (1) φV [.ref 383, .int a1] h (f_M_wrong a1 h) := by
  refine ok_of (y := y_M_wrong) (lv0 := [some (.ref 383), some (.int a1)]) (by decide +kernel) (Nat.le_of_ble_eq_true rfl) ⟨rfl, ⟨rfl, trivial⟩⟩ ?_
  rw [f_M_wrong]
  refine r_aload_n (pc := 0) (i := 0) d_M_wrong_0 rfl rfl ?_
  refine r_getf (pc := 1) (ci := 12) (k := 2) (C := "CricketHayModel") (T := F_12) (N := 73) (v := .int (hI h 383 2)) (fun s => Std.k s (lc hn rfl) kq_383) rfl (Nat.le_of_ble_eq_true rfl) rfl w_1088 (fun _ => rfl) d_M_wrong_1 ?_
  refine r_if_le (pc := 4) (tgt := 8) d_M_wrong_4 (by rfl) ?_ ?_
  · refine r_aload_n (pc := 8) (i := 0) d_M_wrong_8 rfl rfl ?_
    refine r_aload_n (pc := 9) (i := 0) d_M_wrong_9 rfl rfl ?_
    refine r_getf (pc := 10) (ci := 12) (k := 6) (C := "CricketHayModel") (T := F_12) (N := 73) (v := .int (hI h 383 6)) (fun s => Std.k s (lc hn rfl) kq_383) rfl (Nat.le_of_ble_eq_true rfl) rfl w_1092 (fun _ => rfl) d_M_wrong_10 ?_
    refine r_iconst (pc := 13) (v := 3) d_M_wrong_13 (by rfl) ?_
    refine r_icmp_ne (pc := 14) (tgt := 21) d_M_wrong_14 (by rfl) ?_ ?_
    · refine r_iload_n (pc := 21) (i := 1) d_M_wrong_21 rfl rfl ?_
      exact r_wk (o_M_wrong_b22 hn a1 h) ⟨rfl, trivial⟩
    · refine r_iconst (pc := 17) (v := 1) d_M_wrong_17 (by rfl) ?_
      refine r_goto (pc := 18) (tgt := 22) d_M_wrong_18 (by rfl) ?_
      exact r_wk (o_M_wrong_b22 hn (1 : Int32) h) ⟨rfl, trivial⟩
  · exact r_vret (pc := 7) rfl d_M_wrong_7

def f_M_isWord  (a1 : Int64) (h : AH) : Option (Int32 × AH) :=
  if ¬ (hI h 383 6) = (1 : Int32) then
    some ((0 : Int32), h)
  else
    if ¬ (lg_cmp (hL h 383 9) a1) = 0 then
      some ((0 : Int32), h)
    else
      some ((1 : Int32), h)
set_option maxHeartbeats 2000000 in
theorem ok_M_isWord {G : AE} {n : Nat} (hn : NN ≤ n)  (a1 : Int64) (h : AH) : OK G n y_M_isWord (1) φI [.ref 383, .long a1] h (f_M_isWord a1 h) := by
  refine ok_of (y := y_M_isWord) (lv0 := [some (.ref 383), some (.long a1), none]) (by decide +kernel) (Nat.le_of_ble_eq_true rfl) ⟨rfl, ⟨rfl, trivial⟩⟩ ?_
  rw [f_M_isWord]
  refine r_aload_n (pc := 0) (i := 0) d_M_isWord_0 rfl rfl ?_
  refine r_getf (pc := 1) (ci := 12) (k := 6) (C := "CricketHayModel") (T := F_12) (N := 73) (v := .int (hI h 383 6)) (fun s => Std.k s (lc hn rfl) kq_383) rfl (Nat.le_of_ble_eq_true rfl) rfl w_1092 (fun _ => rfl) d_M_isWord_1 ?_
  refine r_iconst (pc := 4) (v := 1) d_M_isWord_4 (by rfl) ?_
  refine r_icmp_ne (pc := 5) (tgt := 21) d_M_isWord_5 (by rfl) ?_ ?_
  · refine r_iconst (pc := 21) (v := 0) d_M_isWord_21 (by rfl) ?_
    exact r_zret (pc := 22) rfl rfl d_M_isWord_22
  · refine r_aload_n (pc := 8) (i := 0) d_M_isWord_8 rfl rfl ?_
    refine r_getf (pc := 9) (ci := 12) (k := 9) (C := "CricketHayModel") (T := F_12) (N := 73) (v := .long (hL h 383 9)) (fun s => Std.k s (lc hn rfl) kq_383) rfl (Nat.le_of_ble_eq_true rfl) rfl w_1095 (fun _ => rfl) d_M_isWord_9 ?_
    refine r_lload_n (pc := 12) (i := 1) d_M_isWord_12 rfl rfl ?_
    refine r_lcmp (pc := 13) d_M_isWord_13 ?_
    refine r_if_ne (pc := 14) (tgt := 21) d_M_isWord_14 (by rfl) ?_ ?_
    · refine r_iconst (pc := 21) (v := 0) d_M_isWord_21 (by rfl) ?_
      exact r_zret (pc := 22) rfl rfl d_M_isWord_22
    · refine r_iconst (pc := 17) (v := 1) d_M_isWord_17 (by rfl) ?_
      refine r_goto (pc := 18) (tgt := 22) d_M_isWord_18 (by rfl) ?_
      exact r_zret (pc := 22) rfl rfl d_M_isWord_22

def f_M_isOwn   (h : AH) : Option (Int32 × AH) :=
  if (lg_cmp (hL h 383 9) (1802071652 : Int64)) = 0 then
    some ((1 : Int32), h)
  else
    if (lg_cmp (hL h 383 9) (110386588968306 : Int64)) = 0 then
      some ((1 : Int32), h)
    else
      if (lg_cmp (hL h 383 9) (28518 : Int64)) = 0 then
        some ((1 : Int32), h)
      else
        if (lg_cmp (hL h 383 9) (1936682599 : Int64)) = 0 then
          some ((1 : Int32), h)
        else
          if (lg_cmp (hL h 383 9) (6383461 : Int64)) = 0 then
            some ((1 : Int32), h)
          else
            if (lg_cmp (hL h 383 9) (1735355492 : Int64)) = 0 then
              some ((1 : Int32), h)
            else
              if (lg_cmp (hL h 383 9) (465725121651 : Int64)) = 0 then
                some ((1 : Int32), h)
              else
                if (lg_cmp (hL h 383 9) (474147546227 : Int64)) = 0 then
                  some ((1 : Int32), h)
                else
                  if (lg_cmp (hL h 383 9) (109300096856179 : Int64)) = 0 then
                    some ((1 : Int32), h)
                  else
                    if (lg_cmp (hL h 383 9) (1751474548 : Int64)) = 0 then
                      some ((1 : Int32), h)
                    else
                      if (lg_cmp (hL h 383 9) (1936613744 : Int64)) = 0 then
                        some ((1 : Int32), h)
                      else
                        if (lg_cmp (hL h 383 9) (1667330676 : Int64)) = 0 then
                          some ((1 : Int32), h)
                        else
                          if (lg_cmp (hL h 383 9) (1685217655 : Int64)) = 0 then
                            some ((1 : Int32), h)
                          else
                            if (lg_cmp (hL h 383 9) (469786453363 : Int64)) = 0 then
                              some ((1 : Int32), h)
                            else
                              if (lg_cmp (hL h 383 9) (1752135026 : Int64)) = 0 then
                                some ((1 : Int32), h)
                              else
                                if (lg_cmp (hL h 383 9) (6578553 : Int64)) = 0 then
                                  some ((1 : Int32), h)
                                else
                                  if (lg_cmp (hL h 383 9) (6385252 : Int64)) = 0 then
                                    some ((1 : Int32), h)
                                  else
                                    if (lg_cmp (hL h 383 9) (28530 : Int64)) = 0 then
                                      some ((1 : Int32), h)
                                    else
                                      if ¬ (lg_cmp (hL h 383 9) (7237492 : Int64)) = 0 then
                                        some ((0 : Int32), h)
                                      else
                                        some ((1 : Int32), h)
set_option maxHeartbeats 2000000 in
theorem ok_M_isOwn {G : AE} {n : Nat} (hn : NN ≤ n)   (h : AH) : OK G n y_M_isOwn (1) φI [.ref 383] h (f_M_isOwn h) := by
  refine ok_of (y := y_M_isOwn) (lv0 := [some (.ref 383)]) (by decide +kernel) (Nat.le_of_ble_eq_true rfl) ⟨rfl, trivial⟩ ?_
  rw [f_M_isOwn]
  refine r_aload_n (pc := 0) (i := 0) d_M_isOwn_0 rfl rfl ?_
  refine r_getf (pc := 1) (ci := 12) (k := 9) (C := "CricketHayModel") (T := F_12) (N := 73) (v := .long (hL h 383 9)) (fun s => Std.k s (lc hn rfl) kq_383) rfl (Nat.le_of_ble_eq_true rfl) rfl w_1095 (fun _ => rfl) d_M_isOwn_1 ?_
  refine r_ldc2 (pc := 4) w_1347 d_M_isOwn_4 ?_
  refine r_lcmp (pc := 7) d_M_isOwn_7 ?_
  refine r_if_eq (pc := 8) (tgt := 209) d_M_isOwn_8 (by rfl) ?_ ?_
  · refine r_iconst (pc := 209) (v := 1) d_M_isOwn_209 (by rfl) ?_
    refine r_goto (pc := 210) (tgt := 214) d_M_isOwn_210 (by rfl) ?_
    exact r_zret (pc := 214) rfl rfl d_M_isOwn_214
  · refine r_aload_n (pc := 11) (i := 0) d_M_isOwn_11 rfl rfl ?_
    refine r_getf (pc := 12) (ci := 12) (k := 9) (C := "CricketHayModel") (T := F_12) (N := 73) (v := .long (hL h 383 9)) (fun s => Std.k s (lc hn rfl) kq_383) rfl (Nat.le_of_ble_eq_true rfl) rfl w_1095 (fun _ => rfl) d_M_isOwn_12 ?_
    refine r_ldc2 (pc := 15) w_1368 d_M_isOwn_15 ?_
    refine r_lcmp (pc := 18) d_M_isOwn_18 ?_
    refine r_if_eq (pc := 19) (tgt := 209) d_M_isOwn_19 (by rfl) ?_ ?_
    · refine r_iconst (pc := 209) (v := 1) d_M_isOwn_209 (by rfl) ?_
      refine r_goto (pc := 210) (tgt := 214) d_M_isOwn_210 (by rfl) ?_
      exact r_zret (pc := 214) rfl rfl d_M_isOwn_214
    · refine r_aload_n (pc := 22) (i := 0) d_M_isOwn_22 rfl rfl ?_
      refine r_getf (pc := 23) (ci := 12) (k := 9) (C := "CricketHayModel") (T := F_12) (N := 73) (v := .long (hL h 383 9)) (fun s => Std.k s (lc hn rfl) kq_383) rfl (Nat.le_of_ble_eq_true rfl) rfl w_1095 (fun _ => rfl) d_M_isOwn_23 ?_
      refine r_ldc2 (pc := 26) w_1369 d_M_isOwn_26 ?_
      refine r_lcmp (pc := 29) d_M_isOwn_29 ?_
      refine r_if_eq (pc := 30) (tgt := 209) d_M_isOwn_30 (by rfl) ?_ ?_
      · refine r_iconst (pc := 209) (v := 1) d_M_isOwn_209 (by rfl) ?_
        refine r_goto (pc := 210) (tgt := 214) d_M_isOwn_210 (by rfl) ?_
        exact r_zret (pc := 214) rfl rfl d_M_isOwn_214
      · refine r_aload_n (pc := 33) (i := 0) d_M_isOwn_33 rfl rfl ?_
        refine r_getf (pc := 34) (ci := 12) (k := 9) (C := "CricketHayModel") (T := F_12) (N := 73) (v := .long (hL h 383 9)) (fun s => Std.k s (lc hn rfl) kq_383) rfl (Nat.le_of_ble_eq_true rfl) rfl w_1095 (fun _ => rfl) d_M_isOwn_34 ?_
        refine r_ldc2 (pc := 37) w_1370 d_M_isOwn_37 ?_
        refine r_lcmp (pc := 40) d_M_isOwn_40 ?_
        refine r_if_eq (pc := 41) (tgt := 209) d_M_isOwn_41 (by rfl) ?_ ?_
        · refine r_iconst (pc := 209) (v := 1) d_M_isOwn_209 (by rfl) ?_
          refine r_goto (pc := 210) (tgt := 214) d_M_isOwn_210 (by rfl) ?_
          exact r_zret (pc := 214) rfl rfl d_M_isOwn_214
        · refine r_aload_n (pc := 44) (i := 0) d_M_isOwn_44 rfl rfl ?_
          refine r_getf (pc := 45) (ci := 12) (k := 9) (C := "CricketHayModel") (T := F_12) (N := 73) (v := .long (hL h 383 9)) (fun s => Std.k s (lc hn rfl) kq_383) rfl (Nat.le_of_ble_eq_true rfl) rfl w_1095 (fun _ => rfl) d_M_isOwn_45 ?_
          refine r_ldc2 (pc := 48) w_1371 d_M_isOwn_48 ?_
          refine r_lcmp (pc := 51) d_M_isOwn_51 ?_
          refine r_if_eq (pc := 52) (tgt := 209) d_M_isOwn_52 (by rfl) ?_ ?_
          · refine r_iconst (pc := 209) (v := 1) d_M_isOwn_209 (by rfl) ?_
            refine r_goto (pc := 210) (tgt := 214) d_M_isOwn_210 (by rfl) ?_
            exact r_zret (pc := 214) rfl rfl d_M_isOwn_214
          · refine r_aload_n (pc := 55) (i := 0) d_M_isOwn_55 rfl rfl ?_
            refine r_getf (pc := 56) (ci := 12) (k := 9) (C := "CricketHayModel") (T := F_12) (N := 73) (v := .long (hL h 383 9)) (fun s => Std.k s (lc hn rfl) kq_383) rfl (Nat.le_of_ble_eq_true rfl) rfl w_1095 (fun _ => rfl) d_M_isOwn_56 ?_
            refine r_ldc2 (pc := 59) w_1372 d_M_isOwn_59 ?_
            refine r_lcmp (pc := 62) d_M_isOwn_62 ?_
            refine r_if_eq (pc := 63) (tgt := 209) d_M_isOwn_63 (by rfl) ?_ ?_
            · refine r_iconst (pc := 209) (v := 1) d_M_isOwn_209 (by rfl) ?_
              refine r_goto (pc := 210) (tgt := 214) d_M_isOwn_210 (by rfl) ?_
              exact r_zret (pc := 214) rfl rfl d_M_isOwn_214
            · refine r_aload_n (pc := 66) (i := 0) d_M_isOwn_66 rfl rfl ?_
              refine r_getf (pc := 67) (ci := 12) (k := 9) (C := "CricketHayModel") (T := F_12) (N := 73) (v := .long (hL h 383 9)) (fun s => Std.k s (lc hn rfl) kq_383) rfl (Nat.le_of_ble_eq_true rfl) rfl w_1095 (fun _ => rfl) d_M_isOwn_67 ?_
              refine r_ldc2 (pc := 70) w_1373 d_M_isOwn_70 ?_
              refine r_lcmp (pc := 73) d_M_isOwn_73 ?_
              refine r_if_eq (pc := 74) (tgt := 209) d_M_isOwn_74 (by rfl) ?_ ?_
              · refine r_iconst (pc := 209) (v := 1) d_M_isOwn_209 (by rfl) ?_
                refine r_goto (pc := 210) (tgt := 214) d_M_isOwn_210 (by rfl) ?_
                exact r_zret (pc := 214) rfl rfl d_M_isOwn_214
              · refine r_aload_n (pc := 77) (i := 0) d_M_isOwn_77 rfl rfl ?_
                refine r_getf (pc := 78) (ci := 12) (k := 9) (C := "CricketHayModel") (T := F_12) (N := 73) (v := .long (hL h 383 9)) (fun s => Std.k s (lc hn rfl) kq_383) rfl (Nat.le_of_ble_eq_true rfl) rfl w_1095 (fun _ => rfl) d_M_isOwn_78 ?_
                refine r_ldc2 (pc := 81) w_1374 d_M_isOwn_81 ?_
                refine r_lcmp (pc := 84) d_M_isOwn_84 ?_
                refine r_if_eq (pc := 85) (tgt := 209) d_M_isOwn_85 (by rfl) ?_ ?_
                · refine r_iconst (pc := 209) (v := 1) d_M_isOwn_209 (by rfl) ?_
                  refine r_goto (pc := 210) (tgt := 214) d_M_isOwn_210 (by rfl) ?_
                  exact r_zret (pc := 214) rfl rfl d_M_isOwn_214
                · refine r_aload_n (pc := 88) (i := 0) d_M_isOwn_88 rfl rfl ?_
                  refine r_getf (pc := 89) (ci := 12) (k := 9) (C := "CricketHayModel") (T := F_12) (N := 73) (v := .long (hL h 383 9)) (fun s => Std.k s (lc hn rfl) kq_383) rfl (Nat.le_of_ble_eq_true rfl) rfl w_1095 (fun _ => rfl) d_M_isOwn_89 ?_
                  refine r_ldc2 (pc := 92) w_1375 d_M_isOwn_92 ?_
                  refine r_lcmp (pc := 95) d_M_isOwn_95 ?_
                  refine r_if_eq (pc := 96) (tgt := 209) d_M_isOwn_96 (by rfl) ?_ ?_
                  · refine r_iconst (pc := 209) (v := 1) d_M_isOwn_209 (by rfl) ?_
                    refine r_goto (pc := 210) (tgt := 214) d_M_isOwn_210 (by rfl) ?_
                    exact r_zret (pc := 214) rfl rfl d_M_isOwn_214
                  · refine r_aload_n (pc := 99) (i := 0) d_M_isOwn_99 rfl rfl ?_
                    refine r_getf (pc := 100) (ci := 12) (k := 9) (C := "CricketHayModel") (T := F_12) (N := 73) (v := .long (hL h 383 9)) (fun s => Std.k s (lc hn rfl) kq_383) rfl (Nat.le_of_ble_eq_true rfl) rfl w_1095 (fun _ => rfl) d_M_isOwn_100 ?_
                    refine r_ldc2 (pc := 103) w_1376 d_M_isOwn_103 ?_
                    refine r_lcmp (pc := 106) d_M_isOwn_106 ?_
                    refine r_if_eq (pc := 107) (tgt := 209) d_M_isOwn_107 (by rfl) ?_ ?_
                    · refine r_iconst (pc := 209) (v := 1) d_M_isOwn_209 (by rfl) ?_
                      refine r_goto (pc := 210) (tgt := 214) d_M_isOwn_210 (by rfl) ?_
                      exact r_zret (pc := 214) rfl rfl d_M_isOwn_214
                    · refine r_aload_n (pc := 110) (i := 0) d_M_isOwn_110 rfl rfl ?_
                      refine r_getf (pc := 111) (ci := 12) (k := 9) (C := "CricketHayModel") (T := F_12) (N := 73) (v := .long (hL h 383 9)) (fun s => Std.k s (lc hn rfl) kq_383) rfl (Nat.le_of_ble_eq_true rfl) rfl w_1095 (fun _ => rfl) d_M_isOwn_111 ?_
                      refine r_ldc2 (pc := 114) w_1377 d_M_isOwn_114 ?_
                      refine r_lcmp (pc := 117) d_M_isOwn_117 ?_
                      refine r_if_eq (pc := 118) (tgt := 209) d_M_isOwn_118 (by rfl) ?_ ?_
                      · refine r_iconst (pc := 209) (v := 1) d_M_isOwn_209 (by rfl) ?_
                        refine r_goto (pc := 210) (tgt := 214) d_M_isOwn_210 (by rfl) ?_
                        exact r_zret (pc := 214) rfl rfl d_M_isOwn_214
                      · refine r_aload_n (pc := 121) (i := 0) d_M_isOwn_121 rfl rfl ?_
                        refine r_getf (pc := 122) (ci := 12) (k := 9) (C := "CricketHayModel") (T := F_12) (N := 73) (v := .long (hL h 383 9)) (fun s => Std.k s (lc hn rfl) kq_383) rfl (Nat.le_of_ble_eq_true rfl) rfl w_1095 (fun _ => rfl) d_M_isOwn_122 ?_
                        refine r_ldc2 (pc := 125) w_1378 d_M_isOwn_125 ?_
                        refine r_lcmp (pc := 128) d_M_isOwn_128 ?_
                        refine r_if_eq (pc := 129) (tgt := 209) d_M_isOwn_129 (by rfl) ?_ ?_
                        · refine r_iconst (pc := 209) (v := 1) d_M_isOwn_209 (by rfl) ?_
                          refine r_goto (pc := 210) (tgt := 214) d_M_isOwn_210 (by rfl) ?_
                          exact r_zret (pc := 214) rfl rfl d_M_isOwn_214
                        · refine r_aload_n (pc := 132) (i := 0) d_M_isOwn_132 rfl rfl ?_
                          refine r_getf (pc := 133) (ci := 12) (k := 9) (C := "CricketHayModel") (T := F_12) (N := 73) (v := .long (hL h 383 9)) (fun s => Std.k s (lc hn rfl) kq_383) rfl (Nat.le_of_ble_eq_true rfl) rfl w_1095 (fun _ => rfl) d_M_isOwn_133 ?_
                          refine r_ldc2 (pc := 136) w_1379 d_M_isOwn_136 ?_
                          refine r_lcmp (pc := 139) d_M_isOwn_139 ?_
                          refine r_if_eq (pc := 140) (tgt := 209) d_M_isOwn_140 (by rfl) ?_ ?_
                          · refine r_iconst (pc := 209) (v := 1) d_M_isOwn_209 (by rfl) ?_
                            refine r_goto (pc := 210) (tgt := 214) d_M_isOwn_210 (by rfl) ?_
                            exact r_zret (pc := 214) rfl rfl d_M_isOwn_214
                          · refine r_aload_n (pc := 143) (i := 0) d_M_isOwn_143 rfl rfl ?_
                            refine r_getf (pc := 144) (ci := 12) (k := 9) (C := "CricketHayModel") (T := F_12) (N := 73) (v := .long (hL h 383 9)) (fun s => Std.k s (lc hn rfl) kq_383) rfl (Nat.le_of_ble_eq_true rfl) rfl w_1095 (fun _ => rfl) d_M_isOwn_144 ?_
                            refine r_ldc2 (pc := 147) w_1380 d_M_isOwn_147 ?_
                            refine r_lcmp (pc := 150) d_M_isOwn_150 ?_
                            refine r_if_eq (pc := 151) (tgt := 209) d_M_isOwn_151 (by rfl) ?_ ?_
                            · refine r_iconst (pc := 209) (v := 1) d_M_isOwn_209 (by rfl) ?_
                              refine r_goto (pc := 210) (tgt := 214) d_M_isOwn_210 (by rfl) ?_
                              exact r_zret (pc := 214) rfl rfl d_M_isOwn_214
                            · refine r_aload_n (pc := 154) (i := 0) d_M_isOwn_154 rfl rfl ?_
                              refine r_getf (pc := 155) (ci := 12) (k := 9) (C := "CricketHayModel") (T := F_12) (N := 73) (v := .long (hL h 383 9)) (fun s => Std.k s (lc hn rfl) kq_383) rfl (Nat.le_of_ble_eq_true rfl) rfl w_1095 (fun _ => rfl) d_M_isOwn_155 ?_
                              refine r_ldc2 (pc := 158) w_1381 d_M_isOwn_158 ?_
                              refine r_lcmp (pc := 161) d_M_isOwn_161 ?_
                              refine r_if_eq (pc := 162) (tgt := 209) d_M_isOwn_162 (by rfl) ?_ ?_
                              · refine r_iconst (pc := 209) (v := 1) d_M_isOwn_209 (by rfl) ?_
                                refine r_goto (pc := 210) (tgt := 214) d_M_isOwn_210 (by rfl) ?_
                                exact r_zret (pc := 214) rfl rfl d_M_isOwn_214
                              · refine r_aload_n (pc := 165) (i := 0) d_M_isOwn_165 rfl rfl ?_
                                refine r_getf (pc := 166) (ci := 12) (k := 9) (C := "CricketHayModel") (T := F_12) (N := 73) (v := .long (hL h 383 9)) (fun s => Std.k s (lc hn rfl) kq_383) rfl (Nat.le_of_ble_eq_true rfl) rfl w_1095 (fun _ => rfl) d_M_isOwn_166 ?_
                                refine r_ldc2 (pc := 169) w_1382 d_M_isOwn_169 ?_
                                refine r_lcmp (pc := 172) d_M_isOwn_172 ?_
                                refine r_if_eq (pc := 173) (tgt := 209) d_M_isOwn_173 (by rfl) ?_ ?_
                                · refine r_iconst (pc := 209) (v := 1) d_M_isOwn_209 (by rfl) ?_
                                  refine r_goto (pc := 210) (tgt := 214) d_M_isOwn_210 (by rfl) ?_
                                  exact r_zret (pc := 214) rfl rfl d_M_isOwn_214
                                · refine r_aload_n (pc := 176) (i := 0) d_M_isOwn_176 rfl rfl ?_
                                  refine r_getf (pc := 177) (ci := 12) (k := 9) (C := "CricketHayModel") (T := F_12) (N := 73) (v := .long (hL h 383 9)) (fun s => Std.k s (lc hn rfl) kq_383) rfl (Nat.le_of_ble_eq_true rfl) rfl w_1095 (fun _ => rfl) d_M_isOwn_177 ?_
                                  refine r_ldc2 (pc := 180) w_1383 d_M_isOwn_180 ?_
                                  refine r_lcmp (pc := 183) d_M_isOwn_183 ?_
                                  refine r_if_eq (pc := 184) (tgt := 209) d_M_isOwn_184 (by rfl) ?_ ?_
                                  · refine r_iconst (pc := 209) (v := 1) d_M_isOwn_209 (by rfl) ?_
                                    refine r_goto (pc := 210) (tgt := 214) d_M_isOwn_210 (by rfl) ?_
                                    exact r_zret (pc := 214) rfl rfl d_M_isOwn_214
                                  · refine r_aload_n (pc := 187) (i := 0) d_M_isOwn_187 rfl rfl ?_
                                    refine r_getf (pc := 188) (ci := 12) (k := 9) (C := "CricketHayModel") (T := F_12) (N := 73) (v := .long (hL h 383 9)) (fun s => Std.k s (lc hn rfl) kq_383) rfl (Nat.le_of_ble_eq_true rfl) rfl w_1095 (fun _ => rfl) d_M_isOwn_188 ?_
                                    refine r_ldc2 (pc := 191) w_1384 d_M_isOwn_191 ?_
                                    refine r_lcmp (pc := 194) d_M_isOwn_194 ?_
                                    refine r_if_eq (pc := 195) (tgt := 209) d_M_isOwn_195 (by rfl) ?_ ?_
                                    · refine r_iconst (pc := 209) (v := 1) d_M_isOwn_209 (by rfl) ?_
                                      refine r_goto (pc := 210) (tgt := 214) d_M_isOwn_210 (by rfl) ?_
                                      exact r_zret (pc := 214) rfl rfl d_M_isOwn_214
                                    · refine r_aload_n (pc := 198) (i := 0) d_M_isOwn_198 rfl rfl ?_
                                      refine r_getf (pc := 199) (ci := 12) (k := 9) (C := "CricketHayModel") (T := F_12) (N := 73) (v := .long (hL h 383 9)) (fun s => Std.k s (lc hn rfl) kq_383) rfl (Nat.le_of_ble_eq_true rfl) rfl w_1095 (fun _ => rfl) d_M_isOwn_199 ?_
                                      refine r_ldc2 (pc := 202) w_1385 d_M_isOwn_202 ?_
                                      refine r_lcmp (pc := 205) d_M_isOwn_205 ?_
                                      refine r_if_ne (pc := 206) (tgt := 213) d_M_isOwn_206 (by rfl) ?_ ?_
                                      · refine r_iconst (pc := 213) (v := 0) d_M_isOwn_213 (by rfl) ?_
                                        exact r_zret (pc := 214) rfl rfl d_M_isOwn_214
                                      · refine r_iconst (pc := 209) (v := 1) d_M_isOwn_209 (by rfl) ?_
                                        refine r_goto (pc := 210) (tgt := 214) d_M_isOwn_210 (by rfl) ?_
                                        exact r_zret (pc := 214) rfl rfl d_M_isOwn_214

def f_M_isName   (h : AH) : Option (Int32 × AH) :=
  if ¬ (hI h 383 6) = (1 : Int32) then
    some ((0 : Int32), h)
  else
    bI (f_M_isOwn h) fun rq1 hq2 =>
    if ¬ rq1 = 0 then
      some ((0 : Int32), hq2)
    else
      some ((1 : Int32), hq2)
set_option maxHeartbeats 2000000 in
theorem ok_M_isName {G : AE} {n : Nat} (hn : NN ≤ n)   (h : AH) : OK G n y_M_isName (2) φI [.ref 383] h (f_M_isName h) := by
  refine ok_of (y := y_M_isName) (lv0 := [some (.ref 383)]) (by decide +kernel) (Nat.le_of_ble_eq_true rfl) ⟨rfl, trivial⟩ ?_
  rw [f_M_isName]
  refine r_aload_n (pc := 0) (i := 0) d_M_isName_0 rfl rfl ?_
  refine r_getf (pc := 1) (ci := 12) (k := 6) (C := "CricketHayModel") (T := F_12) (N := 73) (v := .int (hI h 383 6)) (fun s => Std.k s (lc hn rfl) kq_383) rfl (Nat.le_of_ble_eq_true rfl) rfl w_1092 (fun _ => rfl) d_M_isName_1 ?_
  refine r_iconst (pc := 4) (v := 1) d_M_isName_4 (by rfl) ?_
  refine r_icmp_ne (pc := 5) (tgt := 19) d_M_isName_5 (by rfl) ?_ ?_
  · refine r_iconst (pc := 19) (v := 0) d_M_isName_19 (by rfl) ?_
    exact r_zret (pc := 20) rfl rfl d_M_isName_20
  · refine r_aload_n (pc := 8) (i := 0) d_M_isName_8 rfl rfl ?_
    refine r_cVi (pc := 9) (T := F_12) (N := 73) (st := []) (ok_M_isOwn hn h) (fun s => Std.k s (lc hn rfl) kq_383) rfl w_1367 w_13 w_1364 w_1366 ws_55 hy_M_isOwn ⟨Nat.le_of_ble_eq_true rfl, Nat.le_of_ble_eq_true rfl⟩ ⟨Nat.le_of_ble_eq_true rfl, Nat.le_of_ble_eq_true rfl⟩ rfl (Nat.le_of_ble_eq_true rfl) d_M_isName_9 (fun rq1 hq2 => ?_)
    refine r_if_ne (pc := 12) (tgt := 19) d_M_isName_12 (by rfl) ?_ ?_
    · refine r_iconst (pc := 19) (v := 0) d_M_isName_19 (by rfl) ?_
      exact r_zret (pc := 20) rfl rfl d_M_isName_20
    · refine r_iconst (pc := 15) (v := 1) d_M_isName_15 (by rfl) ?_
      refine r_goto (pc := 16) (tgt := 20) d_M_isName_16 (by rfl) ?_
      exact r_zret (pc := 20) rfl rfl d_M_isName_20

def f_M_want  (a1 : Int64) (h : AH) : Option AH :=
  if (hI h 383 2) ≤ 0 then
    bI (f_M_isWord a1 h) fun rq1 hq2 =>
    if ¬ rq1 = 0 then
      bV (f_M_token hq2) fun hq3 =>
      some hq3
    else
      bV (f_M_wrong (2 : Int32) hq2) fun hq4 =>
      some hq4
  else
    some h
set_option maxHeartbeats 2000000 in
theorem ok_M_want {G : AE} {n : Nat} (hn : NN ≤ n)  (a1 : Int64) (h : AH) : OK G n y_M_want (3) φV [.ref 383, .long a1] h (f_M_want a1 h) := by
  refine ok_of (y := y_M_want) (lv0 := [some (.ref 383), some (.long a1), none]) (by decide +kernel) (Nat.le_of_ble_eq_true rfl) ⟨rfl, ⟨rfl, trivial⟩⟩ ?_
  rw [f_M_want]
  refine r_aload_n (pc := 0) (i := 0) d_M_want_0 rfl rfl ?_
  refine r_getf (pc := 1) (ci := 12) (k := 2) (C := "CricketHayModel") (T := F_12) (N := 73) (v := .int (hI h 383 2)) (fun s => Std.k s (lc hn rfl) kq_383) rfl (Nat.le_of_ble_eq_true rfl) rfl w_1088 (fun _ => rfl) d_M_want_1 ?_
  refine r_if_le (pc := 4) (tgt := 8) d_M_want_4 (by rfl) ?_ ?_
  · refine r_aload_n (pc := 8) (i := 0) d_M_want_8 rfl rfl ?_
    refine r_lload_n (pc := 9) (i := 1) d_M_want_9 rfl rfl ?_
    refine r_cVi (pc := 10) (T := F_12) (N := 73) (st := []) (ok_M_isWord hn a1 h) (fun s => Std.k s (lc hn rfl) kq_383) rfl w_1351 w_13 w_1348 w_1350 ws_51 hy_M_isWord ⟨Nat.le_of_ble_eq_true rfl, Nat.le_of_ble_eq_true rfl⟩ ⟨Nat.le_of_ble_eq_true rfl, Nat.le_of_ble_eq_true rfl⟩ rfl (Nat.le_of_ble_eq_true rfl) d_M_want_10 (fun rq1 hq2 => ?_)
    refine r_if_ne (pc := 13) (tgt := 24) d_M_want_13 (by rfl) ?_ ?_
    · refine r_aload_n (pc := 24) (i := 0) d_M_want_24 rfl rfl ?_
      refine r_cVv (pc := 25) (T := F_12) (N := 73) (st := []) (ok_M_token hn hq2) (fun s => Std.k s (lc hn rfl) kq_383) rfl w_1329 w_13 w_1326 w_1328 ws_48 hy_M_token ⟨Nat.le_of_ble_eq_true rfl, Nat.le_of_ble_eq_true rfl⟩ ⟨Nat.le_of_ble_eq_true rfl, Nat.le_of_ble_eq_true rfl⟩ rfl (Nat.le_of_ble_eq_true rfl) d_M_want_25 (fun hq3 => ?_)
      exact r_vret (pc := 28) rfl d_M_want_28
    · refine r_aload_n (pc := 16) (i := 0) d_M_want_16 rfl rfl ?_
      refine r_iconst (pc := 17) (v := 2) d_M_want_17 (by rfl) ?_
      refine r_cVv (pc := 18) (T := F_12) (N := 73) (st := []) (ok_M_wrong hn (2 : Int32) hq2) (fun s => Std.k s (lc hn rfl) kq_383) rfl w_1389 w_13 w_1386 w_1388 ws_56 hy_M_wrong ⟨Nat.le_of_ble_eq_true rfl, Nat.le_of_ble_eq_true rfl⟩ ⟨Nat.le_of_ble_eq_true rfl, Nat.le_of_ble_eq_true rfl⟩ rfl (Nat.le_of_ble_eq_true rfl) d_M_want_18 (fun hq4 => ?_)
      refine r_goto (pc := 21) (tgt := 28) d_M_want_21 (by rfl) ?_
      exact r_vret (pc := 28) rfl d_M_want_28
  · exact r_vret (pc := 7) rfl d_M_want_7

def f_M_toldNumber_b46  (a1 : Int32) (a2 : Int32)   (h : AH) : Option (Int32 × AH) :=
  lt (hI h 383 8) fun xq1 =>
  if ¬ (hI h 383 2) = 0 then
    some (xq1, h)
  else
    bV (f_M_token h) fun hq2 =>
    some (xq1, hq2)
set_option maxHeartbeats 2000000 in
theorem o_M_toldNumber_b46 {G : AE} {n : Nat} (hn : NN ≤ n)  {a1 : Int32} {a2 : Int32}   : ∀  (h : AH), AJ G n y_M_toldNumber (3) φI 46 [some (.ref 383), none, none, none] [] h (f_M_toldNumber_b46 a1 a2 h) := by
  intro  h
  rw [f_M_toldNumber_b46]
  refine r_aload_n (pc := 46) (i := 0) d_M_toldNumber_46 rfl rfl ?_
  refine r_getf (pc := 47) (ci := 12) (k := 8) (C := "CricketHayModel") (T := F_12) (N := 73) (v := .int (hI h 383 8)) (fun s => Std.k s (lc hn rfl) kq_383) rfl (Nat.le_of_ble_eq_true rfl) rfl w_1094 (fun _ => rfl) d_M_toldNumber_47 ?_
  refine r_ltI (fun xq1 => ?_)
  refine r_istore_n (pc := 50) (i := 3) (lv1 := [some (.ref 383), none, none, some (.int xq1)]) d_M_toldNumber_50 rfl (Nat.le_of_ble_eq_true rfl) rfl ?_
  refine r_aload_n (pc := 51) (i := 0) d_M_toldNumber_51 rfl rfl ?_
  refine r_getf (pc := 52) (ci := 12) (k := 2) (C := "CricketHayModel") (T := F_12) (N := 73) (v := .int (hI h 383 2)) (fun s => Std.k s (lc hn rfl) kq_383) rfl (Nat.le_of_ble_eq_true rfl) rfl w_1088 (fun _ => rfl) d_M_toldNumber_52 ?_
  refine r_if_ne (pc := 55) (tgt := 62) d_M_toldNumber_55 (by rfl) ?_ ?_
  · refine r_iload_n (pc := 62) (i := 3) d_M_toldNumber_62 rfl rfl ?_
    exact r_iret (pc := 63) rfl d_M_toldNumber_63
  · refine r_aload_n (pc := 58) (i := 0) d_M_toldNumber_58 rfl rfl ?_
    refine r_cVv (pc := 59) (T := F_12) (N := 73) (st := []) (ok_M_token hn h) (fun s => Std.k s (lc hn rfl) kq_383) rfl w_1329 w_13 w_1326 w_1328 ws_48 hy_M_token ⟨Nat.le_of_ble_eq_true rfl, Nat.le_of_ble_eq_true rfl⟩ ⟨Nat.le_of_ble_eq_true rfl, Nat.le_of_ble_eq_true rfl⟩ rfl (Nat.le_of_ble_eq_true rfl) d_M_toldNumber_59 (fun hq2 => ?_)
    refine r_iload_n (pc := 62) (i := 3) d_M_toldNumber_62 rfl rfl ?_
    exact r_iret (pc := 63) rfl d_M_toldNumber_63
def f_M_toldNumber_b41  (a1 : Int32) (a2 : Int32)   (h : AH) : Option (Int32 × AH) :=
  bV (f_M_wrong (4 : Int32) h) fun hq1 =>
  f_M_toldNumber_b46 a1 a2 hq1
set_option maxHeartbeats 2000000 in
theorem o_M_toldNumber_b41 {G : AE} {n : Nat} (hn : NN ≤ n)  {a1 : Int32} {a2 : Int32}   : ∀  (h : AH), AJ G n y_M_toldNumber (3) φI 41 [some (.ref 383), none, none, none] [] h (f_M_toldNumber_b41 a1 a2 h) := by
  intro  h
  rw [f_M_toldNumber_b41]
  refine r_aload_n (pc := 41) (i := 0) d_M_toldNumber_41 rfl rfl ?_
  refine r_iconst (pc := 42) (v := 4) d_M_toldNumber_42 (by rfl) ?_
  refine r_cVv (pc := 43) (T := F_12) (N := 73) (st := []) (ok_M_wrong hn (4 : Int32) h) (fun s => Std.k s (lc hn rfl) kq_383) rfl w_1389 w_13 w_1386 w_1388 ws_56 hy_M_wrong ⟨Nat.le_of_ble_eq_true rfl, Nat.le_of_ble_eq_true rfl⟩ ⟨Nat.le_of_ble_eq_true rfl, Nat.le_of_ble_eq_true rfl⟩ rfl (Nat.le_of_ble_eq_true rfl) d_M_toldNumber_43 (fun hq1 => ?_)
  exact r_wk (o_M_toldNumber_b46 hn hq1) ⟨rfl, trivial⟩
def f_M_toldNumber  (a1 : Int32) (a2 : Int32) (h : AH) : Option (Int32 × AH) :=
  if (hI h 383 2) ≤ 0 then
    if (hI h 383 6) = (2 : Int32) then
      if (hI h 383 8) < a1 then
        f_M_toldNumber_b41 a1 a2 h
      else
        if (hI h 383 8) ≤ a2 then
          f_M_toldNumber_b46 a1 a2 h
        else
          f_M_toldNumber_b41 a1 a2 h
    else
      bV (f_M_wrong (2 : Int32) h) fun hq1 =>
      f_M_toldNumber_b46 a1 a2 hq1
  else
    some ((0 : Int32), h)
set_option maxHeartbeats 2000000 in
theorem ok_M_toldNumber {G : AE} {n : Nat} (hn : NN ≤ n)  (a1 : Int32) (a2 : Int32) (h : AH) : OK G n y_M_toldNumber (3) φI [.ref 383, .int a1, .int a2] h (f_M_toldNumber a1 a2 h) := by
  refine ok_of (y := y_M_toldNumber) (lv0 := [some (.ref 383), some (.int a1), some (.int a2), none]) (by decide +kernel) (Nat.le_of_ble_eq_true rfl) ⟨rfl, ⟨rfl, ⟨rfl, trivial⟩⟩⟩ ?_
  rw [f_M_toldNumber]
  refine r_aload_n (pc := 0) (i := 0) d_M_toldNumber_0 rfl rfl ?_
  refine r_getf (pc := 1) (ci := 12) (k := 2) (C := "CricketHayModel") (T := F_12) (N := 73) (v := .int (hI h 383 2)) (fun s => Std.k s (lc hn rfl) kq_383) rfl (Nat.le_of_ble_eq_true rfl) rfl w_1088 (fun _ => rfl) d_M_toldNumber_1 ?_
  refine r_if_le (pc := 4) (tgt := 9) d_M_toldNumber_4 (by rfl) ?_ ?_
  · refine r_aload_n (pc := 9) (i := 0) d_M_toldNumber_9 rfl rfl ?_
    refine r_getf (pc := 10) (ci := 12) (k := 6) (C := "CricketHayModel") (T := F_12) (N := 73) (v := .int (hI h 383 6)) (fun s => Std.k s (lc hn rfl) kq_383) rfl (Nat.le_of_ble_eq_true rfl) rfl w_1092 (fun _ => rfl) d_M_toldNumber_10 ?_
    refine r_iconst (pc := 13) (v := 2) d_M_toldNumber_13 (by rfl) ?_
    refine r_icmp_eq (pc := 14) (tgt := 25) d_M_toldNumber_14 (by rfl) ?_ ?_
    · refine r_aload_n (pc := 25) (i := 0) d_M_toldNumber_25 rfl rfl ?_
      refine r_getf (pc := 26) (ci := 12) (k := 8) (C := "CricketHayModel") (T := F_12) (N := 73) (v := .int (hI h 383 8)) (fun s => Std.k s (lc hn rfl) kq_383) rfl (Nat.le_of_ble_eq_true rfl) rfl w_1094 (fun _ => rfl) d_M_toldNumber_26 ?_
      refine r_iload_n (pc := 29) (i := 1) d_M_toldNumber_29 rfl rfl ?_
      refine r_icmp_lt (pc := 30) (tgt := 41) d_M_toldNumber_30 (by rfl) ?_ ?_
      · exact r_wk (o_M_toldNumber_b41 hn h) ⟨rfl, trivial⟩
      · refine r_aload_n (pc := 33) (i := 0) d_M_toldNumber_33 rfl rfl ?_
        refine r_getf (pc := 34) (ci := 12) (k := 8) (C := "CricketHayModel") (T := F_12) (N := 73) (v := .int (hI h 383 8)) (fun s => Std.k s (lc hn rfl) kq_383) rfl (Nat.le_of_ble_eq_true rfl) rfl w_1094 (fun _ => rfl) d_M_toldNumber_34 ?_
        refine r_iload_n (pc := 37) (i := 2) d_M_toldNumber_37 rfl rfl ?_
        refine r_icmp_le (pc := 38) (tgt := 46) d_M_toldNumber_38 (by rfl) ?_ ?_
        · exact r_wk (o_M_toldNumber_b46 hn h) ⟨rfl, trivial⟩
        · exact r_wk (o_M_toldNumber_b41 hn h) ⟨rfl, trivial⟩
    · refine r_aload_n (pc := 17) (i := 0) d_M_toldNumber_17 rfl rfl ?_
      refine r_iconst (pc := 18) (v := 2) d_M_toldNumber_18 (by rfl) ?_
      refine r_cVv (pc := 19) (T := F_12) (N := 73) (st := []) (ok_M_wrong hn (2 : Int32) h) (fun s => Std.k s (lc hn rfl) kq_383) rfl w_1389 w_13 w_1386 w_1388 ws_56 hy_M_wrong ⟨Nat.le_of_ble_eq_true rfl, Nat.le_of_ble_eq_true rfl⟩ ⟨Nat.le_of_ble_eq_true rfl, Nat.le_of_ble_eq_true rfl⟩ rfl (Nat.le_of_ble_eq_true rfl) d_M_toldNumber_19 (fun hq1 => ?_)
      refine r_goto (pc := 22) (tgt := 46) d_M_toldNumber_22 (by rfl) ?_
      exact r_wk (o_M_toldNumber_b46 hn hq1) ⟨rfl, trivial⟩
  · refine r_iconst (pc := 7) (v := 0) d_M_toldNumber_7 (by rfl) ?_
    exact r_iret (pc := 8) rfl d_M_toldNumber_8

def f_M_told  (a1 : Int64) (a3 : Int32) (a4 : Int32) (h : AH) : Option (Int32 × AH) :=
  bV (f_M_want a1 h) fun hq1 =>
  bI (f_M_toldNumber a3 a4 hq1) fun rq2 hq3 =>
  some (rq2, hq3)
set_option maxHeartbeats 2000000 in
theorem ok_M_told {G : AE} {n : Nat} (hn : NN ≤ n)  (a1 : Int64) (a3 : Int32) (a4 : Int32) (h : AH) : OK G n y_M_told (4) φI [.ref 383, .long a1, .int a3, .int a4] h (f_M_told a1 a3 a4 h) := by
  refine ok_of (y := y_M_told) (lv0 := [some (.ref 383), some (.long a1), none, some (.int a3), some (.int a4)]) (by decide +kernel) (Nat.le_of_ble_eq_true rfl) ⟨rfl, ⟨rfl, ⟨rfl, ⟨rfl, trivial⟩⟩⟩⟩ ?_
  rw [f_M_told]
  refine r_aload_n (pc := 0) (i := 0) d_M_told_0 rfl rfl ?_
  refine r_lload_n (pc := 1) (i := 1) d_M_told_1 rfl rfl ?_
  refine r_cVv (pc := 2) (T := F_12) (N := 73) (st := []) (ok_M_want hn a1 h) (fun s => Std.k s (lc hn rfl) kq_383) rfl w_1401 w_13 w_1398 w_1400 ws_59 hy_M_want ⟨Nat.le_of_ble_eq_true rfl, Nat.le_of_ble_eq_true rfl⟩ ⟨Nat.le_of_ble_eq_true rfl, Nat.le_of_ble_eq_true rfl⟩ rfl (Nat.le_of_ble_eq_true rfl) d_M_told_2 (fun hq1 => ?_)
  refine r_aload_n (pc := 5) (i := 0) d_M_told_5 rfl rfl ?_
  refine r_iload_n (pc := 6) (i := 3) d_M_told_6 rfl rfl ?_
  refine r_iload (pc := 7) d_M_told_7 rfl ?_
  refine r_cVi (pc := 9) (T := F_12) (N := 73) (st := []) (ok_M_toldNumber hn a3 a4 hq1) (fun s => Std.k s (lc hn rfl) kq_383) rfl w_1409 w_13 w_1406 w_1408 ws_61 hy_M_toldNumber ⟨Nat.le_of_ble_eq_true rfl, Nat.le_of_ble_eq_true rfl⟩ ⟨Nat.le_of_ble_eq_true rfl, Nat.le_of_ble_eq_true rfl⟩ rfl (Nat.le_of_ble_eq_true rfl) d_M_told_9 (fun rq2 hq3 => ?_)
  exact r_iret (pc := 12) rfl d_M_told_12

def f_M_option  (a1 : Int64) (a3 : Int32) (h : AH) : Option (Int32 × AH) :=
  if ¬ (hI h 383 2) = 0 then
    some ((0 : Int32), h)
  else
    bI (f_M_isWord a1 h) fun rq1 hq2 =>
    if rq1 = 0 then
      some ((0 : Int32), hq2)
    else
      bI (f_M_told a1 (0 : Int32) a3 hq2) fun rq3 hq4 =>
      some (rq3, hq4)
set_option maxHeartbeats 2000000 in
theorem ok_M_option {G : AE} {n : Nat} (hn : NN ≤ n)  (a1 : Int64) (a3 : Int32) (h : AH) : OK G n y_M_option (5) φI [.ref 383, .long a1, .int a3] h (f_M_option a1 a3 h) := by
  refine ok_of (y := y_M_option) (lv0 := [some (.ref 383), some (.long a1), none, some (.int a3)]) (by decide +kernel) (Nat.le_of_ble_eq_true rfl) ⟨rfl, ⟨rfl, ⟨rfl, trivial⟩⟩⟩ ?_
  rw [f_M_option]
  refine r_aload_n (pc := 0) (i := 0) d_M_option_0 rfl rfl ?_
  refine r_getf (pc := 1) (ci := 12) (k := 2) (C := "CricketHayModel") (T := F_12) (N := 73) (v := .int (hI h 383 2)) (fun s => Std.k s (lc hn rfl) kq_383) rfl (Nat.le_of_ble_eq_true rfl) rfl w_1088 (fun _ => rfl) d_M_option_1 ?_
  refine r_if_ne (pc := 4) (tgt := 25) d_M_option_4 (by rfl) ?_ ?_
  · refine r_iconst (pc := 25) (v := 0) d_M_option_25 (by rfl) ?_
    exact r_iret (pc := 26) rfl d_M_option_26
  · refine r_aload_n (pc := 7) (i := 0) d_M_option_7 rfl rfl ?_
    refine r_lload_n (pc := 8) (i := 1) d_M_option_8 rfl rfl ?_
    refine r_cVi (pc := 9) (T := F_12) (N := 73) (st := []) (ok_M_isWord hn a1 h) (fun s => Std.k s (lc hn rfl) kq_383) rfl w_1351 w_13 w_1348 w_1350 ws_51 hy_M_isWord ⟨Nat.le_of_ble_eq_true rfl, Nat.le_of_ble_eq_true rfl⟩ ⟨Nat.le_of_ble_eq_true rfl, Nat.le_of_ble_eq_true rfl⟩ rfl (Nat.le_of_ble_eq_true rfl) d_M_option_9 (fun rq1 hq2 => ?_)
    refine r_if_eq (pc := 12) (tgt := 25) d_M_option_12 (by rfl) ?_ ?_
    · refine r_iconst (pc := 25) (v := 0) d_M_option_25 (by rfl) ?_
      exact r_iret (pc := 26) rfl d_M_option_26
    · refine r_aload_n (pc := 15) (i := 0) d_M_option_15 rfl rfl ?_
      refine r_lload_n (pc := 16) (i := 1) d_M_option_16 rfl rfl ?_
      refine r_iconst (pc := 17) (v := 0) d_M_option_17 (by rfl) ?_
      refine r_iload_n (pc := 18) (i := 3) d_M_option_18 rfl rfl ?_
      refine r_cVi (pc := 19) (T := F_12) (N := 73) (st := []) (ok_M_told hn a1 (0 : Int32) a3 hq2) (fun s => Std.k s (lc hn rfl) kq_383) rfl w_1405 w_13 w_1402 w_1404 ws_60 hy_M_told ⟨Nat.le_of_ble_eq_true rfl, Nat.le_of_ble_eq_true rfl⟩ ⟨Nat.le_of_ble_eq_true rfl, Nat.le_of_ble_eq_true rfl⟩ rfl (Nat.le_of_ble_eq_true rfl) d_M_option_19 (fun rq3 hq4 => ?_)
      refine r_goto (pc := 22) (tgt := 26) d_M_option_22 (by rfl) ?_
      exact r_iret (pc := 26) rfl d_M_option_26

def f_M_find_l5  (a1 : Int32) (a2 : Int32)  : Nat → Int32 → Int32 → AH → Option (Int32 × AH)
  | 0, _, _, _ => none
  | n + 1, x3, x4, h =>
    if a2 ≤ x4 then
      some (x3, h)
    else
      gx (a1 + x4) 9 <|
      if ¬ (lg_cmp (hL h 385 (ix (a1 + x4))) (hL h 383 9)) = 0 then
        lt (x4 + (1 : Int32)) fun xq2 =>
        f_M_find_l5 a1 a2 n x3 xq2 h
      else
        lt (x4 + (1 : Int32)) fun xq3 =>
        f_M_find_l5 a1 a2 n x4 xq3 h
set_option maxHeartbeats 2000000 in
theorem o_M_find_l5 {G : AE} {n : Nat} (hn : NN ≤ n)  {a1 : Int32} {a2 : Int32}   : ∀ (n0 : Nat) (x3 : Int32) (x4 : Int32) (h : AH), AJ G n y_M_find (1) φI 5 [some (.ref 383), some (.int a1), some (.int a2), some (.int x3), some (.int x4)] [] h (f_M_find_l5 a1 a2 n0 x3 x4 h) := by
  intro n0
  induction n0 with
  | zero => intros; exact r_none
  | succ n0 ih =>
    intro x3 x4 h
    rw [f_M_find_l5]
    refine r_iload (pc := 5) d_M_find_5 rfl ?_
    refine r_iload_n (pc := 7) (i := 2) d_M_find_7 rfl rfl ?_
    refine r_icmp_ge (pc := 8) (tgt := 41) d_M_find_8 (by rfl) ?_ ?_
    · refine r_iload_n (pc := 41) (i := 3) d_M_find_41 rfl rfl ?_
      exact r_iret (pc := 42) rfl d_M_find_42
    · refine r_aload_n (pc := 11) (i := 0) d_M_find_11 rfl rfl ?_
      refine r_getf (pc := 12) (ci := 12) (k := 10) (C := "CricketHayModel") (T := F_12) (N := 73) (v := .ref 385) (fun s => Std.k s (lc hn rfl) kq_383) rfl (Nat.le_of_ble_eq_true rfl) rfl w_1096 (fun s => vr rfl (Std.r s (lc hn rfl) rq_383_10)) d_M_find_12 ?_
      refine r_iload_n (pc := 15) (i := 1) d_M_find_15 rfl rfl ?_
      refine r_iload (pc := 16) d_M_find_16 rfl ?_
      refine r_iadd (pc := 18) d_M_find_18 ?_
      refine r_gx (fun zq1 => ?_)
      refine r_lald (pc := 19) (n := 9) (i0 := (ix (a1 + x4))) (fun s => Std.k s (lc hn rfl) kq_385) zq1 rfl d_M_find_19 ?_
      refine r_aload_n (pc := 20) (i := 0) d_M_find_20 rfl rfl ?_
      refine r_getf (pc := 21) (ci := 12) (k := 9) (C := "CricketHayModel") (T := F_12) (N := 73) (v := .long (hL h 383 9)) (fun s => Std.k s (lc hn rfl) kq_383) rfl (Nat.le_of_ble_eq_true rfl) rfl w_1095 (fun _ => rfl) d_M_find_21 ?_
      refine r_lcmp (pc := 24) d_M_find_24 ?_
      refine r_if_ne (pc := 25) (tgt := 33) d_M_find_25 (by rfl) ?_ ?_
      · refine r_iload_n (pc := 33) (i := 3) d_M_find_33 rfl rfl ?_
        refine r_istore_n (pc := 34) (i := 3) (lv1 := [some (.ref 383), some (.int a1), some (.int a2), some (.int x3), some (.int x4)]) d_M_find_34 rfl (Nat.le_of_ble_eq_true rfl) rfl ?_
        refine r_ltE (fun xq2 exq2 => ?_)
        refine r_iinc (pc := 35) (v := xq2) (lv1 := [some (.ref 383), some (.int a1), some (.int a2), some (.int x3), some (.int xq2)]) d_M_find_35 rfl exq2.symm (Nat.le_of_ble_eq_true rfl) rfl ?_
        refine r_goto (pc := 38) (tgt := 5) d_M_find_38 (by rfl) ?_
        exact r_wk (ih x3 xq2 h) ⟨rfl, ⟨rfl, ⟨rfl, ⟨rfl, ⟨rfl, trivial⟩⟩⟩⟩⟩
      · refine r_iload (pc := 28) d_M_find_28 rfl ?_
        refine r_goto (pc := 30) (tgt := 34) d_M_find_30 (by rfl) ?_
        refine r_istore_n (pc := 34) (i := 3) (lv1 := [some (.ref 383), some (.int a1), some (.int a2), some (.int x4), some (.int x4)]) d_M_find_34 rfl (Nat.le_of_ble_eq_true rfl) rfl ?_
        refine r_ltE (fun xq3 exq3 => ?_)
        refine r_iinc (pc := 35) (v := xq3) (lv1 := [some (.ref 383), some (.int a1), some (.int a2), some (.int x4), some (.int xq3)]) d_M_find_35 rfl exq3.symm (Nat.le_of_ble_eq_true rfl) rfl ?_
        refine r_goto (pc := 38) (tgt := 5) d_M_find_38 (by rfl) ?_
        exact r_wk (ih x4 xq3 h) ⟨rfl, ⟨rfl, ⟨rfl, ⟨rfl, ⟨rfl, trivial⟩⟩⟩⟩⟩
def f_M_find  (a1 : Int32) (a2 : Int32) (h : AH) : Option (Int32 × AH) :=
  f_M_find_l5 a1 a2 FU (-1 : Int32) (0 : Int32) h
set_option maxHeartbeats 2000000 in
theorem ok_M_find {G : AE} {n : Nat} (hn : NN ≤ n)  (a1 : Int32) (a2 : Int32) (h : AH) : OK G n y_M_find (1) φI [.ref 383, .int a1, .int a2] h (f_M_find a1 a2 h) := by
  refine ok_of (y := y_M_find) (lv0 := [some (.ref 383), some (.int a1), some (.int a2), none, none]) (by decide +kernel) (Nat.le_of_ble_eq_true rfl) ⟨rfl, ⟨rfl, ⟨rfl, trivial⟩⟩⟩ ?_
  rw [f_M_find]
  refine r_iconst (pc := 0) (v := -1) d_M_find_0 (by rfl) ?_
  refine r_istore_n (pc := 1) (i := 3) (lv1 := [some (.ref 383), some (.int a1), some (.int a2), some (.int (-1 : Int32)), none]) d_M_find_1 rfl (Nat.le_of_ble_eq_true rfl) rfl ?_
  refine r_iconst (pc := 2) (v := 0) d_M_find_2 (by rfl) ?_
  refine r_istore (pc := 3) (lv1 := [some (.ref 383), some (.int a1), some (.int a2), some (.int (-1 : Int32)), some (.int (0 : Int32))]) d_M_find_3 (Nat.le_of_ble_eq_true rfl) rfl ?_
  exact r_wk (o_M_find_l5 hn FU (-1 : Int32) (0 : Int32) h) ⟨rfl, ⟨rfl, ⟨rfl, ⟨rfl, ⟨rfl, trivial⟩⟩⟩⟩⟩

def f_M_newName_b33  (a1 : Int32) (a2 : Int32)   (h : AH) : Option AH :=
  if (hI h 383 2) ≤ 0 then
    gx (a1 + a2) 9 <|
    lt (sL h 385 (ix (a1 + a2)) (hL h 383 9)) fun hq2 =>
    bV (f_M_token hq2) fun hq3 =>
    some hq3
  else
    some h
set_option maxHeartbeats 2000000 in
theorem o_M_newName_b33 {G : AE} {n : Nat} (hn : NN ≤ n)  {a1 : Int32} {a2 : Int32}   : ∀  (h : AH), AJ G n y_M_newName (3) φV 33 [some (.ref 383), some (.int a1), some (.int a2)] [] h (f_M_newName_b33 a1 a2 h) := by
  intro  h
  rw [f_M_newName_b33]
  refine r_aload_n (pc := 33) (i := 0) d_M_newName_33 rfl rfl ?_
  refine r_getf (pc := 34) (ci := 12) (k := 2) (C := "CricketHayModel") (T := F_12) (N := 73) (v := .int (hI h 383 2)) (fun s => Std.k s (lc hn rfl) kq_383) rfl (Nat.le_of_ble_eq_true rfl) rfl w_1088 (fun _ => rfl) d_M_newName_34 ?_
  refine r_if_le (pc := 37) (tgt := 41) d_M_newName_37 (by rfl) ?_ ?_
  · refine r_aload_n (pc := 41) (i := 0) d_M_newName_41 rfl rfl ?_
    refine r_getf (pc := 42) (ci := 12) (k := 10) (C := "CricketHayModel") (T := F_12) (N := 73) (v := .ref 385) (fun s => Std.k s (lc hn rfl) kq_383) rfl (Nat.le_of_ble_eq_true rfl) rfl w_1096 (fun s => vr rfl (Std.r s (lc hn rfl) rq_383_10)) d_M_newName_42 ?_
    refine r_iload_n (pc := 45) (i := 1) d_M_newName_45 rfl rfl ?_
    refine r_iload_n (pc := 46) (i := 2) d_M_newName_46 rfl rfl ?_
    refine r_iadd (pc := 47) d_M_newName_47 ?_
    refine r_aload_n (pc := 48) (i := 0) d_M_newName_48 rfl rfl ?_
    refine r_getf (pc := 49) (ci := 12) (k := 9) (C := "CricketHayModel") (T := F_12) (N := 73) (v := .long (hL h 383 9)) (fun s => Std.k s (lc hn rfl) kq_383) rfl (Nat.le_of_ble_eq_true rfl) rfl w_1095 (fun _ => rfl) d_M_newName_49 ?_
    refine r_gx (fun zq1 => ?_)
    refine r_last (pc := 52) (n := 9) (i0 := (ix (a1 + a2))) (fun s => Std.k s (lc hn rfl) kq_385) zq1 rfl (fun s => Std.sL s _ _ _) d_M_newName_52 ?_
    refine r_ltH (fun hq2 => ?_)
    refine r_aload_n (pc := 53) (i := 0) d_M_newName_53 rfl rfl ?_
    refine r_cVv (pc := 54) (T := F_12) (N := 73) (st := []) (ok_M_token hn hq2) (fun s => Std.k s (lc hn rfl) kq_383) rfl w_1329 w_13 w_1326 w_1328 ws_48 hy_M_token ⟨Nat.le_of_ble_eq_true rfl, Nat.le_of_ble_eq_true rfl⟩ ⟨Nat.le_of_ble_eq_true rfl, Nat.le_of_ble_eq_true rfl⟩ rfl (Nat.le_of_ble_eq_true rfl) d_M_newName_54 (fun hq3 => ?_)
    exact r_vret (pc := 57) rfl d_M_newName_57
  · exact r_vret (pc := 40) rfl d_M_newName_40
def f_M_newName  (a1 : Int32) (a2 : Int32) (h : AH) : Option AH :=
  bV (f_M_token h) fun hq1 =>
  bI (f_M_isName hq1) fun rq2 hq3 =>
  if ¬ rq2 = 0 then
    bI (f_M_find a1 a2 hq3) fun rq4 hq5 =>
    if rq4 < 0 then
      f_M_newName_b33 a1 a2 hq5
    else
      bV (f_M_wrong (3 : Int32) hq5) fun hq6 =>
      f_M_newName_b33 a1 a2 hq6
  else
    bV (f_M_wrong (2 : Int32) hq3) fun hq7 =>
    f_M_newName_b33 a1 a2 hq7
set_option maxHeartbeats 2000000 in
theorem ok_M_newName {G : AE} {n : Nat} (hn : NN ≤ n)  (a1 : Int32) (a2 : Int32) (h : AH) : OK G n y_M_newName (3) φV [.ref 383, .int a1, .int a2] h (f_M_newName a1 a2 h) := by
  refine ok_of (y := y_M_newName) (lv0 := [some (.ref 383), some (.int a1), some (.int a2)]) (by decide +kernel) (Nat.le_of_ble_eq_true rfl) ⟨rfl, ⟨rfl, ⟨rfl, trivial⟩⟩⟩ ?_
  rw [f_M_newName]
  refine r_aload_n (pc := 0) (i := 0) d_M_newName_0 rfl rfl ?_
  refine r_cVv (pc := 1) (T := F_12) (N := 73) (st := []) (ok_M_token hn h) (fun s => Std.k s (lc hn rfl) kq_383) rfl w_1329 w_13 w_1326 w_1328 ws_48 hy_M_token ⟨Nat.le_of_ble_eq_true rfl, Nat.le_of_ble_eq_true rfl⟩ ⟨Nat.le_of_ble_eq_true rfl, Nat.le_of_ble_eq_true rfl⟩ rfl (Nat.le_of_ble_eq_true rfl) d_M_newName_1 (fun hq1 => ?_)
  refine r_aload_n (pc := 4) (i := 0) d_M_newName_4 rfl rfl ?_
  refine r_cVi (pc := 5) (T := F_12) (N := 73) (st := []) (ok_M_isName hn hq1) (fun s => Std.k s (lc hn rfl) kq_383) rfl w_1363 w_13 w_1360 w_1362 ws_54 hy_M_isName ⟨Nat.le_of_ble_eq_true rfl, Nat.le_of_ble_eq_true rfl⟩ ⟨Nat.le_of_ble_eq_true rfl, Nat.le_of_ble_eq_true rfl⟩ rfl (Nat.le_of_ble_eq_true rfl) d_M_newName_5 (fun rq2 hq3 => ?_)
  refine r_if_ne (pc := 8) (tgt := 19) d_M_newName_8 (by rfl) ?_ ?_
  · refine r_aload_n (pc := 19) (i := 0) d_M_newName_19 rfl rfl ?_
    refine r_iload_n (pc := 20) (i := 1) d_M_newName_20 rfl rfl ?_
    refine r_iload_n (pc := 21) (i := 2) d_M_newName_21 rfl rfl ?_
    refine r_cVi (pc := 22) (T := F_12) (N := 73) (st := []) (ok_M_find hn a1 a2 hq3) (fun s => Std.k s (lc hn rfl) kq_383) rfl w_1393 w_13 w_1390 w_1392 ws_57 hy_M_find ⟨Nat.le_of_ble_eq_true rfl, Nat.le_of_ble_eq_true rfl⟩ ⟨Nat.le_of_ble_eq_true rfl, Nat.le_of_ble_eq_true rfl⟩ rfl (Nat.le_of_ble_eq_true rfl) d_M_newName_22 (fun rq4 hq5 => ?_)
    refine r_if_lt (pc := 25) (tgt := 33) d_M_newName_25 (by rfl) ?_ ?_
    · exact r_wk (o_M_newName_b33 hn hq5) ⟨rfl, ⟨rfl, ⟨rfl, trivial⟩⟩⟩
    · refine r_aload_n (pc := 28) (i := 0) d_M_newName_28 rfl rfl ?_
      refine r_iconst (pc := 29) (v := 3) d_M_newName_29 (by rfl) ?_
      refine r_cVv (pc := 30) (T := F_12) (N := 73) (st := []) (ok_M_wrong hn (3 : Int32) hq5) (fun s => Std.k s (lc hn rfl) kq_383) rfl w_1389 w_13 w_1386 w_1388 ws_56 hy_M_wrong ⟨Nat.le_of_ble_eq_true rfl, Nat.le_of_ble_eq_true rfl⟩ ⟨Nat.le_of_ble_eq_true rfl, Nat.le_of_ble_eq_true rfl⟩ rfl (Nat.le_of_ble_eq_true rfl) d_M_newName_30 (fun hq6 => ?_)
      exact r_wk (o_M_newName_b33 hn hq6) ⟨rfl, ⟨rfl, ⟨rfl, trivial⟩⟩⟩
  · refine r_aload_n (pc := 11) (i := 0) d_M_newName_11 rfl rfl ?_
    refine r_iconst (pc := 12) (v := 2) d_M_newName_12 (by rfl) ?_
    refine r_cVv (pc := 13) (T := F_12) (N := 73) (st := []) (ok_M_wrong hn (2 : Int32) hq3) (fun s => Std.k s (lc hn rfl) kq_383) rfl w_1389 w_13 w_1386 w_1388 ws_56 hy_M_wrong ⟨Nat.le_of_ble_eq_true rfl, Nat.le_of_ble_eq_true rfl⟩ ⟨Nat.le_of_ble_eq_true rfl, Nat.le_of_ble_eq_true rfl⟩ rfl (Nat.le_of_ble_eq_true rfl) d_M_newName_13 (fun hq7 => ?_)
    refine r_goto (pc := 16) (tgt := 33) d_M_newName_16 (by rfl) ?_
    exact r_wk (o_M_newName_b33 hn hq7) ⟨rfl, ⟨rfl, ⟨rfl, trivial⟩⟩⟩

def f_M_add  (a1 : Int32) (a2 : Int32) (h : AH) : Option AH :=
  gx (hI h 383 20) 2 <|
  gx (((320 : Int32) * (hI h 383 20)) + (hI h 388 (ix (hI h 383 20)))) 640 <|
  lt (sI h 386 (ix (((320 : Int32) * (hI h 383 20)) + (hI h 388 (ix (hI h 383 20))))) a1) fun hq3 =>
  gx (hI hq3 383 20) 2 <|
  gx (((320 : Int32) * (hI hq3 383 20)) + (hI hq3 388 (ix (hI hq3 383 20)))) 640 <|
  lt (sI hq3 387 (ix (((320 : Int32) * (hI hq3 383 20)) + (hI hq3 388 (ix (hI hq3 383 20))))) a2) fun hq6 =>
  lt (hI hq6 383 20) fun xq7 =>
  gx xq7 2 <|
  gx xq7 2 <|
  lt (sI hq6 388 (ix xq7) ((hI hq6 388 (ix xq7)) + (1 : Int32))) fun hq10 =>
  some hq10
set_option maxHeartbeats 2000000 in
theorem ok_M_add {G : AE} {n : Nat} (hn : NN ≤ n)  (a1 : Int32) (a2 : Int32) (h : AH) : OK G n y_M_add (1) φV [.ref 383, .int a1, .int a2] h (f_M_add a1 a2 h) := by
  refine ok_of (y := y_M_add) (lv0 := [some (.ref 383), some (.int a1), some (.int a2)]) (by decide +kernel) (Nat.le_of_ble_eq_true rfl) ⟨rfl, ⟨rfl, ⟨rfl, trivial⟩⟩⟩ ?_
  rw [f_M_add]
  refine r_aload_n (pc := 0) (i := 0) d_M_add_0 rfl rfl ?_
  refine r_getf (pc := 1) (ci := 12) (k := 11) (C := "CricketHayModel") (T := F_12) (N := 73) (v := .ref 386) (fun s => Std.k s (lc hn rfl) kq_383) rfl (Nat.le_of_ble_eq_true rfl) rfl w_1097 (fun s => vr rfl (Std.r s (lc hn rfl) rq_383_11)) d_M_add_1 ?_
  refine r_sipush (pc := 4) (v := 320) d_M_add_4 (by rfl) ?_
  refine r_aload_n (pc := 7) (i := 0) d_M_add_7 rfl rfl ?_
  refine r_getf (pc := 8) (ci := 12) (k := 20) (C := "CricketHayModel") (T := F_12) (N := 73) (v := .int (hI h 383 20)) (fun s => Std.k s (lc hn rfl) kq_383) rfl (Nat.le_of_ble_eq_true rfl) rfl w_1106 (fun _ => rfl) d_M_add_8 ?_
  refine r_imul (pc := 11) d_M_add_11 ?_
  refine r_aload_n (pc := 12) (i := 0) d_M_add_12 rfl rfl ?_
  refine r_getf (pc := 13) (ci := 12) (k := 13) (C := "CricketHayModel") (T := F_12) (N := 73) (v := .ref 388) (fun s => Std.k s (lc hn rfl) kq_383) rfl (Nat.le_of_ble_eq_true rfl) rfl w_1099 (fun s => vr rfl (Std.r s (lc hn rfl) rq_383_13)) d_M_add_13 ?_
  refine r_aload_n (pc := 16) (i := 0) d_M_add_16 rfl rfl ?_
  refine r_getf (pc := 17) (ci := 12) (k := 20) (C := "CricketHayModel") (T := F_12) (N := 73) (v := .int (hI h 383 20)) (fun s => Std.k s (lc hn rfl) kq_383) rfl (Nat.le_of_ble_eq_true rfl) rfl w_1106 (fun _ => rfl) d_M_add_17 ?_
  refine r_gx (fun zq1 => ?_)
  refine r_iald (pc := 20) (n := 2) (i0 := (ix (hI h 383 20))) (fun s => Std.k s (lc hn rfl) kq_388) zq1 rfl d_M_add_20 ?_
  refine r_iadd (pc := 21) d_M_add_21 ?_
  refine r_iload_n (pc := 22) (i := 1) d_M_add_22 rfl rfl ?_
  refine r_gx (fun zq2 => ?_)
  refine r_iast (pc := 23) (n := 640) (i0 := (ix (((320 : Int32) * (hI h 383 20)) + (hI h 388 (ix (hI h 383 20)))))) (fun s => Std.k s (lc hn rfl) kq_386) zq2 rfl (fun s => Std.sI s _ _ _) d_M_add_23 ?_
  refine r_ltH (fun hq3 => ?_)
  refine r_aload_n (pc := 24) (i := 0) d_M_add_24 rfl rfl ?_
  refine r_getf (pc := 25) (ci := 12) (k := 12) (C := "CricketHayModel") (T := F_12) (N := 73) (v := .ref 387) (fun s => Std.k s (lc hn rfl) kq_383) rfl (Nat.le_of_ble_eq_true rfl) rfl w_1098 (fun s => vr rfl (Std.r s (lc hn rfl) rq_383_12)) d_M_add_25 ?_
  refine r_sipush (pc := 28) (v := 320) d_M_add_28 (by rfl) ?_
  refine r_aload_n (pc := 31) (i := 0) d_M_add_31 rfl rfl ?_
  refine r_getf (pc := 32) (ci := 12) (k := 20) (C := "CricketHayModel") (T := F_12) (N := 73) (v := .int (hI hq3 383 20)) (fun s => Std.k s (lc hn rfl) kq_383) rfl (Nat.le_of_ble_eq_true rfl) rfl w_1106 (fun _ => rfl) d_M_add_32 ?_
  refine r_imul (pc := 35) d_M_add_35 ?_
  refine r_aload_n (pc := 36) (i := 0) d_M_add_36 rfl rfl ?_
  refine r_getf (pc := 37) (ci := 12) (k := 13) (C := "CricketHayModel") (T := F_12) (N := 73) (v := .ref 388) (fun s => Std.k s (lc hn rfl) kq_383) rfl (Nat.le_of_ble_eq_true rfl) rfl w_1099 (fun s => vr rfl (Std.r s (lc hn rfl) rq_383_13)) d_M_add_37 ?_
  refine r_aload_n (pc := 40) (i := 0) d_M_add_40 rfl rfl ?_
  refine r_getf (pc := 41) (ci := 12) (k := 20) (C := "CricketHayModel") (T := F_12) (N := 73) (v := .int (hI hq3 383 20)) (fun s => Std.k s (lc hn rfl) kq_383) rfl (Nat.le_of_ble_eq_true rfl) rfl w_1106 (fun _ => rfl) d_M_add_41 ?_
  refine r_gx (fun zq4 => ?_)
  refine r_iald (pc := 44) (n := 2) (i0 := (ix (hI hq3 383 20))) (fun s => Std.k s (lc hn rfl) kq_388) zq4 rfl d_M_add_44 ?_
  refine r_iadd (pc := 45) d_M_add_45 ?_
  refine r_iload_n (pc := 46) (i := 2) d_M_add_46 rfl rfl ?_
  refine r_gx (fun zq5 => ?_)
  refine r_iast (pc := 47) (n := 640) (i0 := (ix (((320 : Int32) * (hI hq3 383 20)) + (hI hq3 388 (ix (hI hq3 383 20)))))) (fun s => Std.k s (lc hn rfl) kq_387) zq5 rfl (fun s => Std.sI s _ _ _) d_M_add_47 ?_
  refine r_ltH (fun hq6 => ?_)
  refine r_aload_n (pc := 48) (i := 0) d_M_add_48 rfl rfl ?_
  refine r_getf (pc := 49) (ci := 12) (k := 13) (C := "CricketHayModel") (T := F_12) (N := 73) (v := .ref 388) (fun s => Std.k s (lc hn rfl) kq_383) rfl (Nat.le_of_ble_eq_true rfl) rfl w_1099 (fun s => vr rfl (Std.r s (lc hn rfl) rq_383_13)) d_M_add_49 ?_
  refine r_aload_n (pc := 52) (i := 0) d_M_add_52 rfl rfl ?_
  refine r_getf (pc := 53) (ci := 12) (k := 20) (C := "CricketHayModel") (T := F_12) (N := 73) (v := .int (hI hq6 383 20)) (fun s => Std.k s (lc hn rfl) kq_383) rfl (Nat.le_of_ble_eq_true rfl) rfl w_1106 (fun _ => rfl) d_M_add_53 ?_
  refine r_ltI (fun xq7 => ?_)
  refine r_dup2 (pc := 56) d_M_add_56 rfl rfl ?_
  refine r_gx (fun zq8 => ?_)
  refine r_iald (pc := 57) (n := 2) (i0 := (ix xq7)) (fun s => Std.k s (lc hn rfl) kq_388) zq8 rfl d_M_add_57 ?_
  refine r_iconst (pc := 58) (v := 1) d_M_add_58 (by rfl) ?_
  refine r_iadd (pc := 59) d_M_add_59 ?_
  refine r_gx (fun zq9 => ?_)
  refine r_iast (pc := 60) (n := 2) (i0 := (ix xq7)) (fun s => Std.k s (lc hn rfl) kq_388) zq9 rfl (fun s => Std.sI s _ _ _) d_M_add_60 ?_
  refine r_ltH (fun hq10 => ?_)
  exact r_vret (pc := 61) rfl d_M_add_61

def f_M_tight  (a0 : Int32) (h : AH) : Option (Int32 × AH) :=
  if a0 = (21 : Int32) then
    some ((3 : Int32), h)
  else
  if a0 = (38 : Int32) then
    some ((2 : Int32), h)
  else
  if a0 = (43 : Int32) then
    some ((5 : Int32), h)
  else
  if a0 = (45 : Int32) then
    some ((5 : Int32), h)
  else
  if a0 = (60 : Int32) then
    some ((4 : Int32), h)
  else
  if a0 = (61 : Int32) then
    some ((4 : Int32), h)
  else
  if a0 = (62 : Int32) then
    some ((4 : Int32), h)
  else
  if a0 = (124 : Int32) then
    some ((1 : Int32), h)
  else
    some ((6 : Int32), h)
set_option maxHeartbeats 2000000 in
theorem ok_M_tight {G : AE} {n : Nat} (hn : NN ≤ n)  (a0 : Int32) (h : AH) : OK G n y_M_tight (1) φI [.int a0] h (f_M_tight a0 h) := by
  refine ok_of (y := y_M_tight) (lv0 := [some (.int a0)]) (by decide +kernel) (Nat.le_of_ble_eq_true rfl) ⟨rfl, trivial⟩ ?_
  rw [f_M_tight]
  refine r_iload_n (pc := 0) (i := 0) d_M_tight_0 rfl rfl ?_
  refine r_split (fun cq1 => ?_) (fun cq1 => ?_)
  · refine r_lookup (pc := 1) (tgt := 80) d_M_tight_1 (by decide) (by rw [cq1] <;> rfl) (by rfl) ?_
    refine r_iconst (pc := 80) (v := 3) d_M_tight_80 (by rfl) ?_
    exact r_iret (pc := 81) rfl d_M_tight_81
  refine r_split (fun cq2 => ?_) (fun cq2 => ?_)
  · refine r_lookup (pc := 1) (tgt := 78) d_M_tight_1 (by decide) (by rw [cq2] <;> rfl) (by rfl) ?_
    refine r_iconst (pc := 78) (v := 2) d_M_tight_78 (by rfl) ?_
    exact r_iret (pc := 79) rfl d_M_tight_79
  refine r_split (fun cq3 => ?_) (fun cq3 => ?_)
  · refine r_lookup (pc := 1) (tgt := 84) d_M_tight_1 (by decide) (by rw [cq3] <;> rfl) (by rfl) ?_
    refine r_iconst (pc := 84) (v := 5) d_M_tight_84 (by rfl) ?_
    exact r_iret (pc := 85) rfl d_M_tight_85
  refine r_split (fun cq4 => ?_) (fun cq4 => ?_)
  · refine r_lookup (pc := 1) (tgt := 84) d_M_tight_1 (by decide) (by rw [cq4] <;> rfl) (by rfl) ?_
    refine r_iconst (pc := 84) (v := 5) d_M_tight_84 (by rfl) ?_
    exact r_iret (pc := 85) rfl d_M_tight_85
  refine r_split (fun cq5 => ?_) (fun cq5 => ?_)
  · refine r_lookup (pc := 1) (tgt := 82) d_M_tight_1 (by decide) (by rw [cq5] <;> rfl) (by rfl) ?_
    refine r_iconst (pc := 82) (v := 4) d_M_tight_82 (by rfl) ?_
    exact r_iret (pc := 83) rfl d_M_tight_83
  refine r_split (fun cq6 => ?_) (fun cq6 => ?_)
  · refine r_lookup (pc := 1) (tgt := 82) d_M_tight_1 (by decide) (by rw [cq6] <;> rfl) (by rfl) ?_
    refine r_iconst (pc := 82) (v := 4) d_M_tight_82 (by rfl) ?_
    exact r_iret (pc := 83) rfl d_M_tight_83
  refine r_split (fun cq7 => ?_) (fun cq7 => ?_)
  · refine r_lookup (pc := 1) (tgt := 82) d_M_tight_1 (by decide) (by rw [cq7] <;> rfl) (by rfl) ?_
    refine r_iconst (pc := 82) (v := 4) d_M_tight_82 (by rfl) ?_
    exact r_iret (pc := 83) rfl d_M_tight_83
  refine r_split (fun cq8 => ?_) (fun cq8 => ?_)
  · refine r_lookup (pc := 1) (tgt := 76) d_M_tight_1 (by decide) (by rw [cq8] <;> rfl) (by rfl) ?_
    refine r_iconst (pc := 76) (v := 1) d_M_tight_76 (by rfl) ?_
    exact r_iret (pc := 77) rfl d_M_tight_77
  refine r_lookup (pc := 1) (tgt := 86) d_M_tight_1 (by decide) ((lv_osw cq1 (by rfl)).trans ((lv_osw cq2 (by rfl)).trans ((lv_osw cq3 (by rfl)).trans ((lv_osw cq4 (by rfl)).trans ((lv_osw cq5 (by rfl)).trans ((lv_osw cq6 (by rfl)).trans ((lv_osw cq7 (by rfl)).trans ((lv_osw cq8 (by rfl)).trans (rfl))))))))) (by rfl) ?_
  refine r_bipush (pc := 86) (v := 6) d_M_tight_86 (by rfl) ?_
  exact r_iret (pc := 88) rfl d_M_tight_88

def f_M_close_l0  (a1 : Int32)  : Nat → AH → Option AH
  | 0, _ => none
  | n + 1, h =>
    if (hI h 383 21) ≤ 0 then
      some h
    else
      gx ((hI h 383 21) - (1 : Int32)) 160 <|
      if (hI h 392 (ix ((hI h 383 21) - (1 : Int32)))) = (20 : Int32) then
        some h
      else
        gx ((hI h 383 21) - (1 : Int32)) 160 <|
        bI (f_M_tight (hI h 392 (ix ((hI h 383 21) - (1 : Int32)))) h) fun rq3 hq4 =>
        if rq3 < a1 then
          some hq4
        else
          lt (sI hq4 383 21 ((hI hq4 383 21) - (1 : Int32))) fun hq5 =>
          gx (hI hq5 383 21) 160 <|
          if ¬ (hI hq5 392 (ix (hI hq5 383 21))) = (21 : Int32) then
            gx (hI hq5 383 21) 160 <|
            bV (f_M_add (3 : Int32) (hI hq5 392 (ix (hI hq5 383 21))) hq5) fun hq8 =>
            f_M_close_l0 a1 n hq8
          else
            bV (f_M_add (2 : Int32) (0 : Int32) hq5) fun hq9 =>
            lt (sI hq9 383 25 ((hI hq9 383 25) - (1 : Int32))) fun hq10 =>
            f_M_close_l0 a1 n hq10
set_option maxHeartbeats 2000000 in
theorem o_M_close_l0 {G : AE} {n : Nat} (hn : NN ≤ n)  {a1 : Int32}   : ∀ (n0 : Nat)  (h : AH), AJ G n y_M_close (2) φV 0 [some (.ref 383), some (.int a1)] [] h (f_M_close_l0 a1 n0 h) := by
  intro n0
  induction n0 with
  | zero => intros; exact r_none
  | succ n0 ih =>
    intro  h
    rw [f_M_close_l0]
    refine r_aload_n (pc := 0) (i := 0) d_M_close_0 rfl rfl ?_
    refine r_getf (pc := 1) (ci := 12) (k := 21) (C := "CricketHayModel") (T := F_12) (N := 73) (v := .int (hI h 383 21)) (fun s => Std.k s (lc hn rfl) kq_383) rfl (Nat.le_of_ble_eq_true rfl) rfl w_1107 (fun _ => rfl) d_M_close_1 ?_
    refine r_if_le (pc := 4) (tgt := 101) d_M_close_4 (by rfl) ?_ ?_
    · exact r_vret (pc := 101) rfl d_M_close_101
    · refine r_aload_n (pc := 7) (i := 0) d_M_close_7 rfl rfl ?_
      refine r_getf (pc := 8) (ci := 12) (k := 17) (C := "CricketHayModel") (T := F_12) (N := 73) (v := .ref 392) (fun s => Std.k s (lc hn rfl) kq_383) rfl (Nat.le_of_ble_eq_true rfl) rfl w_1103 (fun s => vr rfl (Std.r s (lc hn rfl) rq_383_17)) d_M_close_8 ?_
      refine r_aload_n (pc := 11) (i := 0) d_M_close_11 rfl rfl ?_
      refine r_getf (pc := 12) (ci := 12) (k := 21) (C := "CricketHayModel") (T := F_12) (N := 73) (v := .int (hI h 383 21)) (fun s => Std.k s (lc hn rfl) kq_383) rfl (Nat.le_of_ble_eq_true rfl) rfl w_1107 (fun _ => rfl) d_M_close_12 ?_
      refine r_iconst (pc := 15) (v := 1) d_M_close_15 (by rfl) ?_
      refine r_isub (pc := 16) d_M_close_16 ?_
      refine r_gx (fun zq1 => ?_)
      refine r_iald (pc := 17) (n := 160) (i0 := (ix ((hI h 383 21) - (1 : Int32)))) (fun s => Std.k s (lc hn rfl) kq_392) zq1 rfl d_M_close_17 ?_
      refine r_bipush (pc := 18) (v := 20) d_M_close_18 (by rfl) ?_
      refine r_icmp_eq (pc := 20) (tgt := 101) d_M_close_20 (by rfl) ?_ ?_
      · exact r_vret (pc := 101) rfl d_M_close_101
      · refine r_aload_n (pc := 23) (i := 0) d_M_close_23 rfl rfl ?_
        refine r_getf (pc := 24) (ci := 12) (k := 17) (C := "CricketHayModel") (T := F_12) (N := 73) (v := .ref 392) (fun s => Std.k s (lc hn rfl) kq_383) rfl (Nat.le_of_ble_eq_true rfl) rfl w_1103 (fun s => vr rfl (Std.r s (lc hn rfl) rq_383_17)) d_M_close_24 ?_
        refine r_aload_n (pc := 27) (i := 0) d_M_close_27 rfl rfl ?_
        refine r_getf (pc := 28) (ci := 12) (k := 21) (C := "CricketHayModel") (T := F_12) (N := 73) (v := .int (hI h 383 21)) (fun s => Std.k s (lc hn rfl) kq_383) rfl (Nat.le_of_ble_eq_true rfl) rfl w_1107 (fun _ => rfl) d_M_close_28 ?_
        refine r_iconst (pc := 31) (v := 1) d_M_close_31 (by rfl) ?_
        refine r_isub (pc := 32) d_M_close_32 ?_
        refine r_gx (fun zq2 => ?_)
        refine r_iald (pc := 33) (n := 160) (i0 := (ix ((hI h 383 21) - (1 : Int32)))) (fun s => Std.k s (lc hn rfl) kq_392) zq2 rfl d_M_close_33 ?_
        refine r_cSi (pc := 34) (st := []) (ok_M_tight hn (hI h 392 (ix ((hI h 383 21) - (1 : Int32)))) h) w_1428 w_13 w_1426 w_1427 hy_M_tight ⟨Nat.le_of_ble_eq_true rfl, Nat.le_of_ble_eq_true rfl⟩ ⟨Nat.le_of_ble_eq_true rfl, Nat.le_of_ble_eq_true rfl⟩ rfl (Nat.le_of_ble_eq_true rfl) d_M_close_34 (fun rq3 hq4 => ?_)
        refine r_iload_n (pc := 37) (i := 1) d_M_close_37 rfl rfl ?_
        refine r_icmp_lt (pc := 38) (tgt := 101) d_M_close_38 (by rfl) ?_ ?_
        · exact r_vret (pc := 101) rfl d_M_close_101
        · refine r_aload_n (pc := 41) (i := 0) d_M_close_41 rfl rfl ?_
          refine r_dup (pc := 42) d_M_close_42 rfl ?_
          refine r_getf (pc := 43) (ci := 12) (k := 21) (C := "CricketHayModel") (T := F_12) (N := 73) (v := .int (hI hq4 383 21)) (fun s => Std.k s (lc hn rfl) kq_383) rfl (Nat.le_of_ble_eq_true rfl) rfl w_1107 (fun _ => rfl) d_M_close_43 ?_
          refine r_iconst (pc := 46) (v := 1) d_M_close_46 (by rfl) ?_
          refine r_isub (pc := 47) d_M_close_47 ?_
          refine r_putI (pc := 48) (ci := 12) (k := 21) (C := "CricketHayModel") (T := F_12) (N := 73) (fun s => Std.k s (lc hn rfl) kq_383) rfl (Nat.le_of_ble_eq_true rfl) rfl rfl w_1107 (fun _ _ => rfl) (fun _ => rfl) (fun _ => rfl) (fun s => Std.sI s _ _ _) d_M_close_48 ?_
          refine r_ltH (fun hq5 => ?_)
          refine r_aload_n (pc := 51) (i := 0) d_M_close_51 rfl rfl ?_
          refine r_getf (pc := 52) (ci := 12) (k := 17) (C := "CricketHayModel") (T := F_12) (N := 73) (v := .ref 392) (fun s => Std.k s (lc hn rfl) kq_383) rfl (Nat.le_of_ble_eq_true rfl) rfl w_1103 (fun s => vr rfl (Std.r s (lc hn rfl) rq_383_17)) d_M_close_52 ?_
          refine r_aload_n (pc := 55) (i := 0) d_M_close_55 rfl rfl ?_
          refine r_getf (pc := 56) (ci := 12) (k := 21) (C := "CricketHayModel") (T := F_12) (N := 73) (v := .int (hI hq5 383 21)) (fun s => Std.k s (lc hn rfl) kq_383) rfl (Nat.le_of_ble_eq_true rfl) rfl w_1107 (fun _ => rfl) d_M_close_56 ?_
          refine r_gx (fun zq6 => ?_)
          refine r_iald (pc := 59) (n := 160) (i0 := (ix (hI hq5 383 21))) (fun s => Std.k s (lc hn rfl) kq_392) zq6 rfl d_M_close_59 ?_
          refine r_bipush (pc := 60) (v := 21) d_M_close_60 (by rfl) ?_
          refine r_icmp_ne (pc := 62) (tgt := 84) d_M_close_62 (by rfl) ?_ ?_
          · refine r_aload_n (pc := 84) (i := 0) d_M_close_84 rfl rfl ?_
            refine r_iconst (pc := 85) (v := 3) d_M_close_85 (by rfl) ?_
            refine r_aload_n (pc := 86) (i := 0) d_M_close_86 rfl rfl ?_
            refine r_getf (pc := 87) (ci := 12) (k := 17) (C := "CricketHayModel") (T := F_12) (N := 73) (v := .ref 392) (fun s => Std.k s (lc hn rfl) kq_383) rfl (Nat.le_of_ble_eq_true rfl) rfl w_1103 (fun s => vr rfl (Std.r s (lc hn rfl) rq_383_17)) d_M_close_87 ?_
            refine r_aload_n (pc := 90) (i := 0) d_M_close_90 rfl rfl ?_
            refine r_getf (pc := 91) (ci := 12) (k := 21) (C := "CricketHayModel") (T := F_12) (N := 73) (v := .int (hI hq5 383 21)) (fun s => Std.k s (lc hn rfl) kq_383) rfl (Nat.le_of_ble_eq_true rfl) rfl w_1107 (fun _ => rfl) d_M_close_91 ?_
            refine r_gx (fun zq7 => ?_)
            refine r_iald (pc := 94) (n := 160) (i0 := (ix (hI hq5 383 21))) (fun s => Std.k s (lc hn rfl) kq_392) zq7 rfl d_M_close_94 ?_
            refine r_cVv (pc := 95) (T := F_12) (N := 73) (st := []) (ok_M_add hn (3 : Int32) (hI hq5 392 (ix (hI hq5 383 21))) hq5) (fun s => Std.k s (lc hn rfl) kq_383) rfl w_1448 w_13 w_1445 w_1447 ws_70 hy_M_add ⟨Nat.le_of_ble_eq_true rfl, Nat.le_of_ble_eq_true rfl⟩ ⟨Nat.le_of_ble_eq_true rfl, Nat.le_of_ble_eq_true rfl⟩ rfl (Nat.le_of_ble_eq_true rfl) d_M_close_95 (fun hq8 => ?_)
            refine r_goto (pc := 98) (tgt := 0) d_M_close_98 (by rfl) ?_
            exact r_wk (ih hq8) ⟨rfl, ⟨rfl, trivial⟩⟩
          · refine r_aload_n (pc := 65) (i := 0) d_M_close_65 rfl rfl ?_
            refine r_iconst (pc := 66) (v := 2) d_M_close_66 (by rfl) ?_
            refine r_iconst (pc := 67) (v := 0) d_M_close_67 (by rfl) ?_
            refine r_cVv (pc := 68) (T := F_12) (N := 73) (st := []) (ok_M_add hn (2 : Int32) (0 : Int32) hq5) (fun s => Std.k s (lc hn rfl) kq_383) rfl w_1448 w_13 w_1445 w_1447 ws_70 hy_M_add ⟨Nat.le_of_ble_eq_true rfl, Nat.le_of_ble_eq_true rfl⟩ ⟨Nat.le_of_ble_eq_true rfl, Nat.le_of_ble_eq_true rfl⟩ rfl (Nat.le_of_ble_eq_true rfl) d_M_close_68 (fun hq9 => ?_)
            refine r_aload_n (pc := 71) (i := 0) d_M_close_71 rfl rfl ?_
            refine r_dup (pc := 72) d_M_close_72 rfl ?_
            refine r_getf (pc := 73) (ci := 12) (k := 25) (C := "CricketHayModel") (T := F_12) (N := 73) (v := .int (hI hq9 383 25)) (fun s => Std.k s (lc hn rfl) kq_383) rfl (Nat.le_of_ble_eq_true rfl) rfl w_1111 (fun _ => rfl) d_M_close_73 ?_
            refine r_iconst (pc := 76) (v := 1) d_M_close_76 (by rfl) ?_
            refine r_isub (pc := 77) d_M_close_77 ?_
            refine r_putI (pc := 78) (ci := 12) (k := 25) (C := "CricketHayModel") (T := F_12) (N := 73) (fun s => Std.k s (lc hn rfl) kq_383) rfl (Nat.le_of_ble_eq_true rfl) rfl rfl w_1111 (fun _ _ => rfl) (fun _ => rfl) (fun _ => rfl) (fun s => Std.sI s _ _ _) d_M_close_78 ?_
            refine r_ltH (fun hq10 => ?_)
            refine r_goto (pc := 81) (tgt := 0) d_M_close_81 (by rfl) ?_
            exact r_wk (ih hq10) ⟨rfl, ⟨rfl, trivial⟩⟩
def f_M_close  (a1 : Int32) (h : AH) : Option AH :=
  f_M_close_l0 a1 FU h
set_option maxHeartbeats 2000000 in
theorem ok_M_close {G : AE} {n : Nat} (hn : NN ≤ n)  (a1 : Int32) (h : AH) : OK G n y_M_close (2) φV [.ref 383, .int a1] h (f_M_close a1 h) := by
  refine ok_of (y := y_M_close) (lv0 := [some (.ref 383), some (.int a1)]) (by decide +kernel) (Nat.le_of_ble_eq_true rfl) ⟨rfl, ⟨rfl, trivial⟩⟩ ?_
  rw [f_M_close]
  exact r_wk (o_M_close_l0 hn FU h) ⟨rfl, ⟨rfl, trivial⟩⟩

def f_M_hasRelation_b41    (x1 : Int32) (h : AH) : Option (Int32 × AH) :=
  if x1 < 0 then
    some ((0 : Int32), h)
  else
    gx x1 160 <|
    if (hI h 392 (ix x1)) = (20 : Int32) then
      some ((0 : Int32), h)
    else
      gx x1 160 <|
      bI (f_M_tight (hI h 392 (ix x1)) h) fun rq3 hq4 =>
      if ¬ rq3 = (4 : Int32) then
        some ((0 : Int32), hq4)
      else
        some ((1 : Int32), hq4)
set_option maxHeartbeats 2000000 in
theorem o_M_hasRelation_b41 {G : AE} {n : Nat} (hn : NN ≤ n)     : ∀ (x1 : Int32) (h : AH), AJ G n y_M_hasRelation (2) φI 41 [some (.ref 383), some (.int x1)] [] h (f_M_hasRelation_b41 x1 h) := by
  intro x1 h
  rw [f_M_hasRelation_b41]
  refine r_iload_n (pc := 41) (i := 1) d_M_hasRelation_41 rfl rfl ?_
  refine r_if_lt (pc := 42) (tgt := 73) d_M_hasRelation_42 (by rfl) ?_ ?_
  · refine r_iconst (pc := 73) (v := 0) d_M_hasRelation_73 (by rfl) ?_
    exact r_zret (pc := 74) rfl rfl d_M_hasRelation_74
  · refine r_aload_n (pc := 45) (i := 0) d_M_hasRelation_45 rfl rfl ?_
    refine r_getf (pc := 46) (ci := 12) (k := 17) (C := "CricketHayModel") (T := F_12) (N := 73) (v := .ref 392) (fun s => Std.k s (lc hn rfl) kq_383) rfl (Nat.le_of_ble_eq_true rfl) rfl w_1103 (fun s => vr rfl (Std.r s (lc hn rfl) rq_383_17)) d_M_hasRelation_46 ?_
    refine r_iload_n (pc := 49) (i := 1) d_M_hasRelation_49 rfl rfl ?_
    refine r_gx (fun zq1 => ?_)
    refine r_iald (pc := 50) (n := 160) (i0 := (ix x1)) (fun s => Std.k s (lc hn rfl) kq_392) zq1 rfl d_M_hasRelation_50 ?_
    refine r_bipush (pc := 51) (v := 20) d_M_hasRelation_51 (by rfl) ?_
    refine r_icmp_eq (pc := 53) (tgt := 73) d_M_hasRelation_53 (by rfl) ?_ ?_
    · refine r_iconst (pc := 73) (v := 0) d_M_hasRelation_73 (by rfl) ?_
      exact r_zret (pc := 74) rfl rfl d_M_hasRelation_74
    · refine r_aload_n (pc := 56) (i := 0) d_M_hasRelation_56 rfl rfl ?_
      refine r_getf (pc := 57) (ci := 12) (k := 17) (C := "CricketHayModel") (T := F_12) (N := 73) (v := .ref 392) (fun s => Std.k s (lc hn rfl) kq_383) rfl (Nat.le_of_ble_eq_true rfl) rfl w_1103 (fun s => vr rfl (Std.r s (lc hn rfl) rq_383_17)) d_M_hasRelation_57 ?_
      refine r_iload_n (pc := 60) (i := 1) d_M_hasRelation_60 rfl rfl ?_
      refine r_gx (fun zq2 => ?_)
      refine r_iald (pc := 61) (n := 160) (i0 := (ix x1)) (fun s => Std.k s (lc hn rfl) kq_392) zq2 rfl d_M_hasRelation_61 ?_
      refine r_cSi (pc := 62) (st := []) (ok_M_tight hn (hI h 392 (ix x1)) h) w_1428 w_13 w_1426 w_1427 hy_M_tight ⟨Nat.le_of_ble_eq_true rfl, Nat.le_of_ble_eq_true rfl⟩ ⟨Nat.le_of_ble_eq_true rfl, Nat.le_of_ble_eq_true rfl⟩ rfl (Nat.le_of_ble_eq_true rfl) d_M_hasRelation_62 (fun rq3 hq4 => ?_)
      refine r_iconst (pc := 65) (v := 4) d_M_hasRelation_65 (by rfl) ?_
      refine r_icmp_ne (pc := 66) (tgt := 73) d_M_hasRelation_66 (by rfl) ?_ ?_
      · refine r_iconst (pc := 73) (v := 0) d_M_hasRelation_73 (by rfl) ?_
        exact r_zret (pc := 74) rfl rfl d_M_hasRelation_74
      · refine r_iconst (pc := 69) (v := 1) d_M_hasRelation_69 (by rfl) ?_
        refine r_goto (pc := 70) (tgt := 74) d_M_hasRelation_70 (by rfl) ?_
        exact r_zret (pc := 74) rfl rfl d_M_hasRelation_74
def f_M_hasRelation_l7    : Nat → Int32 → AH → Option (Int32 × AH)
  | 0, _, _ => none
  | n + 1, x1, h =>
    if x1 < 0 then
      f_M_hasRelation_b41 x1 h
    else
      gx x1 160 <|
      if (hI h 392 (ix x1)) = (20 : Int32) then
        f_M_hasRelation_b41 x1 h
      else
        gx x1 160 <|
        bI (f_M_tight (hI h 392 (ix x1)) h) fun rq3 hq4 =>
        if rq3 ≤ (4 : Int32) then
          f_M_hasRelation_b41 x1 hq4
        else
          lt (x1 + (-1 : Int32)) fun xq5 =>
          f_M_hasRelation_l7 n xq5 hq4
set_option maxHeartbeats 2000000 in
theorem o_M_hasRelation_l7 {G : AE} {n : Nat} (hn : NN ≤ n)     : ∀ (n0 : Nat) (x1 : Int32) (h : AH), AJ G n y_M_hasRelation (2) φI 7 [some (.ref 383), some (.int x1)] [] h (f_M_hasRelation_l7 n0 x1 h) := by
  intro n0
  induction n0 with
  | zero => intros; exact r_none
  | succ n0 ih =>
    intro x1 h
    rw [f_M_hasRelation_l7]
    refine r_iload_n (pc := 7) (i := 1) d_M_hasRelation_7 rfl rfl ?_
    refine r_if_lt (pc := 8) (tgt := 41) d_M_hasRelation_8 (by rfl) ?_ ?_
    · exact r_wk (o_M_hasRelation_b41 hn x1 h) ⟨rfl, ⟨rfl, trivial⟩⟩
    · refine r_aload_n (pc := 11) (i := 0) d_M_hasRelation_11 rfl rfl ?_
      refine r_getf (pc := 12) (ci := 12) (k := 17) (C := "CricketHayModel") (T := F_12) (N := 73) (v := .ref 392) (fun s => Std.k s (lc hn rfl) kq_383) rfl (Nat.le_of_ble_eq_true rfl) rfl w_1103 (fun s => vr rfl (Std.r s (lc hn rfl) rq_383_17)) d_M_hasRelation_12 ?_
      refine r_iload_n (pc := 15) (i := 1) d_M_hasRelation_15 rfl rfl ?_
      refine r_gx (fun zq1 => ?_)
      refine r_iald (pc := 16) (n := 160) (i0 := (ix x1)) (fun s => Std.k s (lc hn rfl) kq_392) zq1 rfl d_M_hasRelation_16 ?_
      refine r_bipush (pc := 17) (v := 20) d_M_hasRelation_17 (by rfl) ?_
      refine r_icmp_eq (pc := 19) (tgt := 41) d_M_hasRelation_19 (by rfl) ?_ ?_
      · exact r_wk (o_M_hasRelation_b41 hn x1 h) ⟨rfl, ⟨rfl, trivial⟩⟩
      · refine r_aload_n (pc := 22) (i := 0) d_M_hasRelation_22 rfl rfl ?_
        refine r_getf (pc := 23) (ci := 12) (k := 17) (C := "CricketHayModel") (T := F_12) (N := 73) (v := .ref 392) (fun s => Std.k s (lc hn rfl) kq_383) rfl (Nat.le_of_ble_eq_true rfl) rfl w_1103 (fun s => vr rfl (Std.r s (lc hn rfl) rq_383_17)) d_M_hasRelation_23 ?_
        refine r_iload_n (pc := 26) (i := 1) d_M_hasRelation_26 rfl rfl ?_
        refine r_gx (fun zq2 => ?_)
        refine r_iald (pc := 27) (n := 160) (i0 := (ix x1)) (fun s => Std.k s (lc hn rfl) kq_392) zq2 rfl d_M_hasRelation_27 ?_
        refine r_cSi (pc := 28) (st := []) (ok_M_tight hn (hI h 392 (ix x1)) h) w_1428 w_13 w_1426 w_1427 hy_M_tight ⟨Nat.le_of_ble_eq_true rfl, Nat.le_of_ble_eq_true rfl⟩ ⟨Nat.le_of_ble_eq_true rfl, Nat.le_of_ble_eq_true rfl⟩ rfl (Nat.le_of_ble_eq_true rfl) d_M_hasRelation_28 (fun rq3 hq4 => ?_)
        refine r_iconst (pc := 31) (v := 4) d_M_hasRelation_31 (by rfl) ?_
        refine r_icmp_le (pc := 32) (tgt := 41) d_M_hasRelation_32 (by rfl) ?_ ?_
        · exact r_wk (o_M_hasRelation_b41 hn x1 hq4) ⟨rfl, ⟨rfl, trivial⟩⟩
        · refine r_ltE (fun xq5 exq5 => ?_)
          refine r_iinc (pc := 35) (v := xq5) (lv1 := [some (.ref 383), some (.int xq5)]) d_M_hasRelation_35 rfl exq5.symm (Nat.le_of_ble_eq_true rfl) rfl ?_
          refine r_goto (pc := 38) (tgt := 7) d_M_hasRelation_38 (by rfl) ?_
          exact r_wk (ih xq5 hq4) ⟨rfl, ⟨rfl, trivial⟩⟩
def f_M_hasRelation   (h : AH) : Option (Int32 × AH) :=
  lt ((hI h 383 21) - (1 : Int32)) fun xq1 =>
  f_M_hasRelation_l7 FU xq1 h
set_option maxHeartbeats 2000000 in
theorem ok_M_hasRelation {G : AE} {n : Nat} (hn : NN ≤ n)   (h : AH) : OK G n y_M_hasRelation (2) φI [.ref 383] h (f_M_hasRelation h) := by
  refine ok_of (y := y_M_hasRelation) (lv0 := [some (.ref 383), none]) (by decide +kernel) (Nat.le_of_ble_eq_true rfl) ⟨rfl, trivial⟩ ?_
  rw [f_M_hasRelation]
  refine r_aload_n (pc := 0) (i := 0) d_M_hasRelation_0 rfl rfl ?_
  refine r_getf (pc := 1) (ci := 12) (k := 21) (C := "CricketHayModel") (T := F_12) (N := 73) (v := .int (hI h 383 21)) (fun s => Std.k s (lc hn rfl) kq_383) rfl (Nat.le_of_ble_eq_true rfl) rfl w_1107 (fun _ => rfl) d_M_hasRelation_1 ?_
  refine r_iconst (pc := 4) (v := 1) d_M_hasRelation_4 (by rfl) ?_
  refine r_isub (pc := 5) d_M_hasRelation_5 ?_
  refine r_ltI (fun xq1 => ?_)
  refine r_istore_n (pc := 6) (i := 1) (lv1 := [some (.ref 383), some (.int xq1)]) d_M_hasRelation_6 rfl (Nat.le_of_ble_eq_true rfl) rfl ?_
  exact r_wk (o_M_hasRelation_l7 hn FU xq1 h) ⟨rfl, ⟨rfl, trivial⟩⟩

def f_M_mayNot   (h : AH) : Option (Int32 × AH) :=
  if (hI h 383 21) = 0 then
    some ((1 : Int32), h)
  else
    gx ((hI h 383 21) - (1 : Int32)) 160 <|
    if (hI h 392 (ix ((hI h 383 21) - (1 : Int32)))) = (20 : Int32) then
      some ((1 : Int32), h)
    else
      gx ((hI h 383 21) - (1 : Int32)) 160 <|
      bI (f_M_tight (hI h 392 (ix ((hI h 383 21) - (1 : Int32)))) h) fun rq3 hq4 =>
      if (4 : Int32) ≤ rq3 then
        some ((0 : Int32), hq4)
      else
        some ((1 : Int32), hq4)
set_option maxHeartbeats 2000000 in
theorem ok_M_mayNot {G : AE} {n : Nat} (hn : NN ≤ n)   (h : AH) : OK G n y_M_mayNot (2) φI [.ref 383] h (f_M_mayNot h) := by
  refine ok_of (y := y_M_mayNot) (lv0 := [some (.ref 383)]) (by decide +kernel) (Nat.le_of_ble_eq_true rfl) ⟨rfl, trivial⟩ ?_
  rw [f_M_mayNot]
  refine r_aload_n (pc := 0) (i := 0) d_M_mayNot_0 rfl rfl ?_
  refine r_getf (pc := 1) (ci := 12) (k := 21) (C := "CricketHayModel") (T := F_12) (N := 73) (v := .int (hI h 383 21)) (fun s => Std.k s (lc hn rfl) kq_383) rfl (Nat.le_of_ble_eq_true rfl) rfl w_1107 (fun _ => rfl) d_M_mayNot_1 ?_
  refine r_if_eq (pc := 4) (tgt := 41) d_M_mayNot_4 (by rfl) ?_ ?_
  · refine r_iconst (pc := 41) (v := 1) d_M_mayNot_41 (by rfl) ?_
    refine r_goto (pc := 42) (tgt := 46) d_M_mayNot_42 (by rfl) ?_
    exact r_zret (pc := 46) rfl rfl d_M_mayNot_46
  · refine r_aload_n (pc := 7) (i := 0) d_M_mayNot_7 rfl rfl ?_
    refine r_getf (pc := 8) (ci := 12) (k := 17) (C := "CricketHayModel") (T := F_12) (N := 73) (v := .ref 392) (fun s => Std.k s (lc hn rfl) kq_383) rfl (Nat.le_of_ble_eq_true rfl) rfl w_1103 (fun s => vr rfl (Std.r s (lc hn rfl) rq_383_17)) d_M_mayNot_8 ?_
    refine r_aload_n (pc := 11) (i := 0) d_M_mayNot_11 rfl rfl ?_
    refine r_getf (pc := 12) (ci := 12) (k := 21) (C := "CricketHayModel") (T := F_12) (N := 73) (v := .int (hI h 383 21)) (fun s => Std.k s (lc hn rfl) kq_383) rfl (Nat.le_of_ble_eq_true rfl) rfl w_1107 (fun _ => rfl) d_M_mayNot_12 ?_
    refine r_iconst (pc := 15) (v := 1) d_M_mayNot_15 (by rfl) ?_
    refine r_isub (pc := 16) d_M_mayNot_16 ?_
    refine r_gx (fun zq1 => ?_)
    refine r_iald (pc := 17) (n := 160) (i0 := (ix ((hI h 383 21) - (1 : Int32)))) (fun s => Std.k s (lc hn rfl) kq_392) zq1 rfl d_M_mayNot_17 ?_
    refine r_bipush (pc := 18) (v := 20) d_M_mayNot_18 (by rfl) ?_
    refine r_icmp_eq (pc := 20) (tgt := 41) d_M_mayNot_20 (by rfl) ?_ ?_
    · refine r_iconst (pc := 41) (v := 1) d_M_mayNot_41 (by rfl) ?_
      refine r_goto (pc := 42) (tgt := 46) d_M_mayNot_42 (by rfl) ?_
      exact r_zret (pc := 46) rfl rfl d_M_mayNot_46
    · refine r_aload_n (pc := 23) (i := 0) d_M_mayNot_23 rfl rfl ?_
      refine r_getf (pc := 24) (ci := 12) (k := 17) (C := "CricketHayModel") (T := F_12) (N := 73) (v := .ref 392) (fun s => Std.k s (lc hn rfl) kq_383) rfl (Nat.le_of_ble_eq_true rfl) rfl w_1103 (fun s => vr rfl (Std.r s (lc hn rfl) rq_383_17)) d_M_mayNot_24 ?_
      refine r_aload_n (pc := 27) (i := 0) d_M_mayNot_27 rfl rfl ?_
      refine r_getf (pc := 28) (ci := 12) (k := 21) (C := "CricketHayModel") (T := F_12) (N := 73) (v := .int (hI h 383 21)) (fun s => Std.k s (lc hn rfl) kq_383) rfl (Nat.le_of_ble_eq_true rfl) rfl w_1107 (fun _ => rfl) d_M_mayNot_28 ?_
      refine r_iconst (pc := 31) (v := 1) d_M_mayNot_31 (by rfl) ?_
      refine r_isub (pc := 32) d_M_mayNot_32 ?_
      refine r_gx (fun zq2 => ?_)
      refine r_iald (pc := 33) (n := 160) (i0 := (ix ((hI h 383 21) - (1 : Int32)))) (fun s => Std.k s (lc hn rfl) kq_392) zq2 rfl d_M_mayNot_33 ?_
      refine r_cSi (pc := 34) (st := []) (ok_M_tight hn (hI h 392 (ix ((hI h 383 21) - (1 : Int32)))) h) w_1428 w_13 w_1426 w_1427 hy_M_tight ⟨Nat.le_of_ble_eq_true rfl, Nat.le_of_ble_eq_true rfl⟩ ⟨Nat.le_of_ble_eq_true rfl, Nat.le_of_ble_eq_true rfl⟩ rfl (Nat.le_of_ble_eq_true rfl) d_M_mayNot_34 (fun rq3 hq4 => ?_)
      refine r_iconst (pc := 37) (v := 4) d_M_mayNot_37 (by rfl) ?_
      refine r_icmp_ge (pc := 38) (tgt := 45) d_M_mayNot_38 (by rfl) ?_ ?_
      · refine r_iconst (pc := 45) (v := 0) d_M_mayNot_45 (by rfl) ?_
        exact r_zret (pc := 46) rfl rfl d_M_mayNot_46
      · refine r_iconst (pc := 41) (v := 1) d_M_mayNot_41 (by rfl) ?_
        refine r_goto (pc := 42) (tgt := 46) d_M_mayNot_42 (by rfl) ?_
        exact r_zret (pc := 46) rfl rfl d_M_mayNot_46

def f_M_asked   (h : AH) : Option (Int32 × AH) :=
  if (hI h 383 6) = (1 : Int32) then
    if ¬ (lg_cmp (hL h 383 9) (1751474548 : Int64)) = 0 then
      if ¬ (lg_cmp (hL h 383 9) (1936682599 : Int64)) = 0 then
        if ¬ (lg_cmp (hL h 383 9) (6383461 : Int64)) = 0 then
          if ¬ (lg_cmp (hL h 383 9) (469786453363 : Int64)) = 0 then
            if ¬ (lg_cmp (hL h 383 9) (1752135026 : Int64)) = 0 then
              if ¬ (lg_cmp (hL h 383 9) (6578553 : Int64)) = 0 then
                some ((-1 : Int32), h)
              else
                some ((5 : Int32), h)
            else
              some ((4 : Int32), h)
          else
            some ((3 : Int32), h)
        else
          some ((2 : Int32), h)
      else
        some ((1 : Int32), h)
    else
      some ((0 : Int32), h)
  else
    some ((-1 : Int32), h)
set_option maxHeartbeats 2000000 in
theorem ok_M_asked {G : AE} {n : Nat} (hn : NN ≤ n)   (h : AH) : OK G n y_M_asked (1) φI [.ref 383] h (f_M_asked h) := by
  refine ok_of (y := y_M_asked) (lv0 := [some (.ref 383)]) (by decide +kernel) (Nat.le_of_ble_eq_true rfl) ⟨rfl, trivial⟩ ?_
  rw [f_M_asked]
  refine r_aload_n (pc := 0) (i := 0) d_M_asked_0 rfl rfl ?_
  refine r_getf (pc := 1) (ci := 12) (k := 6) (C := "CricketHayModel") (T := F_12) (N := 73) (v := .int (hI h 383 6)) (fun s => Std.k s (lc hn rfl) kq_383) rfl (Nat.le_of_ble_eq_true rfl) rfl w_1092 (fun _ => rfl) d_M_asked_1 ?_
  refine r_iconst (pc := 4) (v := 1) d_M_asked_4 (by rfl) ?_
  refine r_icmp_eq (pc := 5) (tgt := 10) d_M_asked_5 (by rfl) ?_ ?_
  · refine r_aload_n (pc := 10) (i := 0) d_M_asked_10 rfl rfl ?_
    refine r_getf (pc := 11) (ci := 12) (k := 9) (C := "CricketHayModel") (T := F_12) (N := 73) (v := .long (hL h 383 9)) (fun s => Std.k s (lc hn rfl) kq_383) rfl (Nat.le_of_ble_eq_true rfl) rfl w_1095 (fun _ => rfl) d_M_asked_11 ?_
    refine r_ldc2 (pc := 14) w_1376 d_M_asked_14 ?_
    refine r_lcmp (pc := 17) d_M_asked_17 ?_
    refine r_if_ne (pc := 18) (tgt := 23) d_M_asked_18 (by rfl) ?_ ?_
    · refine r_aload_n (pc := 23) (i := 0) d_M_asked_23 rfl rfl ?_
      refine r_getf (pc := 24) (ci := 12) (k := 9) (C := "CricketHayModel") (T := F_12) (N := 73) (v := .long (hL h 383 9)) (fun s => Std.k s (lc hn rfl) kq_383) rfl (Nat.le_of_ble_eq_true rfl) rfl w_1095 (fun _ => rfl) d_M_asked_24 ?_
      refine r_ldc2 (pc := 27) w_1370 d_M_asked_27 ?_
      refine r_lcmp (pc := 30) d_M_asked_30 ?_
      refine r_if_ne (pc := 31) (tgt := 36) d_M_asked_31 (by rfl) ?_ ?_
      · refine r_aload_n (pc := 36) (i := 0) d_M_asked_36 rfl rfl ?_
        refine r_getf (pc := 37) (ci := 12) (k := 9) (C := "CricketHayModel") (T := F_12) (N := 73) (v := .long (hL h 383 9)) (fun s => Std.k s (lc hn rfl) kq_383) rfl (Nat.le_of_ble_eq_true rfl) rfl w_1095 (fun _ => rfl) d_M_asked_37 ?_
        refine r_ldc2 (pc := 40) w_1371 d_M_asked_40 ?_
        refine r_lcmp (pc := 43) d_M_asked_43 ?_
        refine r_if_ne (pc := 44) (tgt := 49) d_M_asked_44 (by rfl) ?_ ?_
        · refine r_aload_n (pc := 49) (i := 0) d_M_asked_49 rfl rfl ?_
          refine r_getf (pc := 50) (ci := 12) (k := 9) (C := "CricketHayModel") (T := F_12) (N := 73) (v := .long (hL h 383 9)) (fun s => Std.k s (lc hn rfl) kq_383) rfl (Nat.le_of_ble_eq_true rfl) rfl w_1095 (fun _ => rfl) d_M_asked_50 ?_
          refine r_ldc2 (pc := 53) w_1380 d_M_asked_53 ?_
          refine r_lcmp (pc := 56) d_M_asked_56 ?_
          refine r_if_ne (pc := 57) (tgt := 62) d_M_asked_57 (by rfl) ?_ ?_
          · refine r_aload_n (pc := 62) (i := 0) d_M_asked_62 rfl rfl ?_
            refine r_getf (pc := 63) (ci := 12) (k := 9) (C := "CricketHayModel") (T := F_12) (N := 73) (v := .long (hL h 383 9)) (fun s => Std.k s (lc hn rfl) kq_383) rfl (Nat.le_of_ble_eq_true rfl) rfl w_1095 (fun _ => rfl) d_M_asked_63 ?_
            refine r_ldc2 (pc := 66) w_1381 d_M_asked_66 ?_
            refine r_lcmp (pc := 69) d_M_asked_69 ?_
            refine r_if_ne (pc := 70) (tgt := 75) d_M_asked_70 (by rfl) ?_ ?_
            · refine r_aload_n (pc := 75) (i := 0) d_M_asked_75 rfl rfl ?_
              refine r_getf (pc := 76) (ci := 12) (k := 9) (C := "CricketHayModel") (T := F_12) (N := 73) (v := .long (hL h 383 9)) (fun s => Std.k s (lc hn rfl) kq_383) rfl (Nat.le_of_ble_eq_true rfl) rfl w_1095 (fun _ => rfl) d_M_asked_76 ?_
              refine r_ldc2 (pc := 79) w_1382 d_M_asked_79 ?_
              refine r_lcmp (pc := 82) d_M_asked_82 ?_
              refine r_if_ne (pc := 83) (tgt := 90) d_M_asked_83 (by rfl) ?_ ?_
              · refine r_iconst (pc := 90) (v := -1) d_M_asked_90 (by rfl) ?_
                exact r_iret (pc := 91) rfl d_M_asked_91
              · refine r_iconst (pc := 86) (v := 5) d_M_asked_86 (by rfl) ?_
                refine r_goto (pc := 87) (tgt := 91) d_M_asked_87 (by rfl) ?_
                exact r_iret (pc := 91) rfl d_M_asked_91
            · refine r_iconst (pc := 73) (v := 4) d_M_asked_73 (by rfl) ?_
              exact r_iret (pc := 74) rfl d_M_asked_74
          · refine r_iconst (pc := 60) (v := 3) d_M_asked_60 (by rfl) ?_
            exact r_iret (pc := 61) rfl d_M_asked_61
        · refine r_iconst (pc := 47) (v := 2) d_M_asked_47 (by rfl) ?_
          exact r_iret (pc := 48) rfl d_M_asked_48
      · refine r_iconst (pc := 34) (v := 1) d_M_asked_34 (by rfl) ?_
        exact r_iret (pc := 35) rfl d_M_asked_35
    · refine r_iconst (pc := 21) (v := 0) d_M_asked_21 (by rfl) ?_
      exact r_iret (pc := 22) rfl d_M_asked_22
  · refine r_iconst (pc := 8) (v := -1) d_M_asked_8 (by rfl) ?_
    exact r_iret (pc := 9) rfl d_M_asked_9

def f_M_isFull   (h : AH) : Option (Int32 × AH) :=
  if (hI h 383 22) = (60 : Int32) then
    some ((1 : Int32), h)
  else
    if ¬ (hI h 383 24) = (30 : Int32) then
      some ((0 : Int32), h)
    else
      some ((1 : Int32), h)
set_option maxHeartbeats 2000000 in
theorem ok_M_isFull {G : AE} {n : Nat} (hn : NN ≤ n)   (h : AH) : OK G n y_M_isFull (1) φI [.ref 383] h (f_M_isFull h) := by
  refine ok_of (y := y_M_isFull) (lv0 := [some (.ref 383)]) (by decide +kernel) (Nat.le_of_ble_eq_true rfl) ⟨rfl, trivial⟩ ?_
  rw [f_M_isFull]
  refine r_aload_n (pc := 0) (i := 0) d_M_isFull_0 rfl rfl ?_
  refine r_getf (pc := 1) (ci := 12) (k := 22) (C := "CricketHayModel") (T := F_12) (N := 73) (v := .int (hI h 383 22)) (fun s => Std.k s (lc hn rfl) kq_383) rfl (Nat.le_of_ble_eq_true rfl) rfl w_1108 (fun _ => rfl) d_M_isFull_1 ?_
  refine r_bipush (pc := 4) (v := 60) d_M_isFull_4 (by rfl) ?_
  refine r_icmp_eq (pc := 6) (tgt := 18) d_M_isFull_6 (by rfl) ?_ ?_
  · refine r_iconst (pc := 18) (v := 1) d_M_isFull_18 (by rfl) ?_
    refine r_goto (pc := 19) (tgt := 23) d_M_isFull_19 (by rfl) ?_
    exact r_zret (pc := 23) rfl rfl d_M_isFull_23
  · refine r_aload_n (pc := 9) (i := 0) d_M_isFull_9 rfl rfl ?_
    refine r_getf (pc := 10) (ci := 12) (k := 24) (C := "CricketHayModel") (T := F_12) (N := 73) (v := .int (hI h 383 24)) (fun s => Std.k s (lc hn rfl) kq_383) rfl (Nat.le_of_ble_eq_true rfl) rfl w_1110 (fun _ => rfl) d_M_isFull_10 ?_
    refine r_bipush (pc := 13) (v := 30) d_M_isFull_13 (by rfl) ?_
    refine r_icmp_ne (pc := 15) (tgt := 22) d_M_isFull_15 (by rfl) ?_ ?_
    · refine r_iconst (pc := 22) (v := 0) d_M_isFull_22 (by rfl) ?_
      exact r_zret (pc := 23) rfl rfl d_M_isFull_23
    · refine r_iconst (pc := 18) (v := 1) d_M_isFull_18 (by rfl) ?_
      refine r_goto (pc := 19) (tgt := 23) d_M_isFull_19 (by rfl) ?_
      exact r_zret (pc := 23) rfl rfl d_M_isFull_23

def f_M_countUnit   (h : AH) : Option AH :=
  lt (sI h 383 22 ((hI h 383 22) + (1 : Int32))) fun hq1 =>
  lt (sI hq1 383 24 ((hI hq1 383 24) + (1 : Int32))) fun hq2 =>
  some hq2
set_option maxHeartbeats 2000000 in
theorem ok_M_countUnit {G : AE} {n : Nat} (hn : NN ≤ n)   (h : AH) : OK G n y_M_countUnit (1) φV [.ref 383] h (f_M_countUnit h) := by
  refine ok_of (y := y_M_countUnit) (lv0 := [some (.ref 383)]) (by decide +kernel) (Nat.le_of_ble_eq_true rfl) ⟨rfl, trivial⟩ ?_
  rw [f_M_countUnit]
  refine r_aload_n (pc := 0) (i := 0) d_M_countUnit_0 rfl rfl ?_
  refine r_dup (pc := 1) d_M_countUnit_1 rfl ?_
  refine r_getf (pc := 2) (ci := 12) (k := 22) (C := "CricketHayModel") (T := F_12) (N := 73) (v := .int (hI h 383 22)) (fun s => Std.k s (lc hn rfl) kq_383) rfl (Nat.le_of_ble_eq_true rfl) rfl w_1108 (fun _ => rfl) d_M_countUnit_2 ?_
  refine r_iconst (pc := 5) (v := 1) d_M_countUnit_5 (by rfl) ?_
  refine r_iadd (pc := 6) d_M_countUnit_6 ?_
  refine r_putI (pc := 7) (ci := 12) (k := 22) (C := "CricketHayModel") (T := F_12) (N := 73) (fun s => Std.k s (lc hn rfl) kq_383) rfl (Nat.le_of_ble_eq_true rfl) rfl rfl w_1108 (fun _ _ => rfl) (fun _ => rfl) (fun _ => rfl) (fun s => Std.sI s _ _ _) d_M_countUnit_7 ?_
  refine r_ltH (fun hq1 => ?_)
  refine r_aload_n (pc := 10) (i := 0) d_M_countUnit_10 rfl rfl ?_
  refine r_dup (pc := 11) d_M_countUnit_11 rfl ?_
  refine r_getf (pc := 12) (ci := 12) (k := 24) (C := "CricketHayModel") (T := F_12) (N := 73) (v := .int (hI hq1 383 24)) (fun s => Std.k s (lc hn rfl) kq_383) rfl (Nat.le_of_ble_eq_true rfl) rfl w_1110 (fun _ => rfl) d_M_countUnit_12 ?_
  refine r_iconst (pc := 15) (v := 1) d_M_countUnit_15 (by rfl) ?_
  refine r_iadd (pc := 16) d_M_countUnit_16 ?_
  refine r_putI (pc := 17) (ci := 12) (k := 24) (C := "CricketHayModel") (T := F_12) (N := 73) (fun s => Std.k s (lc hn rfl) kq_383) rfl (Nat.le_of_ble_eq_true rfl) rfl rfl w_1110 (fun _ _ => rfl) (fun _ => rfl) (fun _ => rfl) (fun s => Std.sI s _ _ _) d_M_countUnit_17 ?_
  refine r_ltH (fun hq2 => ?_)
  exact r_vret (pc := 20) rfl d_M_countUnit_20

def f_M_openUp  (a1 : Int32) (h : AH) : Option AH :=
  gx (hI h 383 21) 160 <|
  lt (sI h 392 (ix (hI h 383 21)) a1) fun hq2 =>
  lt (sI hq2 383 21 ((hI hq2 383 21) + (1 : Int32))) fun hq3 =>
  lt (sI hq3 383 25 ((hI hq3 383 25) + (1 : Int32))) fun hq4 =>
  if ¬ (hI hq4 383 2) = 0 then
    some hq4
  else
    bV (f_M_token hq4) fun hq5 =>
    some hq5
set_option maxHeartbeats 2000000 in
theorem ok_M_openUp {G : AE} {n : Nat} (hn : NN ≤ n)  (a1 : Int32) (h : AH) : OK G n y_M_openUp (3) φV [.ref 383, .int a1] h (f_M_openUp a1 h) := by
  refine ok_of (y := y_M_openUp) (lv0 := [some (.ref 383), some (.int a1)]) (by decide +kernel) (Nat.le_of_ble_eq_true rfl) ⟨rfl, ⟨rfl, trivial⟩⟩ ?_
  rw [f_M_openUp]
  refine r_aload_n (pc := 0) (i := 0) d_M_openUp_0 rfl rfl ?_
  refine r_getf (pc := 1) (ci := 12) (k := 17) (C := "CricketHayModel") (T := F_12) (N := 73) (v := .ref 392) (fun s => Std.k s (lc hn rfl) kq_383) rfl (Nat.le_of_ble_eq_true rfl) rfl w_1103 (fun s => vr rfl (Std.r s (lc hn rfl) rq_383_17)) d_M_openUp_1 ?_
  refine r_aload_n (pc := 4) (i := 0) d_M_openUp_4 rfl rfl ?_
  refine r_getf (pc := 5) (ci := 12) (k := 21) (C := "CricketHayModel") (T := F_12) (N := 73) (v := .int (hI h 383 21)) (fun s => Std.k s (lc hn rfl) kq_383) rfl (Nat.le_of_ble_eq_true rfl) rfl w_1107 (fun _ => rfl) d_M_openUp_5 ?_
  refine r_iload_n (pc := 8) (i := 1) d_M_openUp_8 rfl rfl ?_
  refine r_gx (fun zq1 => ?_)
  refine r_iast (pc := 9) (n := 160) (i0 := (ix (hI h 383 21))) (fun s => Std.k s (lc hn rfl) kq_392) zq1 rfl (fun s => Std.sI s _ _ _) d_M_openUp_9 ?_
  refine r_ltH (fun hq2 => ?_)
  refine r_aload_n (pc := 10) (i := 0) d_M_openUp_10 rfl rfl ?_
  refine r_dup (pc := 11) d_M_openUp_11 rfl ?_
  refine r_getf (pc := 12) (ci := 12) (k := 21) (C := "CricketHayModel") (T := F_12) (N := 73) (v := .int (hI hq2 383 21)) (fun s => Std.k s (lc hn rfl) kq_383) rfl (Nat.le_of_ble_eq_true rfl) rfl w_1107 (fun _ => rfl) d_M_openUp_12 ?_
  refine r_iconst (pc := 15) (v := 1) d_M_openUp_15 (by rfl) ?_
  refine r_iadd (pc := 16) d_M_openUp_16 ?_
  refine r_putI (pc := 17) (ci := 12) (k := 21) (C := "CricketHayModel") (T := F_12) (N := 73) (fun s => Std.k s (lc hn rfl) kq_383) rfl (Nat.le_of_ble_eq_true rfl) rfl rfl w_1107 (fun _ _ => rfl) (fun _ => rfl) (fun _ => rfl) (fun s => Std.sI s _ _ _) d_M_openUp_17 ?_
  refine r_ltH (fun hq3 => ?_)
  refine r_aload_n (pc := 20) (i := 0) d_M_openUp_20 rfl rfl ?_
  refine r_dup (pc := 21) d_M_openUp_21 rfl ?_
  refine r_getf (pc := 22) (ci := 12) (k := 25) (C := "CricketHayModel") (T := F_12) (N := 73) (v := .int (hI hq3 383 25)) (fun s => Std.k s (lc hn rfl) kq_383) rfl (Nat.le_of_ble_eq_true rfl) rfl w_1111 (fun _ => rfl) d_M_openUp_22 ?_
  refine r_iconst (pc := 25) (v := 1) d_M_openUp_25 (by rfl) ?_
  refine r_iadd (pc := 26) d_M_openUp_26 ?_
  refine r_putI (pc := 27) (ci := 12) (k := 25) (C := "CricketHayModel") (T := F_12) (N := 73) (fun s => Std.k s (lc hn rfl) kq_383) rfl (Nat.le_of_ble_eq_true rfl) rfl rfl w_1111 (fun _ _ => rfl) (fun _ => rfl) (fun _ => rfl) (fun s => Std.sI s _ _ _) d_M_openUp_27 ?_
  refine r_ltH (fun hq4 => ?_)
  refine r_aload_n (pc := 30) (i := 0) d_M_openUp_30 rfl rfl ?_
  refine r_getf (pc := 31) (ci := 12) (k := 2) (C := "CricketHayModel") (T := F_12) (N := 73) (v := .int (hI hq4 383 2)) (fun s => Std.k s (lc hn rfl) kq_383) rfl (Nat.le_of_ble_eq_true rfl) rfl w_1088 (fun _ => rfl) d_M_openUp_31 ?_
  refine r_if_ne (pc := 34) (tgt := 41) d_M_openUp_34 (by rfl) ?_ ?_
  · exact r_vret (pc := 41) rfl d_M_openUp_41
  · refine r_aload_n (pc := 37) (i := 0) d_M_openUp_37 rfl rfl ?_
    refine r_cVv (pc := 38) (T := F_12) (N := 73) (st := []) (ok_M_token hn hq4) (fun s => Std.k s (lc hn rfl) kq_383) rfl w_1329 w_13 w_1326 w_1328 ws_48 hy_M_token ⟨Nat.le_of_ble_eq_true rfl, Nat.le_of_ble_eq_true rfl⟩ ⟨Nat.le_of_ble_eq_true rfl, Nat.le_of_ble_eq_true rfl⟩ rfl (Nat.le_of_ble_eq_true rfl) d_M_openUp_38 (fun hq5 => ?_)
    exact r_vret (pc := 41) rfl d_M_openUp_41

def f_M_unit_b172    (v1 : Int32) (v2 : Int32) (h : AH) : Option AH :=
  bV (f_M_add v1 v2 h) fun hq1 =>
  bV (f_M_token hq1) fun hq2 =>
  some hq2
set_option maxHeartbeats 2000000 in
theorem o_M_unit_b172 {G : AE} {n : Nat} (hn : NN ≤ n)     : ∀ (v1 : Int32) (v2 : Int32) (h : AH), AJ G n y_M_unit (4) φV 172 [some (.ref 383), none, none] [.int v2, .int v1, .ref 383] h (f_M_unit_b172 v1 v2 h) := by
  intro v1 v2 h
  rw [f_M_unit_b172]
  refine r_cVv (pc := 172) (T := F_12) (N := 73) (st := []) (ok_M_add hn v1 v2 h) (fun s => Std.k s (lc hn rfl) kq_383) rfl w_1448 w_13 w_1445 w_1447 ws_70 hy_M_add ⟨Nat.le_of_ble_eq_true rfl, Nat.le_of_ble_eq_true rfl⟩ ⟨Nat.le_of_ble_eq_true rfl, Nat.le_of_ble_eq_true rfl⟩ rfl (Nat.le_of_ble_eq_true rfl) d_M_unit_172 (fun hq1 => ?_)
  refine r_aload_n (pc := 175) (i := 0) d_M_unit_175 rfl rfl ?_
  refine r_cVv (pc := 176) (T := F_12) (N := 73) (st := []) (ok_M_token hn hq1) (fun s => Std.k s (lc hn rfl) kq_383) rfl w_1329 w_13 w_1326 w_1328 ws_48 hy_M_token ⟨Nat.le_of_ble_eq_true rfl, Nat.le_of_ble_eq_true rfl⟩ ⟨Nat.le_of_ble_eq_true rfl, Nat.le_of_ble_eq_true rfl⟩ rfl (Nat.le_of_ble_eq_true rfl) d_M_unit_176 (fun hq2 => ?_)
  exact r_vret (pc := 179) rfl d_M_unit_179
def f_M_unit_b160    (x2 : Int32) (v1 : Int32) (h : AH) : Option AH :=
  if 0 ≤ x2 then
    f_M_unit_b172 v1 x2 h
  else
    f_M_unit_b172 v1 (hI h 383 8) h
set_option maxHeartbeats 2000000 in
theorem o_M_unit_b160 {G : AE} {n : Nat} (hn : NN ≤ n)     : ∀ (x2 : Int32) (v1 : Int32) (h : AH), AJ G n y_M_unit (4) φV 160 [some (.ref 383), none, some (.int x2)] [.int v1, .ref 383] h (f_M_unit_b160 x2 v1 h) := by
  intro x2 v1 h
  rw [f_M_unit_b160]
  refine r_iload_n (pc := 160) (i := 2) d_M_unit_160 rfl rfl ?_
  refine r_if_ge (pc := 161) (tgt := 171) d_M_unit_161 (by rfl) ?_ ?_
  · refine r_iload_n (pc := 171) (i := 2) d_M_unit_171 rfl rfl ?_
    exact r_wk (o_M_unit_b172 hn v1 x2 h) ⟨rfl, trivial⟩
  · refine r_aload_n (pc := 164) (i := 0) d_M_unit_164 rfl rfl ?_
    refine r_getf (pc := 165) (ci := 12) (k := 8) (C := "CricketHayModel") (T := F_12) (N := 73) (v := .int (hI h 383 8)) (fun s => Std.k s (lc hn rfl) kq_383) rfl (Nat.le_of_ble_eq_true rfl) rfl w_1094 (fun _ => rfl) d_M_unit_165 ?_
    refine r_goto (pc := 168) (tgt := 172) d_M_unit_168 (by rfl) ?_
    exact r_wk (o_M_unit_b172 hn v1 (hI h 383 8) h) ⟨rfl, trivial⟩
def f_M_unit_b138    (x2 : Int32) (h : AH) : Option AH :=
  if (hI h 383 2) ≤ 0 then
    bV (f_M_countUnit h) fun hq1 =>
    if 0 ≤ x2 then
      f_M_unit_b160 x2 (1 : Int32) hq1
    else
      f_M_unit_b160 x2 (0 : Int32) hq1
  else
    some h
set_option maxHeartbeats 2000000 in
theorem o_M_unit_b138 {G : AE} {n : Nat} (hn : NN ≤ n)     : ∀ (x2 : Int32) (h : AH), AJ G n y_M_unit (4) φV 138 [some (.ref 383), none, some (.int x2)] [] h (f_M_unit_b138 x2 h) := by
  intro x2 h
  rw [f_M_unit_b138]
  refine r_aload_n (pc := 138) (i := 0) d_M_unit_138 rfl rfl ?_
  refine r_getf (pc := 139) (ci := 12) (k := 2) (C := "CricketHayModel") (T := F_12) (N := 73) (v := .int (hI h 383 2)) (fun s => Std.k s (lc hn rfl) kq_383) rfl (Nat.le_of_ble_eq_true rfl) rfl w_1088 (fun _ => rfl) d_M_unit_139 ?_
  refine r_if_le (pc := 142) (tgt := 146) d_M_unit_142 (by rfl) ?_ ?_
  · refine r_aload_n (pc := 146) (i := 0) d_M_unit_146 rfl rfl ?_
    refine r_cVv (pc := 147) (T := F_12) (N := 73) (st := []) (ok_M_countUnit hn h) (fun s => Std.k s (lc hn rfl) kq_383) rfl w_1440 w_13 w_1437 w_1439 ws_68 hy_M_countUnit ⟨Nat.le_of_ble_eq_true rfl, Nat.le_of_ble_eq_true rfl⟩ ⟨Nat.le_of_ble_eq_true rfl, Nat.le_of_ble_eq_true rfl⟩ rfl (Nat.le_of_ble_eq_true rfl) d_M_unit_147 (fun hq1 => ?_)
    refine r_aload_n (pc := 150) (i := 0) d_M_unit_150 rfl rfl ?_
    refine r_iload_n (pc := 151) (i := 2) d_M_unit_151 rfl rfl ?_
    refine r_if_ge (pc := 152) (tgt := 159) d_M_unit_152 (by rfl) ?_ ?_
    · refine r_iconst (pc := 159) (v := 1) d_M_unit_159 (by rfl) ?_
      exact r_wk (o_M_unit_b160 hn x2 (1 : Int32) hq1) ⟨rfl, ⟨rfl, trivial⟩⟩
    · refine r_iconst (pc := 155) (v := 0) d_M_unit_155 (by rfl) ?_
      refine r_goto (pc := 156) (tgt := 160) d_M_unit_156 (by rfl) ?_
      exact r_wk (o_M_unit_b160 hn x2 (0 : Int32) hq1) ⟨rfl, ⟨rfl, trivial⟩⟩
  · exact r_vret (pc := 145) rfl d_M_unit_145
def f_M_unit_b133    (x2 : Int32) (h : AH) : Option AH :=
  bV (f_M_wrong (2 : Int32) h) fun hq1 =>
  f_M_unit_b138 x2 hq1
set_option maxHeartbeats 2000000 in
theorem o_M_unit_b133 {G : AE} {n : Nat} (hn : NN ≤ n)     : ∀ (x2 : Int32) (h : AH), AJ G n y_M_unit (4) φV 133 [some (.ref 383), none, some (.int x2)] [] h (f_M_unit_b133 x2 h) := by
  intro x2 h
  rw [f_M_unit_b133]
  refine r_aload_n (pc := 133) (i := 0) d_M_unit_133 rfl rfl ?_
  refine r_iconst (pc := 134) (v := 2) d_M_unit_134 (by rfl) ?_
  refine r_cVv (pc := 135) (T := F_12) (N := 73) (st := []) (ok_M_wrong hn (2 : Int32) h) (fun s => Std.k s (lc hn rfl) kq_383) rfl w_1389 w_13 w_1386 w_1388 ws_56 hy_M_wrong ⟨Nat.le_of_ble_eq_true rfl, Nat.le_of_ble_eq_true rfl⟩ ⟨Nat.le_of_ble_eq_true rfl, Nat.le_of_ble_eq_true rfl⟩ rfl (Nat.le_of_ble_eq_true rfl) d_M_unit_135 (fun hq1 => ?_)
  exact r_wk (o_M_unit_b138 hn x2 hq1) ⟨rfl, ⟨rfl, trivial⟩⟩
def f_M_unit_b126    (x2 : Int32) (h : AH) : Option AH :=
  bI (f_M_isFull h) fun rq1 hq2 =>
  if rq1 = 0 then
    f_M_unit_b138 x2 hq2
  else
    f_M_unit_b133 x2 hq2
set_option maxHeartbeats 2000000 in
theorem o_M_unit_b126 {G : AE} {n : Nat} (hn : NN ≤ n)     : ∀ (x2 : Int32) (h : AH), AJ G n y_M_unit (4) φV 126 [some (.ref 383), none, some (.int x2)] [] h (f_M_unit_b126 x2 h) := by
  intro x2 h
  rw [f_M_unit_b126]
  refine r_aload_n (pc := 126) (i := 0) d_M_unit_126 rfl rfl ?_
  refine r_cVi (pc := 127) (T := F_12) (N := 73) (st := []) (ok_M_isFull hn h) (fun s => Std.k s (lc hn rfl) kq_383) rfl w_1436 w_13 w_1433 w_1435 ws_67 hy_M_isFull ⟨Nat.le_of_ble_eq_true rfl, Nat.le_of_ble_eq_true rfl⟩ ⟨Nat.le_of_ble_eq_true rfl, Nat.le_of_ble_eq_true rfl⟩ rfl (Nat.le_of_ble_eq_true rfl) d_M_unit_127 (fun rq1 hq2 => ?_)
  refine r_if_eq (pc := 130) (tgt := 138) d_M_unit_130 (by rfl) ?_ ?_
  · exact r_wk (o_M_unit_b138 hn x2 hq2) ⟨rfl, ⟨rfl, trivial⟩⟩
  · exact r_wk (o_M_unit_b133 hn x2 hq2) ⟨rfl, ⟨rfl, trivial⟩⟩
def f_M_unit_b101     (h : AH) : Option AH :=
  if (hI h 383 2) ≤ 0 then
    bI (f_M_asked h) fun rq1 hq2 =>
    if (hI hq2 383 6) = (2 : Int32) then
      f_M_unit_b126 rq1 hq2
    else
      if rq1 < 0 then
        f_M_unit_b133 rq1 hq2
      else
        f_M_unit_b126 rq1 hq2
  else
    some h
set_option maxHeartbeats 2000000 in
theorem o_M_unit_b101 {G : AE} {n : Nat} (hn : NN ≤ n)     : ∀  (h : AH), AJ G n y_M_unit (4) φV 101 [some (.ref 383), none, none] [] h (f_M_unit_b101 h) := by
  intro  h
  rw [f_M_unit_b101]
  refine r_aload_n (pc := 101) (i := 0) d_M_unit_101 rfl rfl ?_
  refine r_getf (pc := 102) (ci := 12) (k := 2) (C := "CricketHayModel") (T := F_12) (N := 73) (v := .int (hI h 383 2)) (fun s => Std.k s (lc hn rfl) kq_383) rfl (Nat.le_of_ble_eq_true rfl) rfl w_1088 (fun _ => rfl) d_M_unit_102 ?_
  refine r_if_le (pc := 105) (tgt := 109) d_M_unit_105 (by rfl) ?_ ?_
  · refine r_aload_n (pc := 109) (i := 0) d_M_unit_109 rfl rfl ?_
    refine r_cVi (pc := 110) (T := F_12) (N := 73) (st := []) (ok_M_asked hn h) (fun s => Std.k s (lc hn rfl) kq_383) rfl w_1444 w_13 w_1441 w_1443 ws_69 hy_M_asked ⟨Nat.le_of_ble_eq_true rfl, Nat.le_of_ble_eq_true rfl⟩ ⟨Nat.le_of_ble_eq_true rfl, Nat.le_of_ble_eq_true rfl⟩ rfl (Nat.le_of_ble_eq_true rfl) d_M_unit_110 (fun rq1 hq2 => ?_)
    refine r_istore_n (pc := 113) (i := 2) (lv1 := [some (.ref 383), none, some (.int rq1)]) d_M_unit_113 rfl (Nat.le_of_ble_eq_true rfl) rfl ?_
    refine r_aload_n (pc := 114) (i := 0) d_M_unit_114 rfl rfl ?_
    refine r_getf (pc := 115) (ci := 12) (k := 6) (C := "CricketHayModel") (T := F_12) (N := 73) (v := .int (hI hq2 383 6)) (fun s => Std.k s (lc hn rfl) kq_383) rfl (Nat.le_of_ble_eq_true rfl) rfl w_1092 (fun _ => rfl) d_M_unit_115 ?_
    refine r_iconst (pc := 118) (v := 2) d_M_unit_118 (by rfl) ?_
    refine r_icmp_eq (pc := 119) (tgt := 126) d_M_unit_119 (by rfl) ?_ ?_
    · exact r_wk (o_M_unit_b126 hn rq1 hq2) ⟨rfl, ⟨rfl, trivial⟩⟩
    · refine r_iload_n (pc := 122) (i := 2) d_M_unit_122 rfl rfl ?_
      refine r_if_lt (pc := 123) (tgt := 133) d_M_unit_123 (by rfl) ?_ ?_
      · exact r_wk (o_M_unit_b133 hn rq1 hq2) ⟨rfl, ⟨rfl, trivial⟩⟩
      · exact r_wk (o_M_unit_b126 hn rq1 hq2) ⟨rfl, ⟨rfl, trivial⟩⟩
  · exact r_vret (pc := 108) rfl d_M_unit_108
def f_M_unit_b83   (k2 : Int32 → AH → Option AH) (x1 : Int32) (h : AH) : Option AH :=
  bV (f_M_countUnit h) fun hq1 =>
  bV (f_M_openUp (20 : Int32) hq1) fun hq2 =>
  k2 x1 hq2
set_option maxHeartbeats 2000000 in
theorem o_M_unit_b83 {G : AE} {n : Nat} (hn : NN ≤ n)    {k2 : Int32 → AH → Option AH} (hk2 : ∀ (x1 : Int32) (h : AH), AJ G n y_M_unit (4) φV 2 [some (.ref 383), some (.int x1), none] [] h (k2 x1 h)) : ∀ (x1 : Int32) (h : AH), AJ G n y_M_unit (4) φV 83 [some (.ref 383), some (.int x1), none] [] h (f_M_unit_b83 k2 x1 h) := by
  intro x1 h
  rw [f_M_unit_b83]
  refine r_aload_n (pc := 83) (i := 0) d_M_unit_83 rfl rfl ?_
  refine r_cVv (pc := 84) (T := F_12) (N := 73) (st := []) (ok_M_countUnit hn h) (fun s => Std.k s (lc hn rfl) kq_383) rfl w_1440 w_13 w_1437 w_1439 ws_68 hy_M_countUnit ⟨Nat.le_of_ble_eq_true rfl, Nat.le_of_ble_eq_true rfl⟩ ⟨Nat.le_of_ble_eq_true rfl, Nat.le_of_ble_eq_true rfl⟩ rfl (Nat.le_of_ble_eq_true rfl) d_M_unit_84 (fun hq1 => ?_)
  refine r_aload_n (pc := 87) (i := 0) d_M_unit_87 rfl rfl ?_
  refine r_bipush (pc := 88) (v := 20) d_M_unit_88 (by rfl) ?_
  refine r_cVv (pc := 90) (T := F_12) (N := 73) (st := []) (ok_M_openUp hn (20 : Int32) hq1) (fun s => Std.k s (lc hn rfl) kq_383) rfl w_1432 w_13 w_1429 w_1431 ws_66 hy_M_openUp ⟨Nat.le_of_ble_eq_true rfl, Nat.le_of_ble_eq_true rfl⟩ ⟨Nat.le_of_ble_eq_true rfl, Nat.le_of_ble_eq_true rfl⟩ rfl (Nat.le_of_ble_eq_true rfl) d_M_unit_90 (fun hq2 => ?_)
  refine r_goto (pc := 93) (tgt := 2) d_M_unit_93 (by rfl) ?_
  exact r_wk (hk2 x1 hq2) ⟨rfl, ⟨rfl, trivial⟩⟩
def f_M_unit_b78   (k2 : Int32 → AH → Option AH) (x1 : Int32) (h : AH) : Option AH :=
  bV (f_M_wrong (2 : Int32) h) fun hq1 =>
  f_M_unit_b83 k2 x1 hq1
set_option maxHeartbeats 2000000 in
theorem o_M_unit_b78 {G : AE} {n : Nat} (hn : NN ≤ n)    {k2 : Int32 → AH → Option AH} (hk2 : ∀ (x1 : Int32) (h : AH), AJ G n y_M_unit (4) φV 2 [some (.ref 383), some (.int x1), none] [] h (k2 x1 h)) : ∀ (x1 : Int32) (h : AH), AJ G n y_M_unit (4) φV 78 [some (.ref 383), some (.int x1), none] [] h (f_M_unit_b78 k2 x1 h) := by
  intro x1 h
  rw [f_M_unit_b78]
  refine r_aload_n (pc := 78) (i := 0) d_M_unit_78 rfl rfl ?_
  refine r_iconst (pc := 79) (v := 2) d_M_unit_79 (by rfl) ?_
  refine r_cVv (pc := 80) (T := F_12) (N := 73) (st := []) (ok_M_wrong hn (2 : Int32) h) (fun s => Std.k s (lc hn rfl) kq_383) rfl w_1389 w_13 w_1386 w_1388 ws_56 hy_M_wrong ⟨Nat.le_of_ble_eq_true rfl, Nat.le_of_ble_eq_true rfl⟩ ⟨Nat.le_of_ble_eq_true rfl, Nat.le_of_ble_eq_true rfl⟩ rfl (Nat.le_of_ble_eq_true rfl) d_M_unit_80 (fun hq1 => ?_)
  exact r_wk (o_M_unit_b83 hn hk2 x1 hq1) ⟨rfl, ⟨rfl, trivial⟩⟩
def f_M_unit_b53   (k2 : Int32 → AH → Option AH) (x1 : Int32) (h : AH) : Option AH :=
  if ¬ (hI h 383 6) = (40 : Int32) then
    k2 (0 : Int32) h
  else
    bI (f_M_isFull h) fun rq1 hq2 =>
    if ¬ rq1 = 0 then
      f_M_unit_b78 k2 x1 hq2
    else
      if (hI hq2 383 25) ≤ (6 : Int32) then
        f_M_unit_b83 k2 x1 hq2
      else
        f_M_unit_b78 k2 x1 hq2
set_option maxHeartbeats 2000000 in
theorem o_M_unit_b53 {G : AE} {n : Nat} (hn : NN ≤ n)    {k2 : Int32 → AH → Option AH} (hk2 : ∀ (x1 : Int32) (h : AH), AJ G n y_M_unit (4) φV 2 [some (.ref 383), some (.int x1), none] [] h (k2 x1 h)) : ∀ (x1 : Int32) (h : AH), AJ G n y_M_unit (4) φV 53 [some (.ref 383), some (.int x1), none] [] h (f_M_unit_b53 k2 x1 h) := by
  intro x1 h
  rw [f_M_unit_b53]
  refine r_aload_n (pc := 53) (i := 0) d_M_unit_53 rfl rfl ?_
  refine r_getf (pc := 54) (ci := 12) (k := 6) (C := "CricketHayModel") (T := F_12) (N := 73) (v := .int (hI h 383 6)) (fun s => Std.k s (lc hn rfl) kq_383) rfl (Nat.le_of_ble_eq_true rfl) rfl w_1092 (fun _ => rfl) d_M_unit_54 ?_
  refine r_bipush (pc := 57) (v := 40) d_M_unit_57 (by rfl) ?_
  refine r_icmp_ne (pc := 59) (tgt := 96) d_M_unit_59 (by rfl) ?_ ?_
  · refine r_iconst (pc := 96) (v := 0) d_M_unit_96 (by rfl) ?_
    refine r_istore_n (pc := 97) (i := 1) (lv1 := [some (.ref 383), some (.int (0 : Int32)), none]) d_M_unit_97 rfl (Nat.le_of_ble_eq_true rfl) rfl ?_
    refine r_goto (pc := 98) (tgt := 2) d_M_unit_98 (by rfl) ?_
    exact r_wk (hk2 (0 : Int32) h) ⟨rfl, ⟨rfl, trivial⟩⟩
  · refine r_aload_n (pc := 62) (i := 0) d_M_unit_62 rfl rfl ?_
    refine r_cVi (pc := 63) (T := F_12) (N := 73) (st := []) (ok_M_isFull hn h) (fun s => Std.k s (lc hn rfl) kq_383) rfl w_1436 w_13 w_1433 w_1435 ws_67 hy_M_isFull ⟨Nat.le_of_ble_eq_true rfl, Nat.le_of_ble_eq_true rfl⟩ ⟨Nat.le_of_ble_eq_true rfl, Nat.le_of_ble_eq_true rfl⟩ rfl (Nat.le_of_ble_eq_true rfl) d_M_unit_63 (fun rq1 hq2 => ?_)
    refine r_if_ne (pc := 66) (tgt := 78) d_M_unit_66 (by rfl) ?_ ?_
    · exact r_wk (o_M_unit_b78 hn hk2 x1 hq2) ⟨rfl, ⟨rfl, trivial⟩⟩
    · refine r_aload_n (pc := 69) (i := 0) d_M_unit_69 rfl rfl ?_
      refine r_getf (pc := 70) (ci := 12) (k := 25) (C := "CricketHayModel") (T := F_12) (N := 73) (v := .int (hI hq2 383 25)) (fun s => Std.k s (lc hn rfl) kq_383) rfl (Nat.le_of_ble_eq_true rfl) rfl w_1111 (fun _ => rfl) d_M_unit_70 ?_
      refine r_bipush (pc := 73) (v := 6) d_M_unit_73 (by rfl) ?_
      refine r_icmp_le (pc := 75) (tgt := 83) d_M_unit_75 (by rfl) ?_ ?_
      · exact r_wk (o_M_unit_b83 hn hk2 x1 hq2) ⟨rfl, ⟨rfl, trivial⟩⟩
      · exact r_wk (o_M_unit_b78 hn hk2 x1 hq2) ⟨rfl, ⟨rfl, trivial⟩⟩
def f_M_unit_b44   (k2 : Int32 → AH → Option AH) (x1 : Int32) (h : AH) : Option AH :=
  bV (f_M_openUp (21 : Int32) h) fun hq1 =>
  k2 x1 hq1
set_option maxHeartbeats 2000000 in
theorem o_M_unit_b44 {G : AE} {n : Nat} (hn : NN ≤ n)    {k2 : Int32 → AH → Option AH} (hk2 : ∀ (x1 : Int32) (h : AH), AJ G n y_M_unit (4) φV 2 [some (.ref 383), some (.int x1), none] [] h (k2 x1 h)) : ∀ (x1 : Int32) (h : AH), AJ G n y_M_unit (4) φV 44 [some (.ref 383), some (.int x1), none] [] h (f_M_unit_b44 k2 x1 h) := by
  intro x1 h
  rw [f_M_unit_b44]
  refine r_aload_n (pc := 44) (i := 0) d_M_unit_44 rfl rfl ?_
  refine r_bipush (pc := 45) (v := 21) d_M_unit_45 (by rfl) ?_
  refine r_cVv (pc := 47) (T := F_12) (N := 73) (st := []) (ok_M_openUp hn (21 : Int32) h) (fun s => Std.k s (lc hn rfl) kq_383) rfl w_1432 w_13 w_1429 w_1431 ws_66 hy_M_openUp ⟨Nat.le_of_ble_eq_true rfl, Nat.le_of_ble_eq_true rfl⟩ ⟨Nat.le_of_ble_eq_true rfl, Nat.le_of_ble_eq_true rfl⟩ rfl (Nat.le_of_ble_eq_true rfl) d_M_unit_47 (fun hq1 => ?_)
  refine r_goto (pc := 50) (tgt := 2) d_M_unit_50 (by rfl) ?_
  exact r_wk (hk2 x1 hq1) ⟨rfl, ⟨rfl, trivial⟩⟩
def f_M_unit_l2    : Nat → Int32 → AH → Option AH
  | 0, _, _ => none
  | n + 1, x1, h =>
    if x1 = 0 then
      f_M_unit_b101 h
    else
      if ¬ (hI h 383 2) = 0 then
        f_M_unit_b101 h
      else
        bI (f_M_isWord (7237492 : Int64) h) fun rq1 hq2 =>
        if rq1 = 0 then
          f_M_unit_b53 (f_M_unit_l2 n) x1 hq2
        else
          bI (f_M_mayNot hq2) fun rq3 hq4 =>
          if rq3 = 0 then
            f_M_unit_b53 (f_M_unit_l2 n) x1 hq4
          else
            if (hI hq4 383 25) ≤ (6 : Int32) then
              f_M_unit_b44 (f_M_unit_l2 n) x1 hq4
            else
              bV (f_M_wrong (2 : Int32) hq4) fun hq5 =>
              f_M_unit_b44 (f_M_unit_l2 n) x1 hq5
set_option maxHeartbeats 2000000 in
theorem o_M_unit_l2 {G : AE} {n : Nat} (hn : NN ≤ n)     : ∀ (n0 : Nat) (x1 : Int32) (h : AH), AJ G n y_M_unit (4) φV 2 [some (.ref 383), some (.int x1), none] [] h (f_M_unit_l2 n0 x1 h) := by
  intro n0
  induction n0 with
  | zero => intros; exact r_none
  | succ n0 ih =>
    intro x1 h
    rw [f_M_unit_l2]
    refine r_iload_n (pc := 2) (i := 1) d_M_unit_2 rfl rfl ?_
    refine r_if_eq (pc := 3) (tgt := 101) d_M_unit_3 (by rfl) ?_ ?_
    · exact r_wk (o_M_unit_b101 hn h) ⟨rfl, trivial⟩
    · refine r_aload_n (pc := 6) (i := 0) d_M_unit_6 rfl rfl ?_
      refine r_getf (pc := 7) (ci := 12) (k := 2) (C := "CricketHayModel") (T := F_12) (N := 73) (v := .int (hI h 383 2)) (fun s => Std.k s (lc hn rfl) kq_383) rfl (Nat.le_of_ble_eq_true rfl) rfl w_1088 (fun _ => rfl) d_M_unit_7 ?_
      refine r_if_ne (pc := 10) (tgt := 101) d_M_unit_10 (by rfl) ?_ ?_
      · exact r_wk (o_M_unit_b101 hn h) ⟨rfl, trivial⟩
      · refine r_aload_n (pc := 13) (i := 0) d_M_unit_13 rfl rfl ?_
        refine r_ldc2 (pc := 14) w_1385 d_M_unit_14 ?_
        refine r_cVi (pc := 17) (T := F_12) (N := 73) (st := []) (ok_M_isWord hn (7237492 : Int64) h) (fun s => Std.k s (lc hn rfl) kq_383) rfl w_1351 w_13 w_1348 w_1350 ws_51 hy_M_isWord ⟨Nat.le_of_ble_eq_true rfl, Nat.le_of_ble_eq_true rfl⟩ ⟨Nat.le_of_ble_eq_true rfl, Nat.le_of_ble_eq_true rfl⟩ rfl (Nat.le_of_ble_eq_true rfl) d_M_unit_17 (fun rq1 hq2 => ?_)
        refine r_if_eq (pc := 20) (tgt := 53) d_M_unit_20 (by rfl) ?_ ?_
        · exact r_wk (o_M_unit_b53 hn ih x1 hq2) ⟨rfl, ⟨rfl, trivial⟩⟩
        · refine r_aload_n (pc := 23) (i := 0) d_M_unit_23 rfl rfl ?_
          refine r_cVi (pc := 24) (T := F_12) (N := 73) (st := []) (ok_M_mayNot hn hq2) (fun s => Std.k s (lc hn rfl) kq_383) rfl w_1425 w_13 w_1422 w_1424 ws_65 hy_M_mayNot ⟨Nat.le_of_ble_eq_true rfl, Nat.le_of_ble_eq_true rfl⟩ ⟨Nat.le_of_ble_eq_true rfl, Nat.le_of_ble_eq_true rfl⟩ rfl (Nat.le_of_ble_eq_true rfl) d_M_unit_24 (fun rq3 hq4 => ?_)
          refine r_if_eq (pc := 27) (tgt := 53) d_M_unit_27 (by rfl) ?_ ?_
          · exact r_wk (o_M_unit_b53 hn ih x1 hq4) ⟨rfl, ⟨rfl, trivial⟩⟩
          · refine r_aload_n (pc := 30) (i := 0) d_M_unit_30 rfl rfl ?_
            refine r_getf (pc := 31) (ci := 12) (k := 25) (C := "CricketHayModel") (T := F_12) (N := 73) (v := .int (hI hq4 383 25)) (fun s => Std.k s (lc hn rfl) kq_383) rfl (Nat.le_of_ble_eq_true rfl) rfl w_1111 (fun _ => rfl) d_M_unit_31 ?_
            refine r_bipush (pc := 34) (v := 6) d_M_unit_34 (by rfl) ?_
            refine r_icmp_le (pc := 36) (tgt := 44) d_M_unit_36 (by rfl) ?_ ?_
            · exact r_wk (o_M_unit_b44 hn ih x1 hq4) ⟨rfl, ⟨rfl, trivial⟩⟩
            · refine r_aload_n (pc := 39) (i := 0) d_M_unit_39 rfl rfl ?_
              refine r_iconst (pc := 40) (v := 2) d_M_unit_40 (by rfl) ?_
              refine r_cVv (pc := 41) (T := F_12) (N := 73) (st := []) (ok_M_wrong hn (2 : Int32) hq4) (fun s => Std.k s (lc hn rfl) kq_383) rfl w_1389 w_13 w_1386 w_1388 ws_56 hy_M_wrong ⟨Nat.le_of_ble_eq_true rfl, Nat.le_of_ble_eq_true rfl⟩ ⟨Nat.le_of_ble_eq_true rfl, Nat.le_of_ble_eq_true rfl⟩ rfl (Nat.le_of_ble_eq_true rfl) d_M_unit_41 (fun hq5 => ?_)
              exact r_wk (o_M_unit_b44 hn ih x1 hq5) ⟨rfl, ⟨rfl, trivial⟩⟩
def f_M_unit   (h : AH) : Option AH :=
  f_M_unit_l2 FU (1 : Int32) h
set_option maxHeartbeats 2000000 in
theorem ok_M_unit {G : AE} {n : Nat} (hn : NN ≤ n)   (h : AH) : OK G n y_M_unit (4) φV [.ref 383] h (f_M_unit h) := by
  refine ok_of (y := y_M_unit) (lv0 := [some (.ref 383), none, none]) (by decide +kernel) (Nat.le_of_ble_eq_true rfl) ⟨rfl, trivial⟩ ?_
  rw [f_M_unit]
  refine r_iconst (pc := 0) (v := 1) d_M_unit_0 (by rfl) ?_
  refine r_istore_n (pc := 1) (i := 1) (lv1 := [some (.ref 383), some (.int (1 : Int32)), none]) d_M_unit_1 rfl (Nat.le_of_ble_eq_true rfl) rfl ?_
  exact r_wk (o_M_unit_l2 hn FU (1 : Int32) h) ⟨rfl, ⟨rfl, trivial⟩⟩

def f_M_sign   (h : AH) : Option (Int32 × AH) :=
  bI (f_M_isWord (6385252 : Int64) h) fun rq1 hq2 =>
  if rq1 = 0 then
    bI (f_M_isWord (28530 : Int64) hq2) fun rq3 hq4 =>
    if rq3 = 0 then
      if (hI hq4 383 6) = (60 : Int32) then
        some ((hI hq4 383 6), hq4)
      else
        if (hI hq4 383 6) = (62 : Int32) then
          some ((hI hq4 383 6), hq4)
        else
          if (hI hq4 383 6) = (61 : Int32) then
            some ((hI hq4 383 6), hq4)
          else
            if (hI hq4 383 6) = (43 : Int32) then
              some ((hI hq4 383 6), hq4)
            else
              if (hI hq4 383 6) = (45 : Int32) then
                some ((hI hq4 383 6), hq4)
              else
                if (hI hq4 383 6) = (42 : Int32) then
                  some ((hI hq4 383 6), hq4)
                else
                  if (hI hq4 383 6) = (47 : Int32) then
                    some ((hI hq4 383 6), hq4)
                  else
                    if ¬ (hI hq4 383 6) = (37 : Int32) then
                      some ((0 : Int32), hq4)
                    else
                      some ((hI hq4 383 6), hq4)
    else
      some ((124 : Int32), hq4)
  else
    some ((38 : Int32), hq2)
set_option maxHeartbeats 2000000 in
theorem ok_M_sign {G : AE} {n : Nat} (hn : NN ≤ n)   (h : AH) : OK G n y_M_sign (2) φI [.ref 383] h (f_M_sign h) := by
  refine ok_of (y := y_M_sign) (lv0 := [some (.ref 383)]) (by decide +kernel) (Nat.le_of_ble_eq_true rfl) ⟨rfl, trivial⟩ ?_
  rw [f_M_sign]
  refine r_aload_n (pc := 0) (i := 0) d_M_sign_0 rfl rfl ?_
  refine r_ldc2 (pc := 1) w_1383 d_M_sign_1 ?_
  refine r_cVi (pc := 4) (T := F_12) (N := 73) (st := []) (ok_M_isWord hn (6385252 : Int64) h) (fun s => Std.k s (lc hn rfl) kq_383) rfl w_1351 w_13 w_1348 w_1350 ws_51 hy_M_isWord ⟨Nat.le_of_ble_eq_true rfl, Nat.le_of_ble_eq_true rfl⟩ ⟨Nat.le_of_ble_eq_true rfl, Nat.le_of_ble_eq_true rfl⟩ rfl (Nat.le_of_ble_eq_true rfl) d_M_sign_4 (fun rq1 hq2 => ?_)
  refine r_if_eq (pc := 7) (tgt := 13) d_M_sign_7 (by rfl) ?_ ?_
  · refine r_aload_n (pc := 13) (i := 0) d_M_sign_13 rfl rfl ?_
    refine r_ldc2 (pc := 14) w_1384 d_M_sign_14 ?_
    refine r_cVi (pc := 17) (T := F_12) (N := 73) (st := []) (ok_M_isWord hn (28530 : Int64) hq2) (fun s => Std.k s (lc hn rfl) kq_383) rfl w_1351 w_13 w_1348 w_1350 ws_51 hy_M_isWord ⟨Nat.le_of_ble_eq_true rfl, Nat.le_of_ble_eq_true rfl⟩ ⟨Nat.le_of_ble_eq_true rfl, Nat.le_of_ble_eq_true rfl⟩ rfl (Nat.le_of_ble_eq_true rfl) d_M_sign_17 (fun rq3 hq4 => ?_)
    refine r_if_eq (pc := 20) (tgt := 26) d_M_sign_20 (by rfl) ?_ ?_
    · refine r_aload_n (pc := 26) (i := 0) d_M_sign_26 rfl rfl ?_
      refine r_getf (pc := 27) (ci := 12) (k := 6) (C := "CricketHayModel") (T := F_12) (N := 73) (v := .int (hI hq4 383 6)) (fun s => Std.k s (lc hn rfl) kq_383) rfl (Nat.le_of_ble_eq_true rfl) rfl w_1092 (fun _ => rfl) d_M_sign_27 ?_
      refine r_bipush (pc := 30) (v := 60) d_M_sign_30 (by rfl) ?_
      refine r_icmp_eq (pc := 32) (tgt := 98) d_M_sign_32 (by rfl) ?_ ?_
      · refine r_aload_n (pc := 98) (i := 0) d_M_sign_98 rfl rfl ?_
        refine r_getf (pc := 99) (ci := 12) (k := 6) (C := "CricketHayModel") (T := F_12) (N := 73) (v := .int (hI hq4 383 6)) (fun s => Std.k s (lc hn rfl) kq_383) rfl (Nat.le_of_ble_eq_true rfl) rfl w_1092 (fun _ => rfl) d_M_sign_99 ?_
        refine r_goto (pc := 102) (tgt := 106) d_M_sign_102 (by rfl) ?_
        exact r_iret (pc := 106) rfl d_M_sign_106
      · refine r_aload_n (pc := 35) (i := 0) d_M_sign_35 rfl rfl ?_
        refine r_getf (pc := 36) (ci := 12) (k := 6) (C := "CricketHayModel") (T := F_12) (N := 73) (v := .int (hI hq4 383 6)) (fun s => Std.k s (lc hn rfl) kq_383) rfl (Nat.le_of_ble_eq_true rfl) rfl w_1092 (fun _ => rfl) d_M_sign_36 ?_
        refine r_bipush (pc := 39) (v := 62) d_M_sign_39 (by rfl) ?_
        refine r_icmp_eq (pc := 41) (tgt := 98) d_M_sign_41 (by rfl) ?_ ?_
        · refine r_aload_n (pc := 98) (i := 0) d_M_sign_98 rfl rfl ?_
          refine r_getf (pc := 99) (ci := 12) (k := 6) (C := "CricketHayModel") (T := F_12) (N := 73) (v := .int (hI hq4 383 6)) (fun s => Std.k s (lc hn rfl) kq_383) rfl (Nat.le_of_ble_eq_true rfl) rfl w_1092 (fun _ => rfl) d_M_sign_99 ?_
          refine r_goto (pc := 102) (tgt := 106) d_M_sign_102 (by rfl) ?_
          exact r_iret (pc := 106) rfl d_M_sign_106
        · refine r_aload_n (pc := 44) (i := 0) d_M_sign_44 rfl rfl ?_
          refine r_getf (pc := 45) (ci := 12) (k := 6) (C := "CricketHayModel") (T := F_12) (N := 73) (v := .int (hI hq4 383 6)) (fun s => Std.k s (lc hn rfl) kq_383) rfl (Nat.le_of_ble_eq_true rfl) rfl w_1092 (fun _ => rfl) d_M_sign_45 ?_
          refine r_bipush (pc := 48) (v := 61) d_M_sign_48 (by rfl) ?_
          refine r_icmp_eq (pc := 50) (tgt := 98) d_M_sign_50 (by rfl) ?_ ?_
          · refine r_aload_n (pc := 98) (i := 0) d_M_sign_98 rfl rfl ?_
            refine r_getf (pc := 99) (ci := 12) (k := 6) (C := "CricketHayModel") (T := F_12) (N := 73) (v := .int (hI hq4 383 6)) (fun s => Std.k s (lc hn rfl) kq_383) rfl (Nat.le_of_ble_eq_true rfl) rfl w_1092 (fun _ => rfl) d_M_sign_99 ?_
            refine r_goto (pc := 102) (tgt := 106) d_M_sign_102 (by rfl) ?_
            exact r_iret (pc := 106) rfl d_M_sign_106
          · refine r_aload_n (pc := 53) (i := 0) d_M_sign_53 rfl rfl ?_
            refine r_getf (pc := 54) (ci := 12) (k := 6) (C := "CricketHayModel") (T := F_12) (N := 73) (v := .int (hI hq4 383 6)) (fun s => Std.k s (lc hn rfl) kq_383) rfl (Nat.le_of_ble_eq_true rfl) rfl w_1092 (fun _ => rfl) d_M_sign_54 ?_
            refine r_bipush (pc := 57) (v := 43) d_M_sign_57 (by rfl) ?_
            refine r_icmp_eq (pc := 59) (tgt := 98) d_M_sign_59 (by rfl) ?_ ?_
            · refine r_aload_n (pc := 98) (i := 0) d_M_sign_98 rfl rfl ?_
              refine r_getf (pc := 99) (ci := 12) (k := 6) (C := "CricketHayModel") (T := F_12) (N := 73) (v := .int (hI hq4 383 6)) (fun s => Std.k s (lc hn rfl) kq_383) rfl (Nat.le_of_ble_eq_true rfl) rfl w_1092 (fun _ => rfl) d_M_sign_99 ?_
              refine r_goto (pc := 102) (tgt := 106) d_M_sign_102 (by rfl) ?_
              exact r_iret (pc := 106) rfl d_M_sign_106
            · refine r_aload_n (pc := 62) (i := 0) d_M_sign_62 rfl rfl ?_
              refine r_getf (pc := 63) (ci := 12) (k := 6) (C := "CricketHayModel") (T := F_12) (N := 73) (v := .int (hI hq4 383 6)) (fun s => Std.k s (lc hn rfl) kq_383) rfl (Nat.le_of_ble_eq_true rfl) rfl w_1092 (fun _ => rfl) d_M_sign_63 ?_
              refine r_bipush (pc := 66) (v := 45) d_M_sign_66 (by rfl) ?_
              refine r_icmp_eq (pc := 68) (tgt := 98) d_M_sign_68 (by rfl) ?_ ?_
              · refine r_aload_n (pc := 98) (i := 0) d_M_sign_98 rfl rfl ?_
                refine r_getf (pc := 99) (ci := 12) (k := 6) (C := "CricketHayModel") (T := F_12) (N := 73) (v := .int (hI hq4 383 6)) (fun s => Std.k s (lc hn rfl) kq_383) rfl (Nat.le_of_ble_eq_true rfl) rfl w_1092 (fun _ => rfl) d_M_sign_99 ?_
                refine r_goto (pc := 102) (tgt := 106) d_M_sign_102 (by rfl) ?_
                exact r_iret (pc := 106) rfl d_M_sign_106
              · refine r_aload_n (pc := 71) (i := 0) d_M_sign_71 rfl rfl ?_
                refine r_getf (pc := 72) (ci := 12) (k := 6) (C := "CricketHayModel") (T := F_12) (N := 73) (v := .int (hI hq4 383 6)) (fun s => Std.k s (lc hn rfl) kq_383) rfl (Nat.le_of_ble_eq_true rfl) rfl w_1092 (fun _ => rfl) d_M_sign_72 ?_
                refine r_bipush (pc := 75) (v := 42) d_M_sign_75 (by rfl) ?_
                refine r_icmp_eq (pc := 77) (tgt := 98) d_M_sign_77 (by rfl) ?_ ?_
                · refine r_aload_n (pc := 98) (i := 0) d_M_sign_98 rfl rfl ?_
                  refine r_getf (pc := 99) (ci := 12) (k := 6) (C := "CricketHayModel") (T := F_12) (N := 73) (v := .int (hI hq4 383 6)) (fun s => Std.k s (lc hn rfl) kq_383) rfl (Nat.le_of_ble_eq_true rfl) rfl w_1092 (fun _ => rfl) d_M_sign_99 ?_
                  refine r_goto (pc := 102) (tgt := 106) d_M_sign_102 (by rfl) ?_
                  exact r_iret (pc := 106) rfl d_M_sign_106
                · refine r_aload_n (pc := 80) (i := 0) d_M_sign_80 rfl rfl ?_
                  refine r_getf (pc := 81) (ci := 12) (k := 6) (C := "CricketHayModel") (T := F_12) (N := 73) (v := .int (hI hq4 383 6)) (fun s => Std.k s (lc hn rfl) kq_383) rfl (Nat.le_of_ble_eq_true rfl) rfl w_1092 (fun _ => rfl) d_M_sign_81 ?_
                  refine r_bipush (pc := 84) (v := 47) d_M_sign_84 (by rfl) ?_
                  refine r_icmp_eq (pc := 86) (tgt := 98) d_M_sign_86 (by rfl) ?_ ?_
                  · refine r_aload_n (pc := 98) (i := 0) d_M_sign_98 rfl rfl ?_
                    refine r_getf (pc := 99) (ci := 12) (k := 6) (C := "CricketHayModel") (T := F_12) (N := 73) (v := .int (hI hq4 383 6)) (fun s => Std.k s (lc hn rfl) kq_383) rfl (Nat.le_of_ble_eq_true rfl) rfl w_1092 (fun _ => rfl) d_M_sign_99 ?_
                    refine r_goto (pc := 102) (tgt := 106) d_M_sign_102 (by rfl) ?_
                    exact r_iret (pc := 106) rfl d_M_sign_106
                  · refine r_aload_n (pc := 89) (i := 0) d_M_sign_89 rfl rfl ?_
                    refine r_getf (pc := 90) (ci := 12) (k := 6) (C := "CricketHayModel") (T := F_12) (N := 73) (v := .int (hI hq4 383 6)) (fun s => Std.k s (lc hn rfl) kq_383) rfl (Nat.le_of_ble_eq_true rfl) rfl w_1092 (fun _ => rfl) d_M_sign_90 ?_
                    refine r_bipush (pc := 93) (v := 37) d_M_sign_93 (by rfl) ?_
                    refine r_icmp_ne (pc := 95) (tgt := 105) d_M_sign_95 (by rfl) ?_ ?_
                    · refine r_iconst (pc := 105) (v := 0) d_M_sign_105 (by rfl) ?_
                      exact r_iret (pc := 106) rfl d_M_sign_106
                    · refine r_aload_n (pc := 98) (i := 0) d_M_sign_98 rfl rfl ?_
                      refine r_getf (pc := 99) (ci := 12) (k := 6) (C := "CricketHayModel") (T := F_12) (N := 73) (v := .int (hI hq4 383 6)) (fun s => Std.k s (lc hn rfl) kq_383) rfl (Nat.le_of_ble_eq_true rfl) rfl w_1092 (fun _ => rfl) d_M_sign_99 ?_
                      refine r_goto (pc := 102) (tgt := 106) d_M_sign_102 (by rfl) ?_
                      exact r_iret (pc := 106) rfl d_M_sign_106
    · refine r_bipush (pc := 23) (v := 124) d_M_sign_23 (by rfl) ?_
      exact r_iret (pc := 25) rfl d_M_sign_25
  · refine r_bipush (pc := 10) (v := 38) d_M_sign_10 (by rfl) ?_
    exact r_iret (pc := 12) rfl d_M_sign_12

def f_M_hasBracket_b27   (k4 : Int32 → Int32 → AH → Option (Int32 × AH)) (x2 : Int32) (h : AH) : Option (Int32 × AH) :=
  lt (x2 + (1 : Int32)) fun xq1 =>
  k4 (1 : Int32) xq1 h
set_option maxHeartbeats 2000000 in
theorem o_M_hasBracket_b27 {G : AE} {n : Nat} (hn : NN ≤ n)    {k4 : Int32 → Int32 → AH → Option (Int32 × AH)} (hk4 : ∀ (x1 : Int32) (x2 : Int32) (h : AH), AJ G n y_M_hasBracket (1) φI 4 [some (.ref 383), some (.int x1), some (.int x2)] [] h (k4 x1 x2 h)) : ∀ (x2 : Int32) (h : AH), AJ G n y_M_hasBracket (1) φI 27 [some (.ref 383), none, some (.int x2)] [] h (f_M_hasBracket_b27 k4 x2 h) := by
  intro x2 h
  rw [f_M_hasBracket_b27]
  refine r_iconst (pc := 27) (v := 1) d_M_hasBracket_27 (by rfl) ?_
  refine r_goto (pc := 28) (tgt := 32) d_M_hasBracket_28 (by rfl) ?_
  refine r_istore_n (pc := 32) (i := 1) (lv1 := [some (.ref 383), some (.int (1 : Int32)), some (.int x2)]) d_M_hasBracket_32 rfl (Nat.le_of_ble_eq_true rfl) rfl ?_
  refine r_ltE (fun xq1 exq1 => ?_)
  refine r_iinc (pc := 33) (v := xq1) (lv1 := [some (.ref 383), some (.int (1 : Int32)), some (.int xq1)]) d_M_hasBracket_33 rfl exq1.symm (Nat.le_of_ble_eq_true rfl) rfl ?_
  refine r_goto (pc := 36) (tgt := 4) d_M_hasBracket_36 (by rfl) ?_
  exact r_wk (hk4 (1 : Int32) xq1 h) ⟨rfl, ⟨rfl, ⟨rfl, trivial⟩⟩⟩
def f_M_hasBracket_l4    : Nat → Int32 → Int32 → AH → Option (Int32 × AH)
  | 0, _, _, _ => none
  | n + 1, x1, x2, h =>
    if (hI h 383 21) ≤ x2 then
      gb x1 <|
      some (x1, h)
    else
      if ¬ x1 = 0 then
        f_M_hasBracket_b27 (f_M_hasBracket_l4 n) x2 h
      else
        gx x2 160 <|
        if ¬ (hI h 392 (ix x2)) = (20 : Int32) then
          lt (x2 + (1 : Int32)) fun xq3 =>
          f_M_hasBracket_l4 n (0 : Int32) xq3 h
        else
          f_M_hasBracket_b27 (f_M_hasBracket_l4 n) x2 h
set_option maxHeartbeats 2000000 in
theorem o_M_hasBracket_l4 {G : AE} {n : Nat} (hn : NN ≤ n)     : ∀ (n0 : Nat) (x1 : Int32) (x2 : Int32) (h : AH), AJ G n y_M_hasBracket (1) φI 4 [some (.ref 383), some (.int x1), some (.int x2)] [] h (f_M_hasBracket_l4 n0 x1 x2 h) := by
  intro n0
  induction n0 with
  | zero => intros; exact r_none
  | succ n0 ih =>
    intro x1 x2 h
    rw [f_M_hasBracket_l4]
    refine r_iload_n (pc := 4) (i := 2) d_M_hasBracket_4 rfl rfl ?_
    refine r_aload_n (pc := 5) (i := 0) d_M_hasBracket_5 rfl rfl ?_
    refine r_getf (pc := 6) (ci := 12) (k := 21) (C := "CricketHayModel") (T := F_12) (N := 73) (v := .int (hI h 383 21)) (fun s => Std.k s (lc hn rfl) kq_383) rfl (Nat.le_of_ble_eq_true rfl) rfl w_1107 (fun _ => rfl) d_M_hasBracket_6 ?_
    refine r_icmp_ge (pc := 9) (tgt := 39) d_M_hasBracket_9 (by rfl) ?_ ?_
    · refine r_iload_n (pc := 39) (i := 1) d_M_hasBracket_39 rfl rfl ?_
      refine r_gb (fun zq1 => ?_)
      exact r_zret (pc := 40) rfl zq1 d_M_hasBracket_40
    · refine r_iload_n (pc := 12) (i := 1) d_M_hasBracket_12 rfl rfl ?_
      refine r_if_ne (pc := 13) (tgt := 27) d_M_hasBracket_13 (by rfl) ?_ ?_
      · exact r_wk (o_M_hasBracket_b27 hn ih x2 h) ⟨rfl, ⟨rfl, trivial⟩⟩
      · refine r_aload_n (pc := 16) (i := 0) d_M_hasBracket_16 rfl rfl ?_
        refine r_getf (pc := 17) (ci := 12) (k := 17) (C := "CricketHayModel") (T := F_12) (N := 73) (v := .ref 392) (fun s => Std.k s (lc hn rfl) kq_383) rfl (Nat.le_of_ble_eq_true rfl) rfl w_1103 (fun s => vr rfl (Std.r s (lc hn rfl) rq_383_17)) d_M_hasBracket_17 ?_
        refine r_iload_n (pc := 20) (i := 2) d_M_hasBracket_20 rfl rfl ?_
        refine r_gx (fun zq2 => ?_)
        refine r_iald (pc := 21) (n := 160) (i0 := (ix x2)) (fun s => Std.k s (lc hn rfl) kq_392) zq2 rfl d_M_hasBracket_21 ?_
        refine r_bipush (pc := 22) (v := 20) d_M_hasBracket_22 (by rfl) ?_
        refine r_icmp_ne (pc := 24) (tgt := 31) d_M_hasBracket_24 (by rfl) ?_ ?_
        · refine r_iconst (pc := 31) (v := 0) d_M_hasBracket_31 (by rfl) ?_
          refine r_istore_n (pc := 32) (i := 1) (lv1 := [some (.ref 383), some (.int (0 : Int32)), some (.int x2)]) d_M_hasBracket_32 rfl (Nat.le_of_ble_eq_true rfl) rfl ?_
          refine r_ltE (fun xq3 exq3 => ?_)
          refine r_iinc (pc := 33) (v := xq3) (lv1 := [some (.ref 383), some (.int (0 : Int32)), some (.int xq3)]) d_M_hasBracket_33 rfl exq3.symm (Nat.le_of_ble_eq_true rfl) rfl ?_
          refine r_goto (pc := 36) (tgt := 4) d_M_hasBracket_36 (by rfl) ?_
          exact r_wk (ih (0 : Int32) xq3 h) ⟨rfl, ⟨rfl, ⟨rfl, trivial⟩⟩⟩
        · exact r_wk (o_M_hasBracket_b27 hn ih x2 h) ⟨rfl, ⟨rfl, trivial⟩⟩
def f_M_hasBracket   (h : AH) : Option (Int32 × AH) :=
  f_M_hasBracket_l4 FU (0 : Int32) (0 : Int32) h
set_option maxHeartbeats 2000000 in
theorem ok_M_hasBracket {G : AE} {n : Nat} (hn : NN ≤ n)   (h : AH) : OK G n y_M_hasBracket (1) φI [.ref 383] h (f_M_hasBracket h) := by
  refine ok_of (y := y_M_hasBracket) (lv0 := [some (.ref 383), none, none]) (by decide +kernel) (Nat.le_of_ble_eq_true rfl) ⟨rfl, trivial⟩ ?_
  rw [f_M_hasBracket]
  refine r_iconst (pc := 0) (v := 0) d_M_hasBracket_0 (by rfl) ?_
  refine r_istore_n (pc := 1) (i := 1) (lv1 := [some (.ref 383), some (.int (0 : Int32)), none]) d_M_hasBracket_1 rfl (Nat.le_of_ble_eq_true rfl) rfl ?_
  refine r_iconst (pc := 2) (v := 0) d_M_hasBracket_2 (by rfl) ?_
  refine r_istore_n (pc := 3) (i := 2) (lv1 := [some (.ref 383), some (.int (0 : Int32)), some (.int (0 : Int32))]) d_M_hasBracket_3 rfl (Nat.le_of_ble_eq_true rfl) rfl ?_
  exact r_wk (o_M_hasBracket_l4 hn FU (0 : Int32) (0 : Int32) h) ⟨rfl, ⟨rfl, ⟨rfl, trivial⟩⟩⟩

def f_M_formula_b196  (a1 : Int32)   (h : AH) : Option AH :=
  if ¬ (hI h 383 2) = 0 then
    some h
  else
    bV (f_M_close (0 : Int32) h) fun hq1 =>
    some hq1
set_option maxHeartbeats 2000000 in
theorem o_M_formula_b196 {G : AE} {n : Nat} (hn : NN ≤ n)  {a1 : Int32}   : ∀  (h : AH), AJ G n y_M_formula (5) φV 196 [some (.ref 383), none, none, none] [] h (f_M_formula_b196 a1 h) := by
  intro  h
  rw [f_M_formula_b196]
  refine r_aload_n (pc := 196) (i := 0) d_M_formula_196 rfl rfl ?_
  refine r_getf (pc := 197) (ci := 12) (k := 2) (C := "CricketHayModel") (T := F_12) (N := 73) (v := .int (hI h 383 2)) (fun s => Std.k s (lc hn rfl) kq_383) rfl (Nat.le_of_ble_eq_true rfl) rfl w_1088 (fun _ => rfl) d_M_formula_197 ?_
  refine r_if_ne (pc := 200) (tgt := 208) d_M_formula_200 (by rfl) ?_ ?_
  · exact r_vret (pc := 208) rfl d_M_formula_208
  · refine r_aload_n (pc := 203) (i := 0) d_M_formula_203 rfl rfl ?_
    refine r_iconst (pc := 204) (v := 0) d_M_formula_204 (by rfl) ?_
    refine r_cVv (pc := 205) (T := F_12) (N := 73) (st := []) (ok_M_close hn (0 : Int32) h) (fun s => Std.k s (lc hn rfl) kq_383) rfl w_1460 w_13 w_1457 w_1459 ws_73 hy_M_close ⟨Nat.le_of_ble_eq_true rfl, Nat.le_of_ble_eq_true rfl⟩ ⟨Nat.le_of_ble_eq_true rfl, Nat.le_of_ble_eq_true rfl⟩ rfl (Nat.le_of_ble_eq_true rfl) d_M_formula_205 (fun hq1 => ?_)
    exact r_vret (pc := 208) rfl d_M_formula_208
def f_M_formula_b177  (a1 : Int32)   (h : AH) : Option AH :=
  if ¬ (hI h 383 2) = 0 then
    f_M_formula_b196 a1 h
  else
    bI (f_M_hasBracket h) fun rq1 hq2 =>
    if rq1 = 0 then
      f_M_formula_b196 a1 hq2
    else
      bV (f_M_wrong (2 : Int32) hq2) fun hq3 =>
      f_M_formula_b196 a1 hq3
set_option maxHeartbeats 2000000 in
theorem o_M_formula_b177 {G : AE} {n : Nat} (hn : NN ≤ n)  {a1 : Int32}   : ∀  (h : AH), AJ G n y_M_formula (5) φV 177 [some (.ref 383), none, none, none] [] h (f_M_formula_b177 a1 h) := by
  intro  h
  rw [f_M_formula_b177]
  refine r_aload_n (pc := 177) (i := 0) d_M_formula_177 rfl rfl ?_
  refine r_getf (pc := 178) (ci := 12) (k := 2) (C := "CricketHayModel") (T := F_12) (N := 73) (v := .int (hI h 383 2)) (fun s => Std.k s (lc hn rfl) kq_383) rfl (Nat.le_of_ble_eq_true rfl) rfl w_1088 (fun _ => rfl) d_M_formula_178 ?_
  refine r_if_ne (pc := 181) (tgt := 196) d_M_formula_181 (by rfl) ?_ ?_
  · exact r_wk (o_M_formula_b196 hn h) ⟨rfl, trivial⟩
  · refine r_aload_n (pc := 184) (i := 0) d_M_formula_184 rfl rfl ?_
    refine r_cVi (pc := 185) (T := F_12) (N := 73) (st := []) (ok_M_hasBracket hn h) (fun s => Std.k s (lc hn rfl) kq_383) rfl w_1456 w_13 w_1453 w_1455 ws_72 hy_M_hasBracket ⟨Nat.le_of_ble_eq_true rfl, Nat.le_of_ble_eq_true rfl⟩ ⟨Nat.le_of_ble_eq_true rfl, Nat.le_of_ble_eq_true rfl⟩ rfl (Nat.le_of_ble_eq_true rfl) d_M_formula_185 (fun rq1 hq2 => ?_)
    refine r_if_eq (pc := 188) (tgt := 196) d_M_formula_188 (by rfl) ?_ ?_
    · exact r_wk (o_M_formula_b196 hn hq2) ⟨rfl, trivial⟩
    · refine r_aload_n (pc := 191) (i := 0) d_M_formula_191 rfl rfl ?_
      refine r_iconst (pc := 192) (v := 2) d_M_formula_192 (by rfl) ?_
      refine r_cVv (pc := 193) (T := F_12) (N := 73) (st := []) (ok_M_wrong hn (2 : Int32) hq2) (fun s => Std.k s (lc hn rfl) kq_383) rfl w_1389 w_13 w_1386 w_1388 ws_56 hy_M_wrong ⟨Nat.le_of_ble_eq_true rfl, Nat.le_of_ble_eq_true rfl⟩ ⟨Nat.le_of_ble_eq_true rfl, Nat.le_of_ble_eq_true rfl⟩ rfl (Nat.le_of_ble_eq_true rfl) d_M_formula_193 (fun hq3 => ?_)
      exact r_wk (o_M_formula_b196 hn hq3) ⟨rfl, trivial⟩
def f_M_formula_b133  (a1 : Int32) (k50 : Int32 → AH → Option AH) (x2 : Int32) (x3 : Int32) (h : AH) : Option AH :=
  bI (f_M_tight x3 h) fun rq1 hq2 =>
  bV (f_M_close rq1 hq2) fun hq3 =>
  gx (hI hq3 383 21) 160 <|
  lt (sI hq3 392 (ix (hI hq3 383 21)) x3) fun hq5 =>
  lt (sI hq5 383 21 ((hI hq5 383 21) + (1 : Int32))) fun hq6 =>
  bV (f_M_token hq6) fun hq7 =>
  bV (f_M_unit hq7) fun hq8 =>
  k50 x2 hq8
set_option maxHeartbeats 2000000 in
theorem o_M_formula_b133 {G : AE} {n : Nat} (hn : NN ≤ n)  {a1 : Int32}  {k50 : Int32 → AH → Option AH} (hk50 : ∀ (x2 : Int32) (h : AH), AJ G n y_M_formula (5) φV 50 [some (.ref 383), none, some (.int x2), none] [] h (k50 x2 h)) : ∀ (x2 : Int32) (x3 : Int32) (h : AH), AJ G n y_M_formula (5) φV 133 [some (.ref 383), none, some (.int x2), some (.int x3)] [] h (f_M_formula_b133 a1 k50 x2 x3 h) := by
  intro x2 x3 h
  rw [f_M_formula_b133]
  refine r_aload_n (pc := 133) (i := 0) d_M_formula_133 rfl rfl ?_
  refine r_iload_n (pc := 134) (i := 3) d_M_formula_134 rfl rfl ?_
  refine r_cSi (pc := 135) (st := [.ref 383]) (ok_M_tight hn x3 h) w_1428 w_13 w_1426 w_1427 hy_M_tight ⟨Nat.le_of_ble_eq_true rfl, Nat.le_of_ble_eq_true rfl⟩ ⟨Nat.le_of_ble_eq_true rfl, Nat.le_of_ble_eq_true rfl⟩ rfl (Nat.le_of_ble_eq_true rfl) d_M_formula_135 (fun rq1 hq2 => ?_)
  refine r_cVv (pc := 138) (T := F_12) (N := 73) (st := []) (ok_M_close hn rq1 hq2) (fun s => Std.k s (lc hn rfl) kq_383) rfl w_1460 w_13 w_1457 w_1459 ws_73 hy_M_close ⟨Nat.le_of_ble_eq_true rfl, Nat.le_of_ble_eq_true rfl⟩ ⟨Nat.le_of_ble_eq_true rfl, Nat.le_of_ble_eq_true rfl⟩ rfl (Nat.le_of_ble_eq_true rfl) d_M_formula_138 (fun hq3 => ?_)
  refine r_aload_n (pc := 141) (i := 0) d_M_formula_141 rfl rfl ?_
  refine r_getf (pc := 142) (ci := 12) (k := 17) (C := "CricketHayModel") (T := F_12) (N := 73) (v := .ref 392) (fun s => Std.k s (lc hn rfl) kq_383) rfl (Nat.le_of_ble_eq_true rfl) rfl w_1103 (fun s => vr rfl (Std.r s (lc hn rfl) rq_383_17)) d_M_formula_142 ?_
  refine r_aload_n (pc := 145) (i := 0) d_M_formula_145 rfl rfl ?_
  refine r_getf (pc := 146) (ci := 12) (k := 21) (C := "CricketHayModel") (T := F_12) (N := 73) (v := .int (hI hq3 383 21)) (fun s => Std.k s (lc hn rfl) kq_383) rfl (Nat.le_of_ble_eq_true rfl) rfl w_1107 (fun _ => rfl) d_M_formula_146 ?_
  refine r_iload_n (pc := 149) (i := 3) d_M_formula_149 rfl rfl ?_
  refine r_gx (fun zq4 => ?_)
  refine r_iast (pc := 150) (n := 160) (i0 := (ix (hI hq3 383 21))) (fun s => Std.k s (lc hn rfl) kq_392) zq4 rfl (fun s => Std.sI s _ _ _) d_M_formula_150 ?_
  refine r_ltH (fun hq5 => ?_)
  refine r_aload_n (pc := 151) (i := 0) d_M_formula_151 rfl rfl ?_
  refine r_dup (pc := 152) d_M_formula_152 rfl ?_
  refine r_getf (pc := 153) (ci := 12) (k := 21) (C := "CricketHayModel") (T := F_12) (N := 73) (v := .int (hI hq5 383 21)) (fun s => Std.k s (lc hn rfl) kq_383) rfl (Nat.le_of_ble_eq_true rfl) rfl w_1107 (fun _ => rfl) d_M_formula_153 ?_
  refine r_iconst (pc := 156) (v := 1) d_M_formula_156 (by rfl) ?_
  refine r_iadd (pc := 157) d_M_formula_157 ?_
  refine r_putI (pc := 158) (ci := 12) (k := 21) (C := "CricketHayModel") (T := F_12) (N := 73) (fun s => Std.k s (lc hn rfl) kq_383) rfl (Nat.le_of_ble_eq_true rfl) rfl rfl w_1107 (fun _ _ => rfl) (fun _ => rfl) (fun _ => rfl) (fun s => Std.sI s _ _ _) d_M_formula_158 ?_
  refine r_ltH (fun hq6 => ?_)
  refine r_aload_n (pc := 161) (i := 0) d_M_formula_161 rfl rfl ?_
  refine r_cVv (pc := 162) (T := F_12) (N := 73) (st := []) (ok_M_token hn hq6) (fun s => Std.k s (lc hn rfl) kq_383) rfl w_1329 w_13 w_1326 w_1328 ws_48 hy_M_token ⟨Nat.le_of_ble_eq_true rfl, Nat.le_of_ble_eq_true rfl⟩ ⟨Nat.le_of_ble_eq_true rfl, Nat.le_of_ble_eq_true rfl⟩ rfl (Nat.le_of_ble_eq_true rfl) d_M_formula_162 (fun hq7 => ?_)
  refine r_aload_n (pc := 165) (i := 0) d_M_formula_165 rfl rfl ?_
  refine r_cVv (pc := 166) (T := F_12) (N := 73) (st := []) (ok_M_unit hn hq7) (fun s => Std.k s (lc hn rfl) kq_383) rfl w_1421 w_13 w_1418 w_1420 ws_64 hy_M_unit ⟨Nat.le_of_ble_eq_true rfl, Nat.le_of_ble_eq_true rfl⟩ ⟨Nat.le_of_ble_eq_true rfl, Nat.le_of_ble_eq_true rfl⟩ rfl (Nat.le_of_ble_eq_true rfl) d_M_formula_166 (fun hq8 => ?_)
  refine r_goto (pc := 169) (tgt := 174) d_M_formula_169 (by rfl) ?_
  refine r_goto (pc := 174) (tgt := 50) d_M_formula_174 (by rfl) ?_
  exact r_wk (hk50 x2 hq8) ⟨rfl, ⟨rfl, trivial⟩⟩
def f_M_formula_b114  (a1 : Int32) (k50 : Int32 → AH → Option AH) (x2 : Int32) (x3 : Int32) (h : AH) : Option AH :=
  if x3 = 0 then
    k50 (0 : Int32) h
  else
    bI (f_M_tight x3 h) fun rq1 hq2 =>
    if ¬ rq1 = (4 : Int32) then
      f_M_formula_b133 a1 k50 x2 x3 hq2
    else
      bI (f_M_hasRelation hq2) fun rq3 hq4 =>
      if ¬ rq3 = 0 then
        k50 (0 : Int32) hq4
      else
        f_M_formula_b133 a1 k50 x2 x3 hq4
set_option maxHeartbeats 2000000 in
theorem o_M_formula_b114 {G : AE} {n : Nat} (hn : NN ≤ n)  {a1 : Int32}  {k50 : Int32 → AH → Option AH} (hk50 : ∀ (x2 : Int32) (h : AH), AJ G n y_M_formula (5) φV 50 [some (.ref 383), none, some (.int x2), none] [] h (k50 x2 h)) : ∀ (x2 : Int32) (x3 : Int32) (h : AH), AJ G n y_M_formula (5) φV 114 [some (.ref 383), none, some (.int x2), some (.int x3)] [] h (f_M_formula_b114 a1 k50 x2 x3 h) := by
  intro x2 x3 h
  rw [f_M_formula_b114]
  refine r_iload_n (pc := 114) (i := 3) d_M_formula_114 rfl rfl ?_
  refine r_if_eq (pc := 115) (tgt := 172) d_M_formula_115 (by rfl) ?_ ?_
  · refine r_iconst (pc := 172) (v := 0) d_M_formula_172 (by rfl) ?_
    refine r_istore_n (pc := 173) (i := 2) (lv1 := [some (.ref 383), none, some (.int (0 : Int32)), some (.int x3)]) d_M_formula_173 rfl (Nat.le_of_ble_eq_true rfl) rfl ?_
    refine r_goto (pc := 174) (tgt := 50) d_M_formula_174 (by rfl) ?_
    exact r_wk (hk50 (0 : Int32) h) ⟨rfl, ⟨rfl, trivial⟩⟩
  · refine r_iload_n (pc := 118) (i := 3) d_M_formula_118 rfl rfl ?_
    refine r_cSi (pc := 119) (st := []) (ok_M_tight hn x3 h) w_1428 w_13 w_1426 w_1427 hy_M_tight ⟨Nat.le_of_ble_eq_true rfl, Nat.le_of_ble_eq_true rfl⟩ ⟨Nat.le_of_ble_eq_true rfl, Nat.le_of_ble_eq_true rfl⟩ rfl (Nat.le_of_ble_eq_true rfl) d_M_formula_119 (fun rq1 hq2 => ?_)
    refine r_iconst (pc := 122) (v := 4) d_M_formula_122 (by rfl) ?_
    refine r_icmp_ne (pc := 123) (tgt := 133) d_M_formula_123 (by rfl) ?_ ?_
    · exact r_wk (o_M_formula_b133 hn hk50 x2 x3 hq2) ⟨rfl, ⟨rfl, ⟨rfl, trivial⟩⟩⟩
    · refine r_aload_n (pc := 126) (i := 0) d_M_formula_126 rfl rfl ?_
      refine r_cVi (pc := 127) (T := F_12) (N := 73) (st := []) (ok_M_hasRelation hn hq2) (fun s => Std.k s (lc hn rfl) kq_383) rfl w_1464 w_13 w_1461 w_1463 ws_74 hy_M_hasRelation ⟨Nat.le_of_ble_eq_true rfl, Nat.le_of_ble_eq_true rfl⟩ ⟨Nat.le_of_ble_eq_true rfl, Nat.le_of_ble_eq_true rfl⟩ rfl (Nat.le_of_ble_eq_true rfl) d_M_formula_127 (fun rq3 hq4 => ?_)
      refine r_if_ne (pc := 130) (tgt := 172) d_M_formula_130 (by rfl) ?_ ?_
      · refine r_iconst (pc := 172) (v := 0) d_M_formula_172 (by rfl) ?_
        refine r_istore_n (pc := 173) (i := 2) (lv1 := [some (.ref 383), none, some (.int (0 : Int32)), some (.int x3)]) d_M_formula_173 rfl (Nat.le_of_ble_eq_true rfl) rfl ?_
        refine r_goto (pc := 174) (tgt := 50) d_M_formula_174 (by rfl) ?_
        exact r_wk (hk50 (0 : Int32) hq4) ⟨rfl, ⟨rfl, trivial⟩⟩
      · exact r_wk (o_M_formula_b133 hn hk50 x2 x3 hq4) ⟨rfl, ⟨rfl, ⟨rfl, trivial⟩⟩⟩
def f_M_formula_l50  (a1 : Int32)  : Nat → Int32 → AH → Option AH
  | 0, _, _ => none
  | n + 1, x2, h =>
    if x2 = 0 then
      f_M_formula_b177 a1 h
    else
      if ¬ (hI h 383 2) = 0 then
        f_M_formula_b177 a1 h
      else
        bI (f_M_sign h) fun rq1 hq2 =>
        if ¬ (hI hq2 383 6) = (41 : Int32) then
          f_M_formula_b114 a1 (f_M_formula_l50 a1 n) x2 rq1 hq2
        else
          bI (f_M_hasBracket hq2) fun rq3 hq4 =>
          if rq3 = 0 then
            f_M_formula_b114 a1 (f_M_formula_l50 a1 n) x2 rq1 hq4
          else
            bV (f_M_close (0 : Int32) hq4) fun hq5 =>
            lt (sI hq5 383 21 ((hI hq5 383 21) - (1 : Int32))) fun hq6 =>
            lt (sI hq6 383 25 ((hI hq6 383 25) - (1 : Int32))) fun hq7 =>
            bV (f_M_token hq7) fun hq8 =>
            f_M_formula_l50 a1 n x2 hq8
set_option maxHeartbeats 2000000 in
theorem o_M_formula_l50 {G : AE} {n : Nat} (hn : NN ≤ n)  {a1 : Int32}   : ∀ (n0 : Nat) (x2 : Int32) (h : AH), AJ G n y_M_formula (5) φV 50 [some (.ref 383), none, some (.int x2), none] [] h (f_M_formula_l50 a1 n0 x2 h) := by
  intro n0
  induction n0 with
  | zero => intros; exact r_none
  | succ n0 ih =>
    intro x2 h
    rw [f_M_formula_l50]
    refine r_iload_n (pc := 50) (i := 2) d_M_formula_50 rfl rfl ?_
    refine r_if_eq (pc := 51) (tgt := 177) d_M_formula_51 (by rfl) ?_ ?_
    · exact r_wk (o_M_formula_b177 hn h) ⟨rfl, trivial⟩
    · refine r_aload_n (pc := 54) (i := 0) d_M_formula_54 rfl rfl ?_
      refine r_getf (pc := 55) (ci := 12) (k := 2) (C := "CricketHayModel") (T := F_12) (N := 73) (v := .int (hI h 383 2)) (fun s => Std.k s (lc hn rfl) kq_383) rfl (Nat.le_of_ble_eq_true rfl) rfl w_1088 (fun _ => rfl) d_M_formula_55 ?_
      refine r_if_ne (pc := 58) (tgt := 177) d_M_formula_58 (by rfl) ?_ ?_
      · exact r_wk (o_M_formula_b177 hn h) ⟨rfl, trivial⟩
      · refine r_aload_n (pc := 61) (i := 0) d_M_formula_61 rfl rfl ?_
        refine r_cVi (pc := 62) (T := F_12) (N := 73) (st := []) (ok_M_sign hn h) (fun s => Std.k s (lc hn rfl) kq_383) rfl w_1452 w_13 w_1449 w_1451 ws_71 hy_M_sign ⟨Nat.le_of_ble_eq_true rfl, Nat.le_of_ble_eq_true rfl⟩ ⟨Nat.le_of_ble_eq_true rfl, Nat.le_of_ble_eq_true rfl⟩ rfl (Nat.le_of_ble_eq_true rfl) d_M_formula_62 (fun rq1 hq2 => ?_)
        refine r_istore_n (pc := 65) (i := 3) (lv1 := [some (.ref 383), none, some (.int x2), some (.int rq1)]) d_M_formula_65 rfl (Nat.le_of_ble_eq_true rfl) rfl ?_
        refine r_aload_n (pc := 66) (i := 0) d_M_formula_66 rfl rfl ?_
        refine r_getf (pc := 67) (ci := 12) (k := 6) (C := "CricketHayModel") (T := F_12) (N := 73) (v := .int (hI hq2 383 6)) (fun s => Std.k s (lc hn rfl) kq_383) rfl (Nat.le_of_ble_eq_true rfl) rfl w_1092 (fun _ => rfl) d_M_formula_67 ?_
        refine r_bipush (pc := 70) (v := 41) d_M_formula_70 (by rfl) ?_
        refine r_icmp_ne (pc := 72) (tgt := 114) d_M_formula_72 (by rfl) ?_ ?_
        · exact r_wk (o_M_formula_b114 hn ih x2 rq1 hq2) ⟨rfl, ⟨rfl, ⟨rfl, trivial⟩⟩⟩
        · refine r_aload_n (pc := 75) (i := 0) d_M_formula_75 rfl rfl ?_
          refine r_cVi (pc := 76) (T := F_12) (N := 73) (st := []) (ok_M_hasBracket hn hq2) (fun s => Std.k s (lc hn rfl) kq_383) rfl w_1456 w_13 w_1453 w_1455 ws_72 hy_M_hasBracket ⟨Nat.le_of_ble_eq_true rfl, Nat.le_of_ble_eq_true rfl⟩ ⟨Nat.le_of_ble_eq_true rfl, Nat.le_of_ble_eq_true rfl⟩ rfl (Nat.le_of_ble_eq_true rfl) d_M_formula_76 (fun rq3 hq4 => ?_)
          refine r_if_eq (pc := 79) (tgt := 114) d_M_formula_79 (by rfl) ?_ ?_
          · exact r_wk (o_M_formula_b114 hn ih x2 rq1 hq4) ⟨rfl, ⟨rfl, ⟨rfl, trivial⟩⟩⟩
          · refine r_aload_n (pc := 82) (i := 0) d_M_formula_82 rfl rfl ?_
            refine r_iconst (pc := 83) (v := 0) d_M_formula_83 (by rfl) ?_
            refine r_cVv (pc := 84) (T := F_12) (N := 73) (st := []) (ok_M_close hn (0 : Int32) hq4) (fun s => Std.k s (lc hn rfl) kq_383) rfl w_1460 w_13 w_1457 w_1459 ws_73 hy_M_close ⟨Nat.le_of_ble_eq_true rfl, Nat.le_of_ble_eq_true rfl⟩ ⟨Nat.le_of_ble_eq_true rfl, Nat.le_of_ble_eq_true rfl⟩ rfl (Nat.le_of_ble_eq_true rfl) d_M_formula_84 (fun hq5 => ?_)
            refine r_aload_n (pc := 87) (i := 0) d_M_formula_87 rfl rfl ?_
            refine r_dup (pc := 88) d_M_formula_88 rfl ?_
            refine r_getf (pc := 89) (ci := 12) (k := 21) (C := "CricketHayModel") (T := F_12) (N := 73) (v := .int (hI hq5 383 21)) (fun s => Std.k s (lc hn rfl) kq_383) rfl (Nat.le_of_ble_eq_true rfl) rfl w_1107 (fun _ => rfl) d_M_formula_89 ?_
            refine r_iconst (pc := 92) (v := 1) d_M_formula_92 (by rfl) ?_
            refine r_isub (pc := 93) d_M_formula_93 ?_
            refine r_putI (pc := 94) (ci := 12) (k := 21) (C := "CricketHayModel") (T := F_12) (N := 73) (fun s => Std.k s (lc hn rfl) kq_383) rfl (Nat.le_of_ble_eq_true rfl) rfl rfl w_1107 (fun _ _ => rfl) (fun _ => rfl) (fun _ => rfl) (fun s => Std.sI s _ _ _) d_M_formula_94 ?_
            refine r_ltH (fun hq6 => ?_)
            refine r_aload_n (pc := 97) (i := 0) d_M_formula_97 rfl rfl ?_
            refine r_dup (pc := 98) d_M_formula_98 rfl ?_
            refine r_getf (pc := 99) (ci := 12) (k := 25) (C := "CricketHayModel") (T := F_12) (N := 73) (v := .int (hI hq6 383 25)) (fun s => Std.k s (lc hn rfl) kq_383) rfl (Nat.le_of_ble_eq_true rfl) rfl w_1111 (fun _ => rfl) d_M_formula_99 ?_
            refine r_iconst (pc := 102) (v := 1) d_M_formula_102 (by rfl) ?_
            refine r_isub (pc := 103) d_M_formula_103 ?_
            refine r_putI (pc := 104) (ci := 12) (k := 25) (C := "CricketHayModel") (T := F_12) (N := 73) (fun s => Std.k s (lc hn rfl) kq_383) rfl (Nat.le_of_ble_eq_true rfl) rfl rfl w_1111 (fun _ _ => rfl) (fun _ => rfl) (fun _ => rfl) (fun s => Std.sI s _ _ _) d_M_formula_104 ?_
            refine r_ltH (fun hq7 => ?_)
            refine r_aload_n (pc := 107) (i := 0) d_M_formula_107 rfl rfl ?_
            refine r_cVv (pc := 108) (T := F_12) (N := 73) (st := []) (ok_M_token hn hq7) (fun s => Std.k s (lc hn rfl) kq_383) rfl w_1329 w_13 w_1326 w_1328 ws_48 hy_M_token ⟨Nat.le_of_ble_eq_true rfl, Nat.le_of_ble_eq_true rfl⟩ ⟨Nat.le_of_ble_eq_true rfl, Nat.le_of_ble_eq_true rfl⟩ rfl (Nat.le_of_ble_eq_true rfl) d_M_formula_108 (fun hq8 => ?_)
            refine r_goto (pc := 111) (tgt := 174) d_M_formula_111 (by rfl) ?_
            refine r_goto (pc := 174) (tgt := 50) d_M_formula_174 (by rfl) ?_
            exact r_wk (ih x2 hq8) ⟨rfl, ⟨rfl, trivial⟩⟩
def f_M_formula  (a1 : Int32) (h : AH) : Option AH :=
  bV (f_M_token h) fun hq1 =>
  lt (sI hq1 383 20 a1) fun hq2 =>
  gx (hI hq2 383 20) 2 <|
  lt (sI hq2 394 (ix (hI hq2 383 20)) (vp_nar .boolean (1 : Int32))) fun hq4 =>
  gx (hI hq4 383 20) 2 <|
  lt (sI hq4 388 (ix (hI hq4 383 20)) (0 : Int32)) fun hq6 =>
  lt (sI hq6 383 21 (0 : Int32)) fun hq7 =>
  lt (sI hq7 383 25 (0 : Int32)) fun hq8 =>
  lt (sI hq8 383 24 (0 : Int32)) fun hq9 =>
  bV (f_M_unit hq9) fun hq10 =>
  f_M_formula_l50 a1 FU (1 : Int32) hq10
set_option maxHeartbeats 2000000 in
theorem ok_M_formula {G : AE} {n : Nat} (hn : NN ≤ n)  (a1 : Int32) (h : AH) : OK G n y_M_formula (5) φV [.ref 383, .int a1] h (f_M_formula a1 h) := by
  refine ok_of (y := y_M_formula) (lv0 := [some (.ref 383), some (.int a1), none, none]) (by decide +kernel) (Nat.le_of_ble_eq_true rfl) ⟨rfl, ⟨rfl, trivial⟩⟩ ?_
  rw [f_M_formula]
  refine r_aload_n (pc := 0) (i := 0) d_M_formula_0 rfl rfl ?_
  refine r_cVv (pc := 1) (T := F_12) (N := 73) (st := []) (ok_M_token hn h) (fun s => Std.k s (lc hn rfl) kq_383) rfl w_1329 w_13 w_1326 w_1328 ws_48 hy_M_token ⟨Nat.le_of_ble_eq_true rfl, Nat.le_of_ble_eq_true rfl⟩ ⟨Nat.le_of_ble_eq_true rfl, Nat.le_of_ble_eq_true rfl⟩ rfl (Nat.le_of_ble_eq_true rfl) d_M_formula_1 (fun hq1 => ?_)
  refine r_aload_n (pc := 4) (i := 0) d_M_formula_4 rfl rfl ?_
  refine r_iload_n (pc := 5) (i := 1) d_M_formula_5 rfl rfl ?_
  refine r_putI (pc := 6) (ci := 12) (k := 20) (C := "CricketHayModel") (T := F_12) (N := 73) (fun s => Std.k s (lc hn rfl) kq_383) rfl (Nat.le_of_ble_eq_true rfl) rfl rfl w_1106 (fun _ _ => rfl) (fun _ => rfl) (fun _ => rfl) (fun s => Std.sI s _ _ _) d_M_formula_6 ?_
  refine r_ltH (fun hq2 => ?_)
  refine r_aload_n (pc := 9) (i := 0) d_M_formula_9 rfl rfl ?_
  refine r_getf (pc := 10) (ci := 12) (k := 19) (C := "CricketHayModel") (T := F_12) (N := 73) (v := .ref 394) (fun s => Std.k s (lc hn rfl) kq_383) rfl (Nat.le_of_ble_eq_true rfl) rfl w_1105 (fun s => vr rfl (Std.r s (lc hn rfl) rq_383_19)) d_M_formula_10 ?_
  refine r_aload_n (pc := 13) (i := 0) d_M_formula_13 rfl rfl ?_
  refine r_getf (pc := 14) (ci := 12) (k := 20) (C := "CricketHayModel") (T := F_12) (N := 73) (v := .int (hI hq2 383 20)) (fun s => Std.k s (lc hn rfl) kq_383) rfl (Nat.le_of_ble_eq_true rfl) rfl w_1106 (fun _ => rfl) d_M_formula_14 ?_
  refine r_iconst (pc := 17) (v := 1) d_M_formula_17 (by rfl) ?_
  refine r_gx (fun zq3 => ?_)
  refine r_zast (pc := 18) (n := 2) (i0 := (ix (hI hq2 383 20))) (fun s => Std.k s (lc hn rfl) kq_394) zq3 rfl (fun s => Std.sI s _ _ _) d_M_formula_18 ?_
  refine r_ltH (fun hq4 => ?_)
  refine r_aload_n (pc := 19) (i := 0) d_M_formula_19 rfl rfl ?_
  refine r_getf (pc := 20) (ci := 12) (k := 13) (C := "CricketHayModel") (T := F_12) (N := 73) (v := .ref 388) (fun s => Std.k s (lc hn rfl) kq_383) rfl (Nat.le_of_ble_eq_true rfl) rfl w_1099 (fun s => vr rfl (Std.r s (lc hn rfl) rq_383_13)) d_M_formula_20 ?_
  refine r_aload_n (pc := 23) (i := 0) d_M_formula_23 rfl rfl ?_
  refine r_getf (pc := 24) (ci := 12) (k := 20) (C := "CricketHayModel") (T := F_12) (N := 73) (v := .int (hI hq4 383 20)) (fun s => Std.k s (lc hn rfl) kq_383) rfl (Nat.le_of_ble_eq_true rfl) rfl w_1106 (fun _ => rfl) d_M_formula_24 ?_
  refine r_iconst (pc := 27) (v := 0) d_M_formula_27 (by rfl) ?_
  refine r_gx (fun zq5 => ?_)
  refine r_iast (pc := 28) (n := 2) (i0 := (ix (hI hq4 383 20))) (fun s => Std.k s (lc hn rfl) kq_388) zq5 rfl (fun s => Std.sI s _ _ _) d_M_formula_28 ?_
  refine r_ltH (fun hq6 => ?_)
  refine r_aload_n (pc := 29) (i := 0) d_M_formula_29 rfl rfl ?_
  refine r_iconst (pc := 30) (v := 0) d_M_formula_30 (by rfl) ?_
  refine r_putI (pc := 31) (ci := 12) (k := 21) (C := "CricketHayModel") (T := F_12) (N := 73) (fun s => Std.k s (lc hn rfl) kq_383) rfl (Nat.le_of_ble_eq_true rfl) rfl rfl w_1107 (fun _ _ => rfl) (fun _ => rfl) (fun _ => rfl) (fun s => Std.sI s _ _ _) d_M_formula_31 ?_
  refine r_ltH (fun hq7 => ?_)
  refine r_aload_n (pc := 34) (i := 0) d_M_formula_34 rfl rfl ?_
  refine r_iconst (pc := 35) (v := 0) d_M_formula_35 (by rfl) ?_
  refine r_putI (pc := 36) (ci := 12) (k := 25) (C := "CricketHayModel") (T := F_12) (N := 73) (fun s => Std.k s (lc hn rfl) kq_383) rfl (Nat.le_of_ble_eq_true rfl) rfl rfl w_1111 (fun _ _ => rfl) (fun _ => rfl) (fun _ => rfl) (fun s => Std.sI s _ _ _) d_M_formula_36 ?_
  refine r_ltH (fun hq8 => ?_)
  refine r_aload_n (pc := 39) (i := 0) d_M_formula_39 rfl rfl ?_
  refine r_iconst (pc := 40) (v := 0) d_M_formula_40 (by rfl) ?_
  refine r_putI (pc := 41) (ci := 12) (k := 24) (C := "CricketHayModel") (T := F_12) (N := 73) (fun s => Std.k s (lc hn rfl) kq_383) rfl (Nat.le_of_ble_eq_true rfl) rfl rfl w_1110 (fun _ _ => rfl) (fun _ => rfl) (fun _ => rfl) (fun s => Std.sI s _ _ _) d_M_formula_41 ?_
  refine r_ltH (fun hq9 => ?_)
  refine r_aload_n (pc := 44) (i := 0) d_M_formula_44 rfl rfl ?_
  refine r_cVv (pc := 45) (T := F_12) (N := 73) (st := []) (ok_M_unit hn hq9) (fun s => Std.k s (lc hn rfl) kq_383) rfl w_1421 w_13 w_1418 w_1420 ws_64 hy_M_unit ⟨Nat.le_of_ble_eq_true rfl, Nat.le_of_ble_eq_true rfl⟩ ⟨Nat.le_of_ble_eq_true rfl, Nat.le_of_ble_eq_true rfl⟩ rfl (Nat.le_of_ble_eq_true rfl) d_M_formula_45 (fun hq10 => ?_)
  refine r_iconst (pc := 48) (v := 1) d_M_formula_48 (by rfl) ?_
  refine r_istore_n (pc := 49) (i := 2) (lv1 := [some (.ref 383), some (.int a1), some (.int (1 : Int32)), none]) d_M_formula_49 rfl (Nat.le_of_ble_eq_true rfl) rfl ?_
  exact r_wk (o_M_formula_l50 hn FU (1 : Int32) hq10) ⟨rfl, ⟨rfl, trivial⟩⟩

def f_M_truth  (a0 : Int32) (h : AH) : Option (Int32 × AH) :=
  if a0 = 0 then
    some ((0 : Int32), h)
  else
    some ((1 : Int32), h)
set_option maxHeartbeats 2000000 in
theorem ok_M_truth {G : AE} {n : Nat} (hn : NN ≤ n)  (a0 : Int32) (h : AH) : OK G n y_M_truth (1) φI [.int a0] h (f_M_truth a0 h) := by
  refine ok_of (y := y_M_truth) (lv0 := [some (.int a0)]) (by decide +kernel) (Nat.le_of_ble_eq_true rfl) ⟨rfl, trivial⟩ ?_
  rw [f_M_truth]
  refine r_iload_n (pc := 0) (i := 0) d_M_truth_0 rfl rfl ?_
  refine r_if_eq (pc := 1) (tgt := 8) d_M_truth_1 (by rfl) ?_ ?_
  · refine r_iconst (pc := 8) (v := 0) d_M_truth_8 (by rfl) ?_
    exact r_iret (pc := 9) rfl d_M_truth_9
  · refine r_iconst (pc := 4) (v := 1) d_M_truth_4 (by rfl) ?_
    refine r_goto (pc := 5) (tgt := 9) d_M_truth_5 (by rfl) ?_
    exact r_iret (pc := 9) rfl d_M_truth_9

def f_M_done_b228  (a0 : Int32) (a1 : Int32) (a2 : Int32)  (v0 : Int32) (h : AH) : Option (Int32 × AH) :=
  bI (f_M_truth v0 h) fun rq1 hq2 =>
  some (rq1, hq2)
set_option maxHeartbeats 2000000 in
theorem o_M_done_b228 {G : AE} {n : Nat} (hn : NN ≤ n)  {a0 : Int32} {a1 : Int32} {a2 : Int32}   : ∀ (v0 : Int32) (h : AH), AJ G n y_M_done (2) φI 228 [none, none, none] [.int v0] h (f_M_done_b228 a0 a1 a2 v0 h) := by
  intro v0 h
  rw [f_M_done_b228]
  refine r_cSi (pc := 228) (st := []) (ok_M_truth hn v0 h) w_1490 w_13 w_1488 w_1489 hy_M_truth ⟨Nat.le_of_ble_eq_true rfl, Nat.le_of_ble_eq_true rfl⟩ ⟨Nat.le_of_ble_eq_true rfl, Nat.le_of_ble_eq_true rfl⟩ rfl (Nat.le_of_ble_eq_true rfl) d_M_done_228 (fun rq1 hq2 => ?_)
  exact r_iret (pc := 231) rfl d_M_done_231
def f_M_done_b223  (a0 : Int32) (a1 : Int32) (a2 : Int32)   (h : AH) : Option (Int32 × AH) :=
  f_M_done_b228 a0 a1 a2 (1 : Int32) h
set_option maxHeartbeats 2000000 in
theorem o_M_done_b223 {G : AE} {n : Nat} (hn : NN ≤ n)  {a0 : Int32} {a1 : Int32} {a2 : Int32}   : ∀  (h : AH), AJ G n y_M_done (2) φI 223 [none, none, none] [] h (f_M_done_b223 a0 a1 a2 h) := by
  intro  h
  rw [f_M_done_b223]
  refine r_iconst (pc := 223) (v := 1) d_M_done_223 (by rfl) ?_
  refine r_goto (pc := 224) (tgt := 228) d_M_done_224 (by rfl) ?_
  exact r_wk (o_M_done_b228 hn (1 : Int32) h) trivial
def f_M_done_b211  (a0 : Int32) (a1 : Int32) (a2 : Int32)  (v0 : Int32) (h : AH) : Option (Int32 × AH) :=
  bI (f_M_truth v0 h) fun rq1 hq2 =>
  some (rq1, hq2)
set_option maxHeartbeats 2000000 in
theorem o_M_done_b211 {G : AE} {n : Nat} (hn : NN ≤ n)  {a0 : Int32} {a1 : Int32} {a2 : Int32}   : ∀ (v0 : Int32) (h : AH), AJ G n y_M_done (2) φI 211 [none, none, none] [.int v0] h (f_M_done_b211 a0 a1 a2 v0 h) := by
  intro v0 h
  rw [f_M_done_b211]
  refine r_cSi (pc := 211) (st := []) (ok_M_truth hn v0 h) w_1490 w_13 w_1488 w_1489 hy_M_truth ⟨Nat.le_of_ble_eq_true rfl, Nat.le_of_ble_eq_true rfl⟩ ⟨Nat.le_of_ble_eq_true rfl, Nat.le_of_ble_eq_true rfl⟩ rfl (Nat.le_of_ble_eq_true rfl) d_M_done_211 (fun rq1 hq2 => ?_)
  exact r_iret (pc := 214) rfl d_M_done_214
def f_M_done_b210  (a0 : Int32) (a1 : Int32) (a2 : Int32)   (h : AH) : Option (Int32 × AH) :=
  f_M_done_b211 a0 a1 a2 (0 : Int32) h
set_option maxHeartbeats 2000000 in
theorem o_M_done_b210 {G : AE} {n : Nat} (hn : NN ≤ n)  {a0 : Int32} {a1 : Int32} {a2 : Int32}   : ∀  (h : AH), AJ G n y_M_done (2) φI 210 [none, none, none] [] h (f_M_done_b210 a0 a1 a2 h) := by
  intro  h
  rw [f_M_done_b210]
  refine r_iconst (pc := 210) (v := 0) d_M_done_210 (by rfl) ?_
  exact r_wk (o_M_done_b211 hn (0 : Int32) h) trivial
def f_M_done_b194  (a0 : Int32) (a1 : Int32) (a2 : Int32)  (v0 : Int32) (h : AH) : Option (Int32 × AH) :=
  bI (f_M_truth v0 h) fun rq1 hq2 =>
  some (rq1, hq2)
set_option maxHeartbeats 2000000 in
theorem o_M_done_b194 {G : AE} {n : Nat} (hn : NN ≤ n)  {a0 : Int32} {a1 : Int32} {a2 : Int32}   : ∀ (v0 : Int32) (h : AH), AJ G n y_M_done (2) φI 194 [none, none, none] [.int v0] h (f_M_done_b194 a0 a1 a2 v0 h) := by
  intro v0 h
  rw [f_M_done_b194]
  refine r_cSi (pc := 194) (st := []) (ok_M_truth hn v0 h) w_1490 w_13 w_1488 w_1489 hy_M_truth ⟨Nat.le_of_ble_eq_true rfl, Nat.le_of_ble_eq_true rfl⟩ ⟨Nat.le_of_ble_eq_true rfl, Nat.le_of_ble_eq_true rfl⟩ rfl (Nat.le_of_ble_eq_true rfl) d_M_done_194 (fun rq1 hq2 => ?_)
  exact r_iret (pc := 197) rfl d_M_done_197
def f_M_done_b180  (a0 : Int32) (a1 : Int32) (a2 : Int32)  (v0 : Int32) (h : AH) : Option (Int32 × AH) :=
  bI (f_M_truth v0 h) fun rq1 hq2 =>
  some (rq1, hq2)
set_option maxHeartbeats 2000000 in
theorem o_M_done_b180 {G : AE} {n : Nat} (hn : NN ≤ n)  {a0 : Int32} {a1 : Int32} {a2 : Int32}   : ∀ (v0 : Int32) (h : AH), AJ G n y_M_done (2) φI 180 [none, none, none] [.int v0] h (f_M_done_b180 a0 a1 a2 v0 h) := by
  intro v0 h
  rw [f_M_done_b180]
  refine r_cSi (pc := 180) (st := []) (ok_M_truth hn v0 h) w_1490 w_13 w_1488 w_1489 hy_M_truth ⟨Nat.le_of_ble_eq_true rfl, Nat.le_of_ble_eq_true rfl⟩ ⟨Nat.le_of_ble_eq_true rfl, Nat.le_of_ble_eq_true rfl⟩ rfl (Nat.le_of_ble_eq_true rfl) d_M_done_180 (fun rq1 hq2 => ?_)
  exact r_iret (pc := 183) rfl d_M_done_183
def f_M_done_b166  (a0 : Int32) (a1 : Int32) (a2 : Int32)  (v0 : Int32) (h : AH) : Option (Int32 × AH) :=
  bI (f_M_truth v0 h) fun rq1 hq2 =>
  some (rq1, hq2)
set_option maxHeartbeats 2000000 in
theorem o_M_done_b166 {G : AE} {n : Nat} (hn : NN ≤ n)  {a0 : Int32} {a1 : Int32} {a2 : Int32}   : ∀ (v0 : Int32) (h : AH), AJ G n y_M_done (2) φI 166 [none, none, none] [.int v0] h (f_M_done_b166 a0 a1 a2 v0 h) := by
  intro v0 h
  rw [f_M_done_b166]
  refine r_cSi (pc := 166) (st := []) (ok_M_truth hn v0 h) w_1490 w_13 w_1488 w_1489 hy_M_truth ⟨Nat.le_of_ble_eq_true rfl, Nat.le_of_ble_eq_true rfl⟩ ⟨Nat.le_of_ble_eq_true rfl, Nat.le_of_ble_eq_true rfl⟩ rfl (Nat.le_of_ble_eq_true rfl) d_M_done_166 (fun rq1 hq2 => ?_)
  exact r_iret (pc := 169) rfl d_M_done_169
def f_M_done  (a0 : Int32) (a1 : Int32) (a2 : Int32) (h : AH) : Option (Int32 × AH) :=
  if a0 = (37 : Int32) then
    if ¬ a2 = 0 then
      gz a2 <|
      some ((a1 - a1 / a2 * a2), h)
    else
      some ((0 : Int32), h)
  else
  if a0 = (38 : Int32) then
    if a1 = 0 then
      f_M_done_b210 a0 a1 a2 h
    else
      if a2 = 0 then
        f_M_done_b210 a0 a1 a2 h
      else
        f_M_done_b211 a0 a1 a2 (1 : Int32) h
  else
  if a0 = (42 : Int32) then
    some ((a1 * a2), h)
  else
  if a0 = (43 : Int32) then
    some ((a1 + a2), h)
  else
  if a0 = (45 : Int32) then
    some ((a1 - a2), h)
  else
  if a0 = (47 : Int32) then
    if ¬ a2 = 0 then
      gz a2 <|
      some ((a1 / a2), h)
    else
      some ((0 : Int32), h)
  else
  if a0 = (60 : Int32) then
    if a2 ≤ a1 then
      f_M_done_b166 a0 a1 a2 (0 : Int32) h
    else
      f_M_done_b166 a0 a1 a2 (1 : Int32) h
  else
  if a0 = (61 : Int32) then
    if ¬ a1 = a2 then
      f_M_done_b194 a0 a1 a2 (0 : Int32) h
    else
      f_M_done_b194 a0 a1 a2 (1 : Int32) h
  else
  if a0 = (62 : Int32) then
    if a1 ≤ a2 then
      f_M_done_b180 a0 a1 a2 (0 : Int32) h
    else
      f_M_done_b180 a0 a1 a2 (1 : Int32) h
  else
    if ¬ a1 = 0 then
      f_M_done_b223 a0 a1 a2 h
    else
      if a2 = 0 then
        f_M_done_b228 a0 a1 a2 (0 : Int32) h
      else
        f_M_done_b223 a0 a1 a2 h
set_option maxHeartbeats 2000000 in
theorem ok_M_done {G : AE} {n : Nat} (hn : NN ≤ n)  (a0 : Int32) (a1 : Int32) (a2 : Int32) (h : AH) : OK G n y_M_done (2) φI [.int a0, .int a1, .int a2] h (f_M_done a0 a1 a2 h) := by
  refine ok_of (y := y_M_done) (lv0 := [some (.int a0), some (.int a1), some (.int a2)]) (by decide +kernel) (Nat.le_of_ble_eq_true rfl) ⟨rfl, ⟨rfl, ⟨rfl, trivial⟩⟩⟩ ?_
  rw [f_M_done]
  refine r_iload_n (pc := 0) (i := 0) d_M_done_0 rfl rfl ?_
  refine r_split (fun cq1 => ?_) (fun cq1 => ?_)
  · refine r_tableIn (pc := 1) (tgt := 144) d_M_done_1 (by rw [cq1]; decide) (by rw [cq1]; decide) (by rw [cq1] <;> rfl) (by rfl) ?_
    refine r_iload_n (pc := 144) (i := 2) d_M_done_144 rfl rfl ?_
    refine r_if_ne (pc := 145) (tgt := 152) d_M_done_145 (by rfl) ?_ ?_
    · refine r_iload_n (pc := 152) (i := 1) d_M_done_152 rfl rfl ?_
      refine r_iload_n (pc := 153) (i := 2) d_M_done_153 rfl rfl ?_
      refine r_gz (fun zq2 => ?_)
      refine r_iremC (pc := 154) zq2 d_M_done_154 ?_
      exact r_iret (pc := 155) rfl d_M_done_155
    · refine r_iconst (pc := 148) (v := 0) d_M_done_148 (by rfl) ?_
      refine r_goto (pc := 149) (tgt := 155) d_M_done_149 (by rfl) ?_
      exact r_iret (pc := 155) rfl d_M_done_155
  refine r_split (fun cq3 => ?_) (fun cq3 => ?_)
  · refine r_tableIn (pc := 1) (tgt := 198) d_M_done_1 (by rw [cq3]; decide) (by rw [cq3]; decide) (by rw [cq3] <;> rfl) (by rfl) ?_
    refine r_iload_n (pc := 198) (i := 1) d_M_done_198 rfl rfl ?_
    refine r_if_eq (pc := 199) (tgt := 210) d_M_done_199 (by rfl) ?_ ?_
    · exact r_wk (o_M_done_b210 hn h) trivial
    · refine r_iload_n (pc := 202) (i := 2) d_M_done_202 rfl rfl ?_
      refine r_if_eq (pc := 203) (tgt := 210) d_M_done_203 (by rfl) ?_ ?_
      · exact r_wk (o_M_done_b210 hn h) trivial
      · refine r_iconst (pc := 206) (v := 1) d_M_done_206 (by rfl) ?_
        refine r_goto (pc := 207) (tgt := 211) d_M_done_207 (by rfl) ?_
        exact r_wk (o_M_done_b211 hn (1 : Int32) h) trivial
  refine r_split (fun cq4 => ?_) (fun cq4 => ?_)
  · refine r_tableIn (pc := 1) (tgt := 128) d_M_done_1 (by rw [cq4]; decide) (by rw [cq4]; decide) (by rw [cq4] <;> rfl) (by rfl) ?_
    refine r_iload_n (pc := 128) (i := 1) d_M_done_128 rfl rfl ?_
    refine r_iload_n (pc := 129) (i := 2) d_M_done_129 rfl rfl ?_
    refine r_imul (pc := 130) d_M_done_130 ?_
    exact r_iret (pc := 131) rfl d_M_done_131
  refine r_split (fun cq5 => ?_) (fun cq5 => ?_)
  · refine r_tableIn (pc := 1) (tgt := 120) d_M_done_1 (by rw [cq5]; decide) (by rw [cq5]; decide) (by rw [cq5] <;> rfl) (by rfl) ?_
    refine r_iload_n (pc := 120) (i := 1) d_M_done_120 rfl rfl ?_
    refine r_iload_n (pc := 121) (i := 2) d_M_done_121 rfl rfl ?_
    refine r_iadd (pc := 122) d_M_done_122 ?_
    exact r_iret (pc := 123) rfl d_M_done_123
  refine r_split (fun cq6 => ?_) (fun cq6 => ?_)
  · refine r_tableIn (pc := 1) (tgt := 124) d_M_done_1 (by rw [cq6]; decide) (by rw [cq6]; decide) (by rw [cq6] <;> rfl) (by rfl) ?_
    refine r_iload_n (pc := 124) (i := 1) d_M_done_124 rfl rfl ?_
    refine r_iload_n (pc := 125) (i := 2) d_M_done_125 rfl rfl ?_
    refine r_isub (pc := 126) d_M_done_126 ?_
    exact r_iret (pc := 127) rfl d_M_done_127
  refine r_split (fun cq7 => ?_) (fun cq7 => ?_)
  · refine r_tableIn (pc := 1) (tgt := 132) d_M_done_1 (by rw [cq7]; decide) (by rw [cq7]; decide) (by rw [cq7] <;> rfl) (by rfl) ?_
    refine r_iload_n (pc := 132) (i := 2) d_M_done_132 rfl rfl ?_
    refine r_if_ne (pc := 133) (tgt := 140) d_M_done_133 (by rfl) ?_ ?_
    · refine r_iload_n (pc := 140) (i := 1) d_M_done_140 rfl rfl ?_
      refine r_iload_n (pc := 141) (i := 2) d_M_done_141 rfl rfl ?_
      refine r_gz (fun zq8 => ?_)
      refine r_idivC (pc := 142) zq8 d_M_done_142 ?_
      exact r_iret (pc := 143) rfl d_M_done_143
    · refine r_iconst (pc := 136) (v := 0) d_M_done_136 (by rfl) ?_
      refine r_goto (pc := 137) (tgt := 143) d_M_done_137 (by rfl) ?_
      exact r_iret (pc := 143) rfl d_M_done_143
  refine r_split (fun cq9 => ?_) (fun cq9 => ?_)
  · refine r_tableIn (pc := 1) (tgt := 156) d_M_done_1 (by rw [cq9]; decide) (by rw [cq9]; decide) (by rw [cq9] <;> rfl) (by rfl) ?_
    refine r_iload_n (pc := 156) (i := 1) d_M_done_156 rfl rfl ?_
    refine r_iload_n (pc := 157) (i := 2) d_M_done_157 rfl rfl ?_
    refine r_icmp_ge (pc := 158) (tgt := 165) d_M_done_158 (by rfl) ?_ ?_
    · refine r_iconst (pc := 165) (v := 0) d_M_done_165 (by rfl) ?_
      exact r_wk (o_M_done_b166 hn (0 : Int32) h) trivial
    · refine r_iconst (pc := 161) (v := 1) d_M_done_161 (by rfl) ?_
      refine r_goto (pc := 162) (tgt := 166) d_M_done_162 (by rfl) ?_
      exact r_wk (o_M_done_b166 hn (1 : Int32) h) trivial
  refine r_split (fun cq10 => ?_) (fun cq10 => ?_)
  · refine r_tableIn (pc := 1) (tgt := 184) d_M_done_1 (by rw [cq10]; decide) (by rw [cq10]; decide) (by rw [cq10] <;> rfl) (by rfl) ?_
    refine r_iload_n (pc := 184) (i := 1) d_M_done_184 rfl rfl ?_
    refine r_iload_n (pc := 185) (i := 2) d_M_done_185 rfl rfl ?_
    refine r_icmp_ne (pc := 186) (tgt := 193) d_M_done_186 (by rfl) ?_ ?_
    · refine r_iconst (pc := 193) (v := 0) d_M_done_193 (by rfl) ?_
      exact r_wk (o_M_done_b194 hn (0 : Int32) h) trivial
    · refine r_iconst (pc := 189) (v := 1) d_M_done_189 (by rfl) ?_
      refine r_goto (pc := 190) (tgt := 194) d_M_done_190 (by rfl) ?_
      exact r_wk (o_M_done_b194 hn (1 : Int32) h) trivial
  refine r_split (fun cq11 => ?_) (fun cq11 => ?_)
  · refine r_tableIn (pc := 1) (tgt := 170) d_M_done_1 (by rw [cq11]; decide) (by rw [cq11]; decide) (by rw [cq11] <;> rfl) (by rfl) ?_
    refine r_iload_n (pc := 170) (i := 1) d_M_done_170 rfl rfl ?_
    refine r_iload_n (pc := 171) (i := 2) d_M_done_171 rfl rfl ?_
    refine r_icmp_le (pc := 172) (tgt := 179) d_M_done_172 (by rfl) ?_ ?_
    · refine r_iconst (pc := 179) (v := 0) d_M_done_179 (by rfl) ?_
      exact r_wk (o_M_done_b180 hn (0 : Int32) h) trivial
    · refine r_iconst (pc := 175) (v := 1) d_M_done_175 (by rfl) ?_
      refine r_goto (pc := 176) (tgt := 180) d_M_done_176 (by rfl) ?_
      exact r_wk (o_M_done_b180 hn (1 : Int32) h) trivial
  refine r_tableD (pc := 1) (tgt := 215) d_M_done_1 [37, 38, 42, 43, 45, 47, 60, 61, 62] (List.forall_mem_cons.mpr ⟨lv_neT cq1 (show ((37 : Int32)).toInt = 37 from rfl), List.forall_mem_cons.mpr ⟨lv_neT cq3 (show ((38 : Int32)).toInt = 38 from rfl), List.forall_mem_cons.mpr ⟨lv_neT cq4 (show ((42 : Int32)).toInt = 42 from rfl), List.forall_mem_cons.mpr ⟨lv_neT cq5 (show ((43 : Int32)).toInt = 43 from rfl), List.forall_mem_cons.mpr ⟨lv_neT cq6 (show ((45 : Int32)).toInt = 45 from rfl), List.forall_mem_cons.mpr ⟨lv_neT cq7 (show ((47 : Int32)).toInt = 47 from rfl), List.forall_mem_cons.mpr ⟨lv_neT cq9 (show ((60 : Int32)).toInt = 60 from rfl), List.forall_mem_cons.mpr ⟨lv_neT cq10 (show ((61 : Int32)).toInt = 61 from rfl), List.forall_mem_cons.mpr ⟨lv_neT cq11 (show ((62 : Int32)).toInt = 62 from rfl), List.forall_mem_nil _⟩⟩⟩⟩⟩⟩⟩⟩⟩) (by decide) (by rfl) ?_
  refine r_iload_n (pc := 215) (i := 1) d_M_done_215 rfl rfl ?_
  refine r_if_ne (pc := 216) (tgt := 223) d_M_done_216 (by rfl) ?_ ?_
  · exact r_wk (o_M_done_b223 hn h) trivial
  · refine r_iload_n (pc := 219) (i := 2) d_M_done_219 rfl rfl ?_
    refine r_if_eq (pc := 220) (tgt := 227) d_M_done_220 (by rfl) ?_ ?_
    · refine r_iconst (pc := 227) (v := 0) d_M_done_227 (by rfl) ?_
      exact r_wk (o_M_done_b228 hn (0 : Int32) h) trivial
    · exact r_wk (o_M_done_b223 hn h) trivial

def f_M_worked_b132  (a1 : Int32) (a2 : Int32) (k16 : Int32 → Int32 → AH → Option (Int32 × AH)) (x3 : Int32) (x4 : Int32) (v1 : Int32) (v2 : Int32) (h : AH) : Option (Int32 × AH) :=
  bI (f_M_truth v2 h) fun rq1 hq2 =>
  gx v1 64 <|
  lt (sI hq2 393 (ix v1) rq1) fun hq4 =>
  lt (x4 + (1 : Int32)) fun xq5 =>
  k16 x3 xq5 hq4
set_option maxHeartbeats 2000000 in
theorem o_M_worked_b132 {G : AE} {n : Nat} (hn : NN ≤ n)  {a1 : Int32} {a2 : Int32}  {k16 : Int32 → Int32 → AH → Option (Int32 × AH)} (hk16 : ∀ (x3 : Int32) (x4 : Int32) (h : AH), AJ G n y_M_worked (3) φI 16 [some (.ref 383), some (.int a1), none, some (.int x3), some (.int x4)] [] h (k16 x3 x4 h)) : ∀ (x3 : Int32) (x4 : Int32) (v1 : Int32) (v2 : Int32) (h : AH), AJ G n y_M_worked (3) φI 132 [some (.ref 383), some (.int a1), none, some (.int x3), some (.int x4)] [.int v2, .int v1, .ref 393] h (f_M_worked_b132 a1 a2 k16 x3 x4 v1 v2 h) := by
  intro x3 x4 v1 v2 h
  rw [f_M_worked_b132]
  refine r_cSi (pc := 132) (st := [.int v1, .ref 393]) (ok_M_truth hn v2 h) w_1490 w_13 w_1488 w_1489 hy_M_truth ⟨Nat.le_of_ble_eq_true rfl, Nat.le_of_ble_eq_true rfl⟩ ⟨Nat.le_of_ble_eq_true rfl, Nat.le_of_ble_eq_true rfl⟩ rfl (Nat.le_of_ble_eq_true rfl) d_M_worked_132 (fun rq1 hq2 => ?_)
  refine r_gx (fun zq3 => ?_)
  refine r_iast (pc := 135) (n := 64) (i0 := (ix v1)) (fun s => Std.k s (lc hn rfl) kq_393) zq3 rfl (fun s => Std.sI s _ _ _) d_M_worked_135 ?_
  refine r_ltH (fun hq4 => ?_)
  refine r_goto (pc := 136) (tgt := 174) d_M_worked_136 (by rfl) ?_
  refine r_ltE (fun xq5 exq5 => ?_)
  refine r_iinc (pc := 174) (v := xq5) (lv1 := [some (.ref 383), some (.int a1), none, some (.int x3), some (.int xq5)]) d_M_worked_174 rfl exq5.symm (Nat.le_of_ble_eq_true rfl) rfl ?_
  refine r_goto (pc := 177) (tgt := 16) d_M_worked_177 (by rfl) ?_
  exact r_wk (hk16 x3 xq5 hq4) ⟨rfl, ⟨rfl, ⟨rfl, ⟨rfl, trivial⟩⟩⟩⟩
def f_M_worked_b91  (a1 : Int32) (a2 : Int32) (k16 : Int32 → Int32 → AH → Option (Int32 × AH)) (x3 : Int32) (x4 : Int32) (v1 : Int32) (v2 : Int32) (h : AH) : Option (Int32 × AH) :=
  gx v1 64 <|
  lt (sI h 393 (ix v1) v2) fun hq2 =>
  lt (x3 + (1 : Int32)) fun xq3 =>
  lt (x4 + (1 : Int32)) fun xq4 =>
  k16 xq3 xq4 hq2
set_option maxHeartbeats 2000000 in
theorem o_M_worked_b91 {G : AE} {n : Nat} (hn : NN ≤ n)  {a1 : Int32} {a2 : Int32}  {k16 : Int32 → Int32 → AH → Option (Int32 × AH)} (hk16 : ∀ (x3 : Int32) (x4 : Int32) (h : AH), AJ G n y_M_worked (3) φI 16 [some (.ref 383), some (.int a1), none, some (.int x3), some (.int x4)] [] h (k16 x3 x4 h)) : ∀ (x3 : Int32) (x4 : Int32) (v1 : Int32) (v2 : Int32) (h : AH), AJ G n y_M_worked (3) φI 91 [some (.ref 383), some (.int a1), none, some (.int x3), some (.int x4)] [.int v2, .int v1, .ref 393] h (f_M_worked_b91 a1 a2 k16 x3 x4 v1 v2 h) := by
  intro x3 x4 v1 v2 h
  rw [f_M_worked_b91]
  refine r_gx (fun zq1 => ?_)
  refine r_iast (pc := 91) (n := 64) (i0 := (ix v1)) (fun s => Std.k s (lc hn rfl) kq_393) zq1 rfl (fun s => Std.sI s _ _ _) d_M_worked_91 ?_
  refine r_ltH (fun hq2 => ?_)
  refine r_ltE (fun xq3 exq3 => ?_)
  refine r_iinc (pc := 92) (v := xq3) (lv1 := [some (.ref 383), some (.int a1), none, some (.int xq3), some (.int x4)]) d_M_worked_92 rfl exq3.symm (Nat.le_of_ble_eq_true rfl) rfl ?_
  refine r_goto (pc := 95) (tgt := 174) d_M_worked_95 (by rfl) ?_
  refine r_ltE (fun xq4 exq4 => ?_)
  refine r_iinc (pc := 174) (v := xq4) (lv1 := [some (.ref 383), some (.int a1), none, some (.int xq3), some (.int xq4)]) d_M_worked_174 rfl exq4.symm (Nat.le_of_ble_eq_true rfl) rfl ?_
  refine r_goto (pc := 177) (tgt := 16) d_M_worked_177 (by rfl) ?_
  exact r_wk (hk16 xq3 xq4 hq2) ⟨rfl, ⟨rfl, ⟨rfl, ⟨rfl, trivial⟩⟩⟩⟩
def f_M_worked_b54  (a1 : Int32) (a2 : Int32) (k16 : Int32 → Int32 → AH → Option (Int32 × AH)) (x3 : Int32) (x4 : Int32) (h : AH) : Option (Int32 × AH) :=
  gx x4 640 <|
  if ¬ (hI h 389 (ix x4)) = 0 then
    gx x4 640 <|
    gx (hI h 390 (ix x4)) 6 <|
    f_M_worked_b91 a1 a2 k16 x3 x4 x3 (hI h 395 (ix (hI h 390 (ix x4)))) h
  else
    gx x4 640 <|
    f_M_worked_b91 a1 a2 k16 x3 x4 x3 (hI h 390 (ix x4)) h
set_option maxHeartbeats 2000000 in
theorem o_M_worked_b54 {G : AE} {n : Nat} (hn : NN ≤ n)  {a1 : Int32} {a2 : Int32}  {k16 : Int32 → Int32 → AH → Option (Int32 × AH)} (hk16 : ∀ (x3 : Int32) (x4 : Int32) (h : AH), AJ G n y_M_worked (3) φI 16 [some (.ref 383), some (.int a1), none, some (.int x3), some (.int x4)] [] h (k16 x3 x4 h)) : ∀ (x3 : Int32) (x4 : Int32) (h : AH), AJ G n y_M_worked (3) φI 54 [some (.ref 383), some (.int a1), none, some (.int x3), some (.int x4)] [] h (f_M_worked_b54 a1 a2 k16 x3 x4 h) := by
  intro x3 x4 h
  rw [f_M_worked_b54]
  refine r_aload_n (pc := 54) (i := 0) d_M_worked_54 rfl rfl ?_
  refine r_getf (pc := 55) (ci := 12) (k := 18) (C := "CricketHayModel") (T := F_12) (N := 73) (v := .ref 393) (fun s => Std.k s (lc hn rfl) kq_383) rfl (Nat.le_of_ble_eq_true rfl) rfl w_1104 (fun s => vr rfl (Std.r s (lc hn rfl) rq_383_18)) d_M_worked_55 ?_
  refine r_iload_n (pc := 58) (i := 3) d_M_worked_58 rfl rfl ?_
  refine r_aload_n (pc := 59) (i := 0) d_M_worked_59 rfl rfl ?_
  refine r_getf (pc := 60) (ci := 12) (k := 14) (C := "CricketHayModel") (T := F_12) (N := 73) (v := .ref 389) (fun s => Std.k s (lc hn rfl) kq_383) rfl (Nat.le_of_ble_eq_true rfl) rfl w_1100 (fun s => vr rfl (Std.r s (lc hn rfl) rq_383_14)) d_M_worked_60 ?_
  refine r_iload (pc := 63) d_M_worked_63 rfl ?_
  refine r_gx (fun zq1 => ?_)
  refine r_iald (pc := 65) (n := 640) (i0 := (ix x4)) (fun s => Std.k s (lc hn rfl) kq_389) zq1 rfl d_M_worked_65 ?_
  refine r_if_ne (pc := 66) (tgt := 79) d_M_worked_66 (by rfl) ?_ ?_
  · refine r_aload_n (pc := 79) (i := 0) d_M_worked_79 rfl rfl ?_
    refine r_getf (pc := 80) (ci := 12) (k := 26) (C := "CricketHayModel") (T := F_12) (N := 73) (v := .ref 395) (fun s => Std.k s (lc hn rfl) kq_383) rfl (Nat.le_of_ble_eq_true rfl) rfl w_1112 (fun s => vr rfl (Std.r s (lc hn rfl) rq_383_26)) d_M_worked_80 ?_
    refine r_aload_n (pc := 83) (i := 0) d_M_worked_83 rfl rfl ?_
    refine r_getf (pc := 84) (ci := 12) (k := 15) (C := "CricketHayModel") (T := F_12) (N := 73) (v := .ref 390) (fun s => Std.k s (lc hn rfl) kq_383) rfl (Nat.le_of_ble_eq_true rfl) rfl w_1101 (fun s => vr rfl (Std.r s (lc hn rfl) rq_383_15)) d_M_worked_84 ?_
    refine r_iload (pc := 87) d_M_worked_87 rfl ?_
    refine r_gx (fun zq2 => ?_)
    refine r_iald (pc := 89) (n := 640) (i0 := (ix x4)) (fun s => Std.k s (lc hn rfl) kq_390) zq2 rfl d_M_worked_89 ?_
    refine r_gx (fun zq3 => ?_)
    refine r_iald (pc := 90) (n := 6) (i0 := (ix (hI h 390 (ix x4)))) (fun s => Std.k s (lc hn rfl) kq_395) zq3 rfl d_M_worked_90 ?_
    exact r_wk (o_M_worked_b91 hn hk16 x3 x4 x3 (hI h 395 (ix (hI h 390 (ix x4)))) h) ⟨rfl, ⟨rfl, ⟨rfl, ⟨rfl, trivial⟩⟩⟩⟩
  · refine r_aload_n (pc := 69) (i := 0) d_M_worked_69 rfl rfl ?_
    refine r_getf (pc := 70) (ci := 12) (k := 15) (C := "CricketHayModel") (T := F_12) (N := 73) (v := .ref 390) (fun s => Std.k s (lc hn rfl) kq_383) rfl (Nat.le_of_ble_eq_true rfl) rfl w_1101 (fun s => vr rfl (Std.r s (lc hn rfl) rq_383_15)) d_M_worked_70 ?_
    refine r_iload (pc := 73) d_M_worked_73 rfl ?_
    refine r_gx (fun zq4 => ?_)
    refine r_iald (pc := 75) (n := 640) (i0 := (ix x4)) (fun s => Std.k s (lc hn rfl) kq_390) zq4 rfl d_M_worked_75 ?_
    refine r_goto (pc := 76) (tgt := 91) d_M_worked_76 (by rfl) ?_
    exact r_wk (o_M_worked_b91 hn hk16 x3 x4 x3 (hI h 390 (ix x4)) h) ⟨rfl, ⟨rfl, ⟨rfl, ⟨rfl, trivial⟩⟩⟩⟩
def f_M_worked_l16  (a1 : Int32) (a2 : Int32)  : Nat → Int32 → Int32 → AH → Option (Int32 × AH)
  | 0, _, _, _ => none
  | n + 1, x3, x4, h =>
    gx a1 2 <|
    if (((320 : Int32) * a1) + (hI h 391 (ix a1))) ≤ x4 then
      some ((hI h 393 0), h)
    else
      gx x4 640 <|
      if (hI h 389 (ix x4)) = 0 then
        f_M_worked_b54 a1 a2 (f_M_worked_l16 a1 a2 n) x3 x4 h
      else
        gx x4 640 <|
        if ¬ (hI h 389 (ix x4)) = (1 : Int32) then
          gx x4 640 <|
          if ¬ (hI h 389 (ix x4)) = (2 : Int32) then
            lt (x3 + (-1 : Int32)) fun xq5 =>
            gx x4 640 <|
            gx (xq5 - (1 : Int32)) 64 <|
            gx xq5 64 <|
            bI (f_M_done (hI h 390 (ix x4)) (hI h 393 (ix (xq5 - (1 : Int32)))) (hI h 393 (ix xq5)) h) fun rq9 hq10 =>
            gx (xq5 - (1 : Int32)) 64 <|
            lt (sI hq10 393 (ix (xq5 - (1 : Int32))) rq9) fun hq12 =>
            lt (x4 + (1 : Int32)) fun xq13 =>
            f_M_worked_l16 a1 a2 n xq5 xq13 hq12
          else
            gx (x3 - (1 : Int32)) 64 <|
            if ¬ (hI h 393 (ix (x3 - (1 : Int32)))) = 0 then
              f_M_worked_b132 a1 a2 (f_M_worked_l16 a1 a2 n) x3 x4 (x3 - (1 : Int32)) (0 : Int32) h
            else
              f_M_worked_b132 a1 a2 (f_M_worked_l16 a1 a2 n) x3 x4 (x3 - (1 : Int32)) (1 : Int32) h
        else
          f_M_worked_b54 a1 a2 (f_M_worked_l16 a1 a2 n) x3 x4 h
set_option maxHeartbeats 2000000 in
theorem o_M_worked_l16 {G : AE} {n : Nat} (hn : NN ≤ n)  {a1 : Int32} {a2 : Int32}   : ∀ (n0 : Nat) (x3 : Int32) (x4 : Int32) (h : AH), AJ G n y_M_worked (3) φI 16 [some (.ref 383), some (.int a1), none, some (.int x3), some (.int x4)] [] h (f_M_worked_l16 a1 a2 n0 x3 x4 h) := by
  intro n0
  induction n0 with
  | zero => intros; exact r_none
  | succ n0 ih =>
    intro x3 x4 h
    rw [f_M_worked_l16]
    refine r_iload (pc := 16) d_M_worked_16 rfl ?_
    refine r_sipush (pc := 18) (v := 320) d_M_worked_18 (by rfl) ?_
    refine r_iload_n (pc := 21) (i := 1) d_M_worked_21 rfl rfl ?_
    refine r_imul (pc := 22) d_M_worked_22 ?_
    refine r_aload_n (pc := 23) (i := 0) d_M_worked_23 rfl rfl ?_
    refine r_getf (pc := 24) (ci := 12) (k := 16) (C := "CricketHayModel") (T := F_12) (N := 73) (v := .ref 391) (fun s => Std.k s (lc hn rfl) kq_383) rfl (Nat.le_of_ble_eq_true rfl) rfl w_1102 (fun s => vr rfl (Std.r s (lc hn rfl) rq_383_16)) d_M_worked_24 ?_
    refine r_iload_n (pc := 27) (i := 1) d_M_worked_27 rfl rfl ?_
    refine r_gx (fun zq1 => ?_)
    refine r_iald (pc := 28) (n := 2) (i0 := (ix a1)) (fun s => Std.k s (lc hn rfl) kq_391) zq1 rfl d_M_worked_28 ?_
    refine r_iadd (pc := 29) d_M_worked_29 ?_
    refine r_icmp_ge (pc := 30) (tgt := 180) d_M_worked_30 (by rfl) ?_ ?_
    · refine r_aload_n (pc := 180) (i := 0) d_M_worked_180 rfl rfl ?_
      refine r_getf (pc := 181) (ci := 12) (k := 18) (C := "CricketHayModel") (T := F_12) (N := 73) (v := .ref 393) (fun s => Std.k s (lc hn rfl) kq_383) rfl (Nat.le_of_ble_eq_true rfl) rfl w_1104 (fun s => vr rfl (Std.r s (lc hn rfl) rq_383_18)) d_M_worked_181 ?_
      refine r_iconst (pc := 184) (v := 0) d_M_worked_184 (by rfl) ?_
      refine r_iald (pc := 185) (n := 64) (i0 := 0) (fun s => Std.k s (lc hn rfl) kq_393) (vin (k := 0) rfl rfl) rfl d_M_worked_185 ?_
      exact r_iret (pc := 186) rfl d_M_worked_186
    · refine r_aload_n (pc := 33) (i := 0) d_M_worked_33 rfl rfl ?_
      refine r_getf (pc := 34) (ci := 12) (k := 14) (C := "CricketHayModel") (T := F_12) (N := 73) (v := .ref 389) (fun s => Std.k s (lc hn rfl) kq_383) rfl (Nat.le_of_ble_eq_true rfl) rfl w_1100 (fun s => vr rfl (Std.r s (lc hn rfl) rq_383_14)) d_M_worked_34 ?_
      refine r_iload (pc := 37) d_M_worked_37 rfl ?_
      refine r_gx (fun zq2 => ?_)
      refine r_iald (pc := 39) (n := 640) (i0 := (ix x4)) (fun s => Std.k s (lc hn rfl) kq_389) zq2 rfl d_M_worked_39 ?_
      refine r_if_eq (pc := 40) (tgt := 54) d_M_worked_40 (by rfl) ?_ ?_
      · exact r_wk (o_M_worked_b54 hn ih x3 x4 h) ⟨rfl, ⟨rfl, ⟨rfl, ⟨rfl, trivial⟩⟩⟩⟩
      · refine r_aload_n (pc := 43) (i := 0) d_M_worked_43 rfl rfl ?_
        refine r_getf (pc := 44) (ci := 12) (k := 14) (C := "CricketHayModel") (T := F_12) (N := 73) (v := .ref 389) (fun s => Std.k s (lc hn rfl) kq_383) rfl (Nat.le_of_ble_eq_true rfl) rfl w_1100 (fun s => vr rfl (Std.r s (lc hn rfl) rq_383_14)) d_M_worked_44 ?_
        refine r_iload (pc := 47) d_M_worked_47 rfl ?_
        refine r_gx (fun zq3 => ?_)
        refine r_iald (pc := 49) (n := 640) (i0 := (ix x4)) (fun s => Std.k s (lc hn rfl) kq_389) zq3 rfl d_M_worked_49 ?_
        refine r_iconst (pc := 50) (v := 1) d_M_worked_50 (by rfl) ?_
        refine r_icmp_ne (pc := 51) (tgt := 98) d_M_worked_51 (by rfl) ?_ ?_
        · refine r_aload_n (pc := 98) (i := 0) d_M_worked_98 rfl rfl ?_
          refine r_getf (pc := 99) (ci := 12) (k := 14) (C := "CricketHayModel") (T := F_12) (N := 73) (v := .ref 389) (fun s => Std.k s (lc hn rfl) kq_383) rfl (Nat.le_of_ble_eq_true rfl) rfl w_1100 (fun s => vr rfl (Std.r s (lc hn rfl) rq_383_14)) d_M_worked_99 ?_
          refine r_iload (pc := 102) d_M_worked_102 rfl ?_
          refine r_gx (fun zq4 => ?_)
          refine r_iald (pc := 104) (n := 640) (i0 := (ix x4)) (fun s => Std.k s (lc hn rfl) kq_389) zq4 rfl d_M_worked_104 ?_
          refine r_iconst (pc := 105) (v := 2) d_M_worked_105 (by rfl) ?_
          refine r_icmp_ne (pc := 106) (tgt := 139) d_M_worked_106 (by rfl) ?_ ?_
          · refine r_ltE (fun xq5 exq5 => ?_)
            refine r_iinc (pc := 139) (v := xq5) (lv1 := [some (.ref 383), some (.int a1), none, some (.int xq5), some (.int x4)]) d_M_worked_139 rfl exq5.symm (Nat.le_of_ble_eq_true rfl) rfl ?_
            refine r_aload_n (pc := 142) (i := 0) d_M_worked_142 rfl rfl ?_
            refine r_getf (pc := 143) (ci := 12) (k := 18) (C := "CricketHayModel") (T := F_12) (N := 73) (v := .ref 393) (fun s => Std.k s (lc hn rfl) kq_383) rfl (Nat.le_of_ble_eq_true rfl) rfl w_1104 (fun s => vr rfl (Std.r s (lc hn rfl) rq_383_18)) d_M_worked_143 ?_
            refine r_iload_n (pc := 146) (i := 3) d_M_worked_146 rfl rfl ?_
            refine r_iconst (pc := 147) (v := 1) d_M_worked_147 (by rfl) ?_
            refine r_isub (pc := 148) d_M_worked_148 ?_
            refine r_aload_n (pc := 149) (i := 0) d_M_worked_149 rfl rfl ?_
            refine r_getf (pc := 150) (ci := 12) (k := 15) (C := "CricketHayModel") (T := F_12) (N := 73) (v := .ref 390) (fun s => Std.k s (lc hn rfl) kq_383) rfl (Nat.le_of_ble_eq_true rfl) rfl w_1101 (fun s => vr rfl (Std.r s (lc hn rfl) rq_383_15)) d_M_worked_150 ?_
            refine r_iload (pc := 153) d_M_worked_153 rfl ?_
            refine r_gx (fun zq6 => ?_)
            refine r_iald (pc := 155) (n := 640) (i0 := (ix x4)) (fun s => Std.k s (lc hn rfl) kq_390) zq6 rfl d_M_worked_155 ?_
            refine r_aload_n (pc := 156) (i := 0) d_M_worked_156 rfl rfl ?_
            refine r_getf (pc := 157) (ci := 12) (k := 18) (C := "CricketHayModel") (T := F_12) (N := 73) (v := .ref 393) (fun s => Std.k s (lc hn rfl) kq_383) rfl (Nat.le_of_ble_eq_true rfl) rfl w_1104 (fun s => vr rfl (Std.r s (lc hn rfl) rq_383_18)) d_M_worked_157 ?_
            refine r_iload_n (pc := 160) (i := 3) d_M_worked_160 rfl rfl ?_
            refine r_iconst (pc := 161) (v := 1) d_M_worked_161 (by rfl) ?_
            refine r_isub (pc := 162) d_M_worked_162 ?_
            refine r_gx (fun zq7 => ?_)
            refine r_iald (pc := 163) (n := 64) (i0 := (ix (xq5 - (1 : Int32)))) (fun s => Std.k s (lc hn rfl) kq_393) zq7 rfl d_M_worked_163 ?_
            refine r_aload_n (pc := 164) (i := 0) d_M_worked_164 rfl rfl ?_
            refine r_getf (pc := 165) (ci := 12) (k := 18) (C := "CricketHayModel") (T := F_12) (N := 73) (v := .ref 393) (fun s => Std.k s (lc hn rfl) kq_383) rfl (Nat.le_of_ble_eq_true rfl) rfl w_1104 (fun s => vr rfl (Std.r s (lc hn rfl) rq_383_18)) d_M_worked_165 ?_
            refine r_iload_n (pc := 168) (i := 3) d_M_worked_168 rfl rfl ?_
            refine r_gx (fun zq8 => ?_)
            refine r_iald (pc := 169) (n := 64) (i0 := (ix xq5)) (fun s => Std.k s (lc hn rfl) kq_393) zq8 rfl d_M_worked_169 ?_
            refine r_cSi (pc := 170) (st := [.int (xq5 - (1 : Int32)), .ref 393]) (ok_M_done hn (hI h 390 (ix x4)) (hI h 393 (ix (xq5 - (1 : Int32)))) (hI h 393 (ix xq5)) h) w_1509 w_13 w_1507 w_1508 hy_M_done ⟨Nat.le_of_ble_eq_true rfl, Nat.le_of_ble_eq_true rfl⟩ ⟨Nat.le_of_ble_eq_true rfl, Nat.le_of_ble_eq_true rfl⟩ rfl (Nat.le_of_ble_eq_true rfl) d_M_worked_170 (fun rq9 hq10 => ?_)
            refine r_gx (fun zq11 => ?_)
            refine r_iast (pc := 173) (n := 64) (i0 := (ix (xq5 - (1 : Int32)))) (fun s => Std.k s (lc hn rfl) kq_393) zq11 rfl (fun s => Std.sI s _ _ _) d_M_worked_173 ?_
            refine r_ltH (fun hq12 => ?_)
            refine r_ltE (fun xq13 exq13 => ?_)
            refine r_iinc (pc := 174) (v := xq13) (lv1 := [some (.ref 383), some (.int a1), none, some (.int xq5), some (.int xq13)]) d_M_worked_174 rfl exq13.symm (Nat.le_of_ble_eq_true rfl) rfl ?_
            refine r_goto (pc := 177) (tgt := 16) d_M_worked_177 (by rfl) ?_
            exact r_wk (ih xq5 xq13 hq12) ⟨rfl, ⟨rfl, ⟨rfl, ⟨rfl, trivial⟩⟩⟩⟩
          · refine r_aload_n (pc := 109) (i := 0) d_M_worked_109 rfl rfl ?_
            refine r_getf (pc := 110) (ci := 12) (k := 18) (C := "CricketHayModel") (T := F_12) (N := 73) (v := .ref 393) (fun s => Std.k s (lc hn rfl) kq_383) rfl (Nat.le_of_ble_eq_true rfl) rfl w_1104 (fun s => vr rfl (Std.r s (lc hn rfl) rq_383_18)) d_M_worked_110 ?_
            refine r_iload_n (pc := 113) (i := 3) d_M_worked_113 rfl rfl ?_
            refine r_iconst (pc := 114) (v := 1) d_M_worked_114 (by rfl) ?_
            refine r_isub (pc := 115) d_M_worked_115 ?_
            refine r_aload_n (pc := 116) (i := 0) d_M_worked_116 rfl rfl ?_
            refine r_getf (pc := 117) (ci := 12) (k := 18) (C := "CricketHayModel") (T := F_12) (N := 73) (v := .ref 393) (fun s => Std.k s (lc hn rfl) kq_383) rfl (Nat.le_of_ble_eq_true rfl) rfl w_1104 (fun s => vr rfl (Std.r s (lc hn rfl) rq_383_18)) d_M_worked_117 ?_
            refine r_iload_n (pc := 120) (i := 3) d_M_worked_120 rfl rfl ?_
            refine r_iconst (pc := 121) (v := 1) d_M_worked_121 (by rfl) ?_
            refine r_isub (pc := 122) d_M_worked_122 ?_
            refine r_gx (fun zq14 => ?_)
            refine r_iald (pc := 123) (n := 64) (i0 := (ix (x3 - (1 : Int32)))) (fun s => Std.k s (lc hn rfl) kq_393) zq14 rfl d_M_worked_123 ?_
            refine r_if_ne (pc := 124) (tgt := 131) d_M_worked_124 (by rfl) ?_ ?_
            · refine r_iconst (pc := 131) (v := 0) d_M_worked_131 (by rfl) ?_
              exact r_wk (o_M_worked_b132 hn ih x3 x4 (x3 - (1 : Int32)) (0 : Int32) h) ⟨rfl, ⟨rfl, ⟨rfl, ⟨rfl, trivial⟩⟩⟩⟩
            · refine r_iconst (pc := 127) (v := 1) d_M_worked_127 (by rfl) ?_
              refine r_goto (pc := 128) (tgt := 132) d_M_worked_128 (by rfl) ?_
              exact r_wk (o_M_worked_b132 hn ih x3 x4 (x3 - (1 : Int32)) (1 : Int32) h) ⟨rfl, ⟨rfl, ⟨rfl, ⟨rfl, trivial⟩⟩⟩⟩
        · exact r_wk (o_M_worked_b54 hn ih x3 x4 h) ⟨rfl, ⟨rfl, ⟨rfl, ⟨rfl, trivial⟩⟩⟩⟩
def f_M_worked  (a1 : Int32) (a2 : Int32) (h : AH) : Option (Int32 × AH) :=
  lt (sI h 393 0 a2) fun hq1 =>
  lt ((320 : Int32) * a1) fun xq2 =>
  f_M_worked_l16 a1 a2 FU (0 : Int32) xq2 hq1
set_option maxHeartbeats 2000000 in
theorem ok_M_worked {G : AE} {n : Nat} (hn : NN ≤ n)  (a1 : Int32) (a2 : Int32) (h : AH) : OK G n y_M_worked (3) φI [.ref 383, .int a1, .int a2] h (f_M_worked a1 a2 h) := by
  refine ok_of (y := y_M_worked) (lv0 := [some (.ref 383), some (.int a1), some (.int a2), none, none]) (by decide +kernel) (Nat.le_of_ble_eq_true rfl) ⟨rfl, ⟨rfl, ⟨rfl, trivial⟩⟩⟩ ?_
  rw [f_M_worked]
  refine r_iconst (pc := 0) (v := 0) d_M_worked_0 (by rfl) ?_
  refine r_istore_n (pc := 1) (i := 3) (lv1 := [some (.ref 383), some (.int a1), some (.int a2), some (.int (0 : Int32)), none]) d_M_worked_1 rfl (Nat.le_of_ble_eq_true rfl) rfl ?_
  refine r_aload_n (pc := 2) (i := 0) d_M_worked_2 rfl rfl ?_
  refine r_getf (pc := 3) (ci := 12) (k := 18) (C := "CricketHayModel") (T := F_12) (N := 73) (v := .ref 393) (fun s => Std.k s (lc hn rfl) kq_383) rfl (Nat.le_of_ble_eq_true rfl) rfl w_1104 (fun s => vr rfl (Std.r s (lc hn rfl) rq_383_18)) d_M_worked_3 ?_
  refine r_iconst (pc := 6) (v := 0) d_M_worked_6 (by rfl) ?_
  refine r_iload_n (pc := 7) (i := 2) d_M_worked_7 rfl rfl ?_
  refine r_iast (pc := 8) (n := 64) (i0 := 0) (fun s => Std.k s (lc hn rfl) kq_393) (vin (k := 0) rfl rfl) rfl (fun s => Std.sI s _ _ _) d_M_worked_8 ?_
  refine r_ltH (fun hq1 => ?_)
  refine r_sipush (pc := 9) (v := 320) d_M_worked_9 (by rfl) ?_
  refine r_iload_n (pc := 12) (i := 1) d_M_worked_12 rfl rfl ?_
  refine r_imul (pc := 13) d_M_worked_13 ?_
  refine r_ltI (fun xq2 => ?_)
  refine r_istore (pc := 14) (lv1 := [some (.ref 383), some (.int a1), some (.int a2), some (.int (0 : Int32)), some (.int xq2)]) d_M_worked_14 (Nat.le_of_ble_eq_true rfl) rfl ?_
  exact r_wk (o_M_worked_l16 hn FU (0 : Int32) xq2 hq1) ⟨rfl, ⟨rfl, ⟨rfl, ⟨rfl, trivial⟩⟩⟩⟩
