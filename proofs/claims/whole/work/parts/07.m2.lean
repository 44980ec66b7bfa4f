theorem w_1109 : Cond.fieldLink "CricketHayModel" 366 "CricketHayModel" "units" "I" ∈ lw_good := q_t 1109 (by decide +kernel) rfl
theorem w_1113 : Cond.fieldLink "CricketHayModel" 52 "CricketHayModel" "nKindOf" "[I" ∈ lw_good := q_t 1113 (by decide +kernel) rfl
theorem w_1114 : Cond.fieldLink "CricketHayModel" 55 "CricketHayModel" "nSong" "[I" ∈ lw_good := q_t 1114 (by decide +kernel) rfl
theorem w_1115 : Cond.fieldLink "CricketHayModel" 58 "CricketHayModel" "nAge" "[I" ∈ lw_good := q_t 1115 (by decide +kernel) rfl
theorem w_1116 : Cond.fieldLink "CricketHayModel" 61 "CricketHayModel" "nGold" "[I" ∈ lw_good := q_t 1116 (by decide +kernel) rfl
theorem w_1117 : Cond.fieldLink "CricketHayModel" 64 "CricketHayModel" "nLoads" "[I" ∈ lw_good := q_t 1117 (by decide +kernel) rfl
theorem w_1118 : Cond.fieldLink "CricketHayModel" 67 "CricketHayModel" "nNeeds" "[I" ∈ lw_good := q_t 1118 (by decide +kernel) rfl
theorem w_1119 : Cond.fieldLink "CricketHayModel" 70 "CricketHayModel" "kindOf" "[I" ∈ lw_good := q_t 1119 (by decide +kernel) rfl
theorem w_1120 : Cond.fieldLink "CricketHayModel" 73 "CricketHayModel" "songOf" "[I" ∈ lw_good := q_t 1120 (by decide +kernel) rfl
theorem w_1121 : Cond.fieldLink "CricketHayModel" 76 "CricketHayModel" "needs" "[I" ∈ lw_good := q_t 1121 (by decide +kernel) rfl
theorem w_1122 : Cond.fieldLink "CricketHayModel" 307 "CricketHayModel" "nKinds" "I" ∈ lw_good := q_t 1122 (by decide +kernel) rfl
theorem w_1123 : Cond.fieldLink "CricketHayModel" 313 "CricketHayModel" "nDealers" "I" ∈ lw_good := q_t 1123 (by decide +kernel) rfl
theorem w_1124 : Cond.fieldLink "CricketHayModel" 333 "CricketHayModel" "nSnap" "I" ∈ lw_good := q_t 1124 (by decide +kernel) rfl
theorem w_1125 : Cond.fieldLink "CricketHayModel" 336 "CricketHayModel" "nSnapOf" "I" ∈ lw_good := q_t 1125 (by decide +kernel) rfl
theorem w_1126 : Cond.fieldLink "CricketHayModel" 342 "CricketHayModel" "nCart" "I" ∈ lw_good := q_t 1126 (by decide +kernel) rfl
theorem w_1127 : Cond.fieldLink "CricketHayModel" 348 "CricketHayModel" "nDraw" "I" ∈ lw_good := q_t 1127 (by decide +kernel) rfl
theorem w_1128 : Cond.fieldLink "CricketHayModel" 357 "CricketHayModel" "kinds" "I" ∈ lw_good := q_t 1128 (by decide +kernel) rfl
theorem w_1129 : Cond.fieldLink "CricketHayModel" 360 "CricketHayModel" "dealers" "I" ∈ lw_good := q_t 1129 (by decide +kernel) rfl
theorem w_1130 : Cond.fieldLink "CricketHayModel" 363 "CricketHayModel" "snap" "I" ∈ lw_good := q_t 1130 (by decide +kernel) rfl
theorem w_1131 : Cond.fieldLink "CricketHayModel" 79 "CricketHayModel" "snapOf" "I" ∈ lw_good := q_t 1131 (by decide +kernel) rfl
theorem w_1132 : Cond.fieldLink "CricketHayModel" 82 "CricketHayModel" "cart" "I" ∈ lw_good := q_t 1132 (by decide +kernel) rfl
theorem w_1133 : Cond.fieldLink "CricketHayModel" 329 "CricketHayModel" "nHasSnap" "Z" ∈ lw_good := q_t 1133 (by decide +kernel) rfl
theorem w_1134 : Cond.fieldLink "CricketHayModel" 339 "CricketHayModel" "nHasCart" "Z" ∈ lw_good := q_t 1134 (by decide +kernel) rfl
theorem w_1135 : Cond.fieldLink "CricketHayModel" 345 "CricketHayModel" "nHasDraw" "Z" ∈ lw_good := q_t 1135 (by decide +kernel) rfl
theorem w_1136 : Cond.fieldLink "CricketHayModel" 85 "CricketHayModel" "now" "[I" ∈ lw_good := q_t 1136 (by decide +kernel) rfl
theorem w_1137 : Cond.fieldLink "CricketHayModel" 88 "CricketHayModel" "air" "[I" ∈ lw_good := q_t 1137 (by decide +kernel) rfl
theorem w_1138 : Cond.fieldLink "CricketHayModel" 91 "CricketHayModel" "were" "[I" ∈ lw_good := q_t 1138 (by decide +kernel) rfl
theorem w_1139 : Cond.fieldLink "CricketHayModel" 369 "CricketHayModel" "acts" "I" ∈ lw_good := q_t 1139 (by decide +kernel) rfl
theorem w_1140 : Cond.fieldLink "CricketHayModel" 372 "CricketHayModel" "undone" "I" ∈ lw_good := q_t 1140 (by decide +kernel) rfl
theorem w_1143 : Cond.fieldLink "CricketHayModel" 378 "CricketHayModel" "lain" "I" ∈ lw_good := q_t 1143 (by decide +kernel) rfl
theorem w_1154 : Cond.fieldLink "CricketHayModel" 375 "CricketHayModel" "heards" "I" ∈ lw_good := q_t 1154 (by decide +kernel) rfl
theorem w_1157 : Cond.fieldLink "CricketHayModel" 127 "CricketHayModel" "hasBox" "[Z" ∈ lw_good := q_t 1157 (by decide +kernel) rfl
theorem w_1322 : Cond.methodLink "CricketHayModel" 354 ⟨"CricketHayModel", "readAll", "()V"⟩ ∈ lw_good := q_t 1322 (by decide +kernel) rfl
theorem w_1324 : Cond.instanceMethod ⟨"CricketHayModel", "readAll", "()V"⟩ ∈ lw_good := q_t 1324 (by decide +kernel) rfl
theorem w_1325 : Cond.code ⟨"CricketHayModel", "readAll", "()V"⟩ prog_14_method_40_code 1 none ∈ lw_good := q_t 1325 (by decide +kernel) rfl
theorem w_1343 : Cond.methodLink "CricketHayModel" 351 ⟨"CricketHayModel", "readLine", "()V"⟩ ∈ lw_good := q_t 1343 (by decide +kernel) rfl
theorem w_1345 : Cond.instanceMethod ⟨"CricketHayModel", "readLine", "()V"⟩ ∈ lw_good := q_t 1345 (by decide +kernel) rfl
theorem w_1346 : Cond.code ⟨"CricketHayModel", "readLine", "()V"⟩ prog_14_method_39_code 1 none ∈ lw_good := q_t 1346 (by decide +kernel) rfl
theorem w_1352 : Cond.methodLink "CricketHayModel" 320 ⟨"CricketHayModel", "readKind", "()V"⟩ ∈ lw_good := q_t 1352 (by decide +kernel) rfl
theorem w_1354 : Cond.instanceMethod ⟨"CricketHayModel", "readKind", "()V"⟩ ∈ lw_good := q_t 1354 (by decide +kernel) rfl
theorem w_1355 : Cond.code ⟨"CricketHayModel", "readKind", "()V"⟩ prog_14_method_37_code 1 none ∈ lw_good := q_t 1355 (by decide +kernel) rfl
theorem w_1356 : Cond.methodLink "CricketHayModel" 310 ⟨"CricketHayModel", "newName", "(II)V"⟩ ∈ lw_good := q_t 1356 (by decide +kernel) rfl
theorem w_1358 : Cond.instanceMethod ⟨"CricketHayModel", "newName", "(II)V"⟩ ∈ lw_good := q_t 1358 (by decide +kernel) rfl
theorem w_1359 : Cond.code ⟨"CricketHayModel", "newName", "(II)V"⟩ prog_14_method_19_code 3 none ∈ lw_good := q_t 1359 (by decide +kernel) rfl
theorem w_1394 : Cond.methodLink "CricketHayModel" 323 ⟨"CricketHayModel", "readDealer", "()V"⟩ ∈ lw_good := q_t 1394 (by decide +kernel) rfl
theorem w_1396 : Cond.instanceMethod ⟨"CricketHayModel", "readDealer", "()V"⟩ ∈ lw_good := q_t 1396 (by decide +kernel) rfl
theorem w_1397 : Cond.code ⟨"CricketHayModel", "readDealer", "()V"⟩ prog_14_method_38_code 2 none ∈ lw_good := q_t 1397 (by decide +kernel) rfl
theorem w_1410 : Cond.methodLink "CricketHayModel" 316 ⟨"CricketHayModel", "option", "(JI)I"⟩ ∈ lw_good := q_t 1410 (by decide +kernel) rfl
theorem w_1412 : Cond.instanceMethod ⟨"CricketHayModel", "option", "(JI)I"⟩ ∈ lw_good := q_t 1412 (by decide +kernel) rfl
theorem w_1413 : Cond.code ⟨"CricketHayModel", "option", "(JI)I"⟩ prog_14_method_17_code 4 (some .int) ∈ lw_good := q_t 1413 (by decide +kernel) rfl
theorem w_1414 : Cond.methodLink "CricketHayModel" 326 ⟨"CricketHayModel", "formula", "(I)V"⟩ ∈ lw_good := q_t 1414 (by decide +kernel) rfl
theorem w_1416 : Cond.instanceMethod ⟨"CricketHayModel", "formula", "(I)V"⟩ ∈ lw_good := q_t 1416 (by decide +kernel) rfl
theorem w_1417 : Cond.code ⟨"CricketHayModel", "formula", "(I)V"⟩ prog_14_method_32_code 4 none ∈ lw_good := q_t 1417 (by decide +kernel) rfl
theorem w_1473 : Cond.methodLink "CricketHayModel" 385 ⟨"CricketHayModel", "isDealer", "(I)Z"⟩ ∈ lw_good := q_t 1473 (by decide +kernel) rfl
theorem w_1475 : Cond.instanceMethod ⟨"CricketHayModel", "isDealer", "(I)Z"⟩ ∈ lw_good := q_t 1475 (by decide +kernel) rfl
theorem w_1476 : Cond.code ⟨"CricketHayModel", "isDealer", "(I)Z"⟩ prog_14_method_44_code 2 (some .boolean) ∈ lw_good := q_t 1476 (by decide +kernel) rfl
theorem w_1477 : Cond.methodLink "CricketHayModel" 381 ⟨"CricketHayModel", "isIn", "(III)Z"⟩ ∈ lw_good := q_t 1477 (by decide +kernel) rfl
theorem w_1478 : Cond.static ⟨"CricketHayModel", "isIn", "(III)Z"⟩ ∈ lw_good := q_t 1478 (by decide +kernel) rfl
theorem w_1479 : Cond.code ⟨"CricketHayModel", "isIn", "(III)Z"⟩ prog_14_method_43_code 3 (some .boolean) ∈ lw_good := q_t 1479 (by decide +kernel) rfl
theorem w_1480 : Cond.methodLink "CricketHayModel" 421 ⟨"CricketHayModel", "load", "()V"⟩ ∈ lw_good := q_t 1480 (by decide +kernel) rfl
theorem w_1482 : Cond.instanceMethod ⟨"CricketHayModel", "load", "()V"⟩ ∈ lw_good := q_t 1482 (by decide +kernel) rfl
theorem w_1483 : Cond.code ⟨"CricketHayModel", "load", "()V"⟩ prog_14_method_46_code 2 none ∈ lw_good := q_t 1483 (by decide +kernel) rfl
theorem w_1484 : Cond.methodLink "CricketHayModel" 398 ⟨"CricketHayModel", "isFree", "(I)Z"⟩ ∈ lw_good := q_t 1484 (by decide +kernel) rfl
theorem w_1486 : Cond.instanceMethod ⟨"CricketHayModel", "isFree", "(I)Z"⟩ ∈ lw_good := q_t 1486 (by decide +kernel) rfl
theorem w_1487 : Cond.code ⟨"CricketHayModel", "isFree", "(I)Z"⟩ prog_14_method_49_code 2 (some .boolean) ∈ lw_good := q_t 1487 (by decide +kernel) rfl
theorem w_1491 : Cond.methodLink "CricketHayModel" 411 ⟨"CricketHayModel", "chirpsOf", "(I)I"⟩ ∈ lw_good := q_t 1491 (by decide +kernel) rfl
theorem w_1493 : Cond.instanceMethod ⟨"CricketHayModel", "chirpsOf", "(I)I"⟩ ∈ lw_good := q_t 1493 (by decide +kernel) rfl
theorem w_1494 : Cond.code ⟨"CricketHayModel", "chirpsOf", "(I)I"⟩ prog_14_method_52_code 3 (some .int) ∈ lw_good := q_t 1494 (by decide +kernel) rfl
theorem w_1495 : Cond.methodLink "CricketHayModel" 401 ⟨"CricketHayModel", "heatHere", "()I"⟩ ∈ lw_good := q_t 1495 (by decide +kernel) rfl
theorem w_1497 : Cond.instanceMethod ⟨"CricketHayModel", "heatHere", "()I"⟩ ∈ lw_good := q_t 1497 (by decide +kernel) rfl
theorem w_1498 : Cond.code ⟨"CricketHayModel", "heatHere", "()I"⟩ prog_14_method_48_code 1 (some .int) ∈ lw_good := q_t 1498 (by decide +kernel) rfl
theorem w_1499 : Cond.methodLink "CricketHayModel" 388 ⟨"CricketHayModel", "askOf", "(IIII)V"⟩ ∈ lw_good := q_t 1499 (by decide +kernel) rfl
theorem w_1501 : Cond.instanceMethod ⟨"CricketHayModel", "askOf", "(IIII)V"⟩ ∈ lw_good := q_t 1501 (by decide +kernel) rfl
theorem w_1502 : Cond.code ⟨"CricketHayModel", "askOf", "(IIII)V"⟩ prog_14_method_47_code 5 none ∈ lw_good := q_t 1502 (by decide +kernel) rfl
theorem w_1503 : Cond.methodLink "CricketHayModel" 392 ⟨"CricketHayModel", "worked", "(II)I"⟩ ∈ lw_good := q_t 1503 (by decide +kernel) rfl
theorem w_1505 : Cond.instanceMethod ⟨"CricketHayModel", "worked", "(II)I"⟩ ∈ lw_good := q_t 1505 (by decide +kernel) rfl
theorem w_1506 : Cond.code ⟨"CricketHayModel", "worked", "(II)I"⟩ prog_14_method_35_code 5 (some .int) ∈ lw_good := q_t 1506 (by decide +kernel) rfl
theorem w_1510 : Cond.methodLink "CricketHayModel" 395 ⟨"CricketHayModel", "within", "(II)I"⟩ ∈ lw_good := q_t 1510 (by decide +kernel) rfl
theorem w_1511 : Cond.static ⟨"CricketHayModel", "within", "(II)I"⟩ ∈ lw_good := q_t 1511 (by decide +kernel) rfl
theorem w_1512 : Cond.code ⟨"CricketHayModel", "within", "(II)I"⟩ prog_14_method_36_code 2 (some .int) ∈ lw_good := q_t 1512 (by decide +kernel) rfl
theorem w_1513 : Cond.methodLink "CricketHayModel" 404 ⟨"CricketHayModel", "matesOf", "(I)I"⟩ ∈ lw_good := q_t 1513 (by decide +kernel) rfl
theorem w_1515 : Cond.instanceMethod ⟨"CricketHayModel", "matesOf", "(I)I"⟩ ∈ lw_good := q_t 1515 (by decide +kernel) rfl
theorem w_1516 : Cond.code ⟨"CricketHayModel", "matesOf", "(I)I"⟩ prog_14_method_50_code 4 (some .int) ∈ lw_good := q_t 1516 (by decide +kernel) rfl
theorem w_1517 : Cond.methodLink "CricketHayModel" 407 ⟨"CricketHayModel", "chirpsAt", "(IIII)I"⟩ ∈ lw_good := q_t 1517 (by decide +kernel) rfl
theorem w_1519 : Cond.instanceMethod ⟨"CricketHayModel", "chirpsAt", "(IIII)I"⟩ ∈ lw_good := q_t 1519 (by decide +kernel) rfl
theorem w_1520 : Cond.code ⟨"CricketHayModel", "chirpsAt", "(IIII)I"⟩ prog_14_method_51_code 5 (some .int) ∈ lw_good := q_t 1520 (by decide +kernel) rfl
theorem w_1529 : Cond.methodLink "CricketHayModel" 424 ⟨"CricketHayModel", "areTwo", "(II)Z"⟩ ∈ lw_good := q_t 1529 (by decide +kernel) rfl
theorem w_1531 : Cond.instanceMethod ⟨"CricketHayModel", "areTwo", "(II)Z"⟩ ∈ lw_good := q_t 1531 (by decide +kernel) rfl
theorem w_1532 : Cond.code ⟨"CricketHayModel", "areTwo", "(II)Z"⟩ prog_14_method_45_code 3 (some .boolean) ∈ lw_good := q_t 1532 (by decide +kernel) rfl
theorem w_1533 : Cond.methodLink "CricketHayModel" 428 ⟨"CricketHayModel", "priceOf", "(II)I"⟩ ∈ lw_good := q_t 1533 (by decide +kernel) rfl
theorem w_1535 : Cond.instanceMethod ⟨"CricketHayModel", "priceOf", "(II)I"⟩ ∈ lw_good := q_t 1535 (by decide +kernel) rfl
theorem w_1536 : Cond.code ⟨"CricketHayModel", "priceOf", "(II)I"⟩ prog_14_method_53_code 3 (some .int) ∈ lw_good := q_t 1536 (by decide +kernel) rfl
theorem w_1545 : Cond.methodLink "CricketHayModel" 431 ⟨"CricketHayModel", "chorusHere", "()I"⟩ ∈ lw_good := q_t 1545 (by decide +kernel) rfl
theorem w_1547 : Cond.instanceMethod ⟨"CricketHayModel", "chorusHere", "()I"⟩ ∈ lw_good := q_t 1547 (by decide +kernel) rfl
theorem w_1548 : Cond.code ⟨"CricketHayModel", "chorusHere", "()I"⟩ prog_14_method_61_code 3 (some .int) ∈ lw_good := q_t 1548 (by decide +kernel) rfl
theorem w_1557 : Cond.methodLink "CricketHayModel" 434 ⟨"CricketHayModel", "act", "()V"⟩ ∈ lw_good := q_t 1557 (by decide +kernel) rfl
theorem w_1559 : Cond.instanceMethod ⟨"CricketHayModel", "act", "()V"⟩ ∈ lw_good := q_t 1559 (by decide +kernel) rfl
theorem w_1560 : Cond.code ⟨"CricketHayModel", "act", "()V"⟩ prog_14_method_64_code 2 none ∈ lw_good := q_t 1560 (by decide +kernel) rfl
theorem w_1581 : Cond.methodLink "CricketHayModel" 417 ⟨"CricketHayModel", "pass", "(Z)V"⟩ ∈ lw_good := q_t 1581 (by decide +kernel) rfl
theorem w_1583 : Cond.instanceMethod ⟨"CricketHayModel", "pass", "(Z)V"⟩ ∈ lw_good := q_t 1583 (by decide +kernel) rfl
theorem w_1584 : Cond.code ⟨"CricketHayModel", "pass", "(Z)V"⟩ prog_14_method_55_code 3 none ∈ lw_good := q_t 1584 (by decide +kernel) rfl
theorem w_1585 : Cond.methodLink "CricketHayModel" 414 ⟨"CricketHayModel", "eat", "(I)V"⟩ ∈ lw_good := q_t 1585 (by decide +kernel) rfl
theorem w_1587 : Cond.instanceMethod ⟨"CricketHayModel", "eat", "(I)V"⟩ ∈ lw_good := q_t 1587 (by decide +kernel) rfl
theorem w_1588 : Cond.code ⟨"CricketHayModel", "eat", "(I)V"⟩ prog_14_method_54_code 3 none ∈ lw_good := q_t 1588 (by decide +kernel) rfl
theorem ws_47 : Cond.selects "CricketHayModel" ⟨"CricketHayModel", "readAll", "()V"⟩ ⟨"CricketHayModel", "readAll", "()V"⟩ ∈ lw_good := q_s 47 (by decide +kernel) rfl
theorem ws_50 : Cond.selects "CricketHayModel" ⟨"CricketHayModel", "readLine", "()V"⟩ ⟨"CricketHayModel", "readLine", "()V"⟩ ∈ lw_good := q_s 50 (by decide +kernel) rfl
theorem ws_52 : Cond.selects "CricketHayModel" ⟨"CricketHayModel", "readKind", "()V"⟩ ⟨"CricketHayModel", "readKind", "()V"⟩ ∈ lw_good := q_s 52 (by decide +kernel) rfl
theorem ws_53 : Cond.selects "CricketHayModel" ⟨"CricketHayModel", "newName", "(II)V"⟩ ⟨"CricketHayModel", "newName", "(II)V"⟩ ∈ lw_good := q_s 53 (by decide +kernel) rfl
theorem ws_58 : Cond.selects "CricketHayModel" ⟨"CricketHayModel", "readDealer", "()V"⟩ ⟨"CricketHayModel", "readDealer", "()V"⟩ ∈ lw_good := q_s 58 (by decide +kernel) rfl
theorem ws_62 : Cond.selects "CricketHayModel" ⟨"CricketHayModel", "option", "(JI)I"⟩ ⟨"CricketHayModel", "option", "(JI)I"⟩ ∈ lw_good := q_s 62 (by decide +kernel) rfl
theorem ws_63 : Cond.selects "CricketHayModel" ⟨"CricketHayModel", "formula", "(I)V"⟩ ⟨"CricketHayModel", "formula", "(I)V"⟩ ∈ lw_good := q_s 63 (by decide +kernel) rfl
theorem ws_75 : Cond.selects "CricketHayModel" ⟨"CricketHayModel", "isDealer", "(I)Z"⟩ ⟨"CricketHayModel", "isDealer", "(I)Z"⟩ ∈ lw_good := q_s 75 (by decide +kernel) rfl
theorem ws_76 : Cond.selects "CricketHayModel" ⟨"CricketHayModel", "load", "()V"⟩ ⟨"CricketHayModel", "load", "()V"⟩ ∈ lw_good := q_s 76 (by decide +kernel) rfl
theorem ws_77 : Cond.selects "CricketHayModel" ⟨"CricketHayModel", "isFree", "(I)Z"⟩ ⟨"CricketHayModel", "isFree", "(I)Z"⟩ ∈ lw_good := q_s 77 (by decide +kernel) rfl
theorem ws_78 : Cond.selects "CricketHayModel" ⟨"CricketHayModel", "chirpsOf", "(I)I"⟩ ⟨"CricketHayModel", "chirpsOf", "(I)I"⟩ ∈ lw_good := q_s 78 (by decide +kernel) rfl
theorem ws_79 : Cond.selects "CricketHayModel" ⟨"CricketHayModel", "heatHere", "()I"⟩ ⟨"CricketHayModel", "heatHere", "()I"⟩ ∈ lw_good := q_s 79 (by decide +kernel) rfl
theorem ws_80 : Cond.selects "CricketHayModel" ⟨"CricketHayModel", "askOf", "(IIII)V"⟩ ⟨"CricketHayModel", "askOf", "(IIII)V"⟩ ∈ lw_good := q_s 80 (by decide +kernel) rfl
theorem ws_81 : Cond.selects "CricketHayModel" ⟨"CricketHayModel", "worked", "(II)I"⟩ ⟨"CricketHayModel", "worked", "(II)I"⟩ ∈ lw_good := q_s 81 (by decide +kernel) rfl
theorem ws_82 : Cond.selects "CricketHayModel" ⟨"CricketHayModel", "matesOf", "(I)I"⟩ ⟨"CricketHayModel", "matesOf", "(I)I"⟩ ∈ lw_good := q_s 82 (by decide +kernel) rfl
theorem ws_83 : Cond.selects "CricketHayModel" ⟨"CricketHayModel", "chirpsAt", "(IIII)I"⟩ ⟨"CricketHayModel", "chirpsAt", "(IIII)I"⟩ ∈ lw_good := q_s 83 (by decide +kernel) rfl
theorem ws_84 : Cond.selects "CricketHayModel" ⟨"CricketHayModel", "areTwo", "(II)Z"⟩ ⟨"CricketHayModel", "areTwo", "(II)Z"⟩ ∈ lw_good := q_s 84 (by decide +kernel) rfl
theorem ws_85 : Cond.selects "CricketHayModel" ⟨"CricketHayModel", "priceOf", "(II)I"⟩ ⟨"CricketHayModel", "priceOf", "(II)I"⟩ ∈ lw_good := q_s 85 (by decide +kernel) rfl
theorem ws_86 : Cond.selects "CricketHayModel" ⟨"CricketHayModel", "chorusHere", "()I"⟩ ⟨"CricketHayModel", "chorusHere", "()I"⟩ ∈ lw_good := q_s 86 (by decide +kernel) rfl
theorem ws_87 : Cond.selects "CricketHayModel" ⟨"CricketHayModel", "act", "()V"⟩ ⟨"CricketHayModel", "act", "()V"⟩ ∈ lw_good := q_s 87 (by decide +kernel) rfl
theorem ws_90 : Cond.selects "CricketHayModel" ⟨"CricketHayModel", "pass", "(Z)V"⟩ ⟨"CricketHayModel", "pass", "(Z)V"⟩ ∈ lw_good := q_s 90 (by decide +kernel) rfl
theorem ws_91 : Cond.selects "CricketHayModel" ⟨"CricketHayModel", "eat", "(I)V"⟩ ⟨"CricketHayModel", "eat", "(I)V"⟩ ∈ lw_good := q_s 91 (by decide +kernel) rfl
abbrev y_M_within : MI := (⟨"CricketHayModel", "within", "(II)I"⟩, prog_14_method_36_code, 2, (some .int))
theorem hy_M_within : y_M_within.1.cls ≠ "java/lang/invoke/MethodHandle" ∧ y_M_within.1.cls ≠ "java/lang/invoke/VarHandle" ∧ (parseMethodDescriptor y_M_within.1.desc).map (fun d => d.parameters.length) = some 2 := by decide +kernel
theorem d_M_within_0 : decode y_M_within.2.1 0 = .ok (.iload_n 0, 1) := by decide +kernel
theorem d_M_within_1 : decode y_M_within.2.1 1 = .ok (.ifCond .ge 7, 3) := by decide +kernel
theorem d_M_within_4 : decode y_M_within.2.1 4 = .ok (.iconst 0, 1) := by decide +kernel
theorem d_M_within_5 : decode y_M_within.2.1 5 = .ok (.goto 13, 3) := by decide +kernel
theorem d_M_within_8 : decode y_M_within.2.1 8 = .ok (.iload_n 0, 1) := by decide +kernel
theorem d_M_within_9 : decode y_M_within.2.1 9 = .ok (.iload_n 1, 1) := by decide +kernel
theorem d_M_within_10 : decode y_M_within.2.1 10 = .ok (.if_icmp .le 7, 3) := by decide +kernel
theorem d_M_within_13 : decode y_M_within.2.1 13 = .ok (.iload_n 1, 1) := by decide +kernel
theorem d_M_within_14 : decode y_M_within.2.1 14 = .ok (.goto 4, 3) := by decide +kernel
theorem d_M_within_17 : decode y_M_within.2.1 17 = .ok (.iload_n 0, 1) := by decide +kernel
theorem d_M_within_18 : decode y_M_within.2.1 18 = .ok (.ireturn, 1) := by decide +kernel

abbrev y_M_readKind : MI := (⟨"CricketHayModel", "readKind", "()V"⟩, prog_14_method_37_code, 1, none)
theorem hy_M_readKind : y_M_readKind.1.cls ≠ "java/lang/invoke/MethodHandle" ∧ y_M_readKind.1.cls ≠ "java/lang/invoke/VarHandle" ∧ (parseMethodDescriptor y_M_readKind.1.desc).map (fun d => d.parameters.length) = some 0 := by decide +kernel
theorem d_M_readKind_0 : decode y_M_readKind.2.1 0 = .ok (.aload_n 0, 1) := by decide +kernel
theorem d_M_readKind_1 : decode y_M_readKind.2.1 1 = .ok (.iconst 0, 1) := by decide +kernel
theorem d_M_readKind_2 : decode y_M_readKind.2.1 2 = .ok (.aload_n 0, 1) := by decide +kernel
theorem d_M_readKind_3 : decode y_M_readKind.2.1 3 = .ok (.getfield 307, 3) := by decide +kernel
theorem d_M_readKind_6 : decode y_M_readKind.2.1 6 = .ok (.invokevirtual 310, 3) := by decide +kernel
theorem d_M_readKind_9 : decode y_M_readKind.2.1 9 = .ok (.aload_n 0, 1) := by decide +kernel
theorem d_M_readKind_10 : decode y_M_readKind.2.1 10 = .ok (.getfield 173, 3) := by decide +kernel
theorem d_M_readKind_13 : decode y_M_readKind.2.1 13 = .ok (.ifCond .ne 13, 3) := by decide +kernel
theorem d_M_readKind_16 : decode y_M_readKind.2.1 16 = .ok (.aload_n 0, 1) := by decide +kernel
theorem d_M_readKind_17 : decode y_M_readKind.2.1 17 = .ok (.dup, 1) := by decide +kernel
theorem d_M_readKind_18 : decode y_M_readKind.2.1 18 = .ok (.getfield 307, 3) := by decide +kernel
theorem d_M_readKind_21 : decode y_M_readKind.2.1 21 = .ok (.iconst 1, 1) := by decide +kernel
theorem d_M_readKind_22 : decode y_M_readKind.2.1 22 = .ok (.iadd, 1) := by decide +kernel
theorem d_M_readKind_23 : decode y_M_readKind.2.1 23 = .ok (.putfield 307, 3) := by decide +kernel
theorem d_M_readKind_26 : decode y_M_readKind.2.1 26 = .ok (.return_, 1) := by decide +kernel

abbrev y_M_readDealer : MI := (⟨"CricketHayModel", "readDealer", "()V"⟩, prog_14_method_38_code, 2, none)
theorem hy_M_readDealer : y_M_readDealer.1.cls ≠ "java/lang/invoke/MethodHandle" ∧ y_M_readDealer.1.cls ≠ "java/lang/invoke/VarHandle" ∧ (parseMethodDescriptor y_M_readDealer.1.desc).map (fun d => d.parameters.length) = some 0 := by decide +kernel
theorem d_M_readDealer_0 : decode y_M_readDealer.2.1 0 = .ok (.aload_n 0, 1) := by decide +kernel
theorem d_M_readDealer_1 : decode y_M_readDealer.2.1 1 = .ok (.iconst 3, 1) := by decide +kernel
theorem d_M_readDealer_2 : decode y_M_readDealer.2.1 2 = .ok (.aload_n 0, 1) := by decide +kernel
theorem d_M_readDealer_3 : decode y_M_readDealer.2.1 3 = .ok (.getfield 313, 3) := by decide +kernel
theorem d_M_readDealer_6 : decode y_M_readDealer.2.1 6 = .ok (.invokevirtual 310, 3) := by decide +kernel
theorem d_M_readDealer_9 : decode y_M_readDealer.2.1 9 = .ok (.aload_n 0, 1) := by decide +kernel
theorem d_M_readDealer_10 : decode y_M_readDealer.2.1 10 = .ok (.getfield 313, 3) := by decide +kernel
theorem d_M_readDealer_13 : decode y_M_readDealer.2.1 13 = .ok (.istore_n 1, 1) := by decide +kernel
theorem d_M_readDealer_14 : decode y_M_readDealer.2.1 14 = .ok (.aload_n 0, 1) := by decide +kernel
theorem d_M_readDealer_15 : decode y_M_readDealer.2.1 15 = .ok (.ldc2_w 180, 3) := by decide +kernel
theorem d_M_readDealer_18 : decode y_M_readDealer.2.1 18 = .ok (.invokevirtual 228, 3) := by decide +kernel
theorem d_M_readDealer_21 : decode y_M_readDealer.2.1 21 = .ok (.aload_n 0, 1) := by decide +kernel
theorem d_M_readDealer_22 : decode y_M_readDealer.2.1 22 = .ok (.getfield 173, 3) := by decide +kernel
theorem d_M_readDealer_25 : decode y_M_readDealer.2.1 25 = .ok (.ifCond .ne 18, 3) := by decide +kernel
theorem d_M_readDealer_28 : decode y_M_readDealer.2.1 28 = .ok (.aload_n 0, 1) := by decide +kernel
theorem d_M_readDealer_29 : decode y_M_readDealer.2.1 29 = .ok (.invokevirtual 240, 3) := by decide +kernel
theorem d_M_readDealer_32 : decode y_M_readDealer.2.1 32 = .ok (.ifCond .ne 11, 3) := by decide +kernel
theorem d_M_readDealer_35 : decode y_M_readDealer.2.1 35 = .ok (.aload_n 0, 1) := by decide +kernel
theorem d_M_readDealer_36 : decode y_M_readDealer.2.1 36 = .ok (.iconst 2, 1) := by decide +kernel
theorem d_M_readDealer_37 : decode y_M_readDealer.2.1 37 = .ok (.invokevirtual 222, 3) := by decide +kernel
theorem d_M_readDealer_40 : decode y_M_readDealer.2.1 40 = .ok (.goto 27, 3) := by decide +kernel
theorem d_M_readDealer_43 : decode y_M_readDealer.2.1 43 = .ok (.aload_n 0, 1) := by decide +kernel
theorem d_M_readDealer_44 : decode y_M_readDealer.2.1 44 = .ok (.getfield 173, 3) := by decide +kernel
theorem d_M_readDealer_47 : decode y_M_readDealer.2.1 47 = .ok (.ifCond .ne 20, 3) := by decide +kernel
theorem d_M_readDealer_50 : decode y_M_readDealer.2.1 50 = .ok (.aload_n 0, 1) := by decide +kernel
theorem d_M_readDealer_51 : decode y_M_readDealer.2.1 51 = .ok (.iconst 0, 1) := by decide +kernel
theorem d_M_readDealer_52 : decode y_M_readDealer.2.1 52 = .ok (.aload_n 0, 1) := by decide +kernel
theorem d_M_readDealer_53 : decode y_M_readDealer.2.1 53 = .ok (.getfield 307, 3) := by decide +kernel
theorem d_M_readDealer_56 : decode y_M_readDealer.2.1 56 = .ok (.invokevirtual 243, 3) := by decide +kernel
theorem d_M_readDealer_59 : decode y_M_readDealer.2.1 59 = .ok (.ifCond .ge 8, 3) := by decide +kernel
theorem d_M_readDealer_62 : decode y_M_readDealer.2.1 62 = .ok (.aload_n 0, 1) := by decide +kernel
theorem d_M_readDealer_63 : decode y_M_readDealer.2.1 63 = .ok (.iconst 5, 1) := by decide +kernel
theorem d_M_readDealer_64 : decode y_M_readDealer.2.1 64 = .ok (.invokevirtual 222, 3) := by decide +kernel
theorem d_M_readDealer_67 : decode y_M_readDealer.2.1 67 = .ok (.aload_n 0, 1) := by decide +kernel
theorem d_M_readDealer_68 : decode y_M_readDealer.2.1 68 = .ok (.getfield 173, 3) := by decide +kernel
theorem d_M_readDealer_71 : decode y_M_readDealer.2.1 71 = .ok (.ifCond .le 4, 3) := by decide +kernel
theorem d_M_readDealer_74 : decode y_M_readDealer.2.1 74 = .ok (.return_, 1) := by decide +kernel
theorem d_M_readDealer_75 : decode y_M_readDealer.2.1 75 = .ok (.aload_n 0, 1) := by decide +kernel
theorem d_M_readDealer_76 : decode y_M_readDealer.2.1 76 = .ok (.getfield 52, 3) := by decide +kernel
theorem d_M_readDealer_79 : decode y_M_readDealer.2.1 79 = .ok (.iload_n 1, 1) := by decide +kernel
theorem d_M_readDealer_80 : decode y_M_readDealer.2.1 80 = .ok (.aload_n 0, 1) := by decide +kernel
theorem d_M_readDealer_81 : decode y_M_readDealer.2.1 81 = .ok (.iconst 0, 1) := by decide +kernel
theorem d_M_readDealer_82 : decode y_M_readDealer.2.1 82 = .ok (.aload_n 0, 1) := by decide +kernel
theorem d_M_readDealer_83 : decode y_M_readDealer.2.1 83 = .ok (.getfield 307, 3) := by decide +kernel
theorem d_M_readDealer_86 : decode y_M_readDealer.2.1 86 = .ok (.invokevirtual 243, 3) := by decide +kernel
theorem d_M_readDealer_89 : decode y_M_readDealer.2.1 89 = .ok (.iastore, 1) := by decide +kernel
theorem d_M_readDealer_90 : decode y_M_readDealer.2.1 90 = .ok (.aload_n 0, 1) := by decide +kernel
theorem d_M_readDealer_91 : decode y_M_readDealer.2.1 91 = .ok (.invokevirtual 225, 3) := by decide +kernel
theorem d_M_readDealer_94 : decode y_M_readDealer.2.1 94 = .ok (.aload_n 0, 1) := by decide +kernel
theorem d_M_readDealer_95 : decode y_M_readDealer.2.1 95 = .ok (.getfield 55, 3) := by decide +kernel
theorem d_M_readDealer_98 : decode y_M_readDealer.2.1 98 = .ok (.iload_n 1, 1) := by decide +kernel
theorem d_M_readDealer_99 : decode y_M_readDealer.2.1 99 = .ok (.aload_n 0, 1) := by decide +kernel
theorem d_M_readDealer_100 : decode y_M_readDealer.2.1 100 = .ok (.ldc2_w 182, 3) := by decide +kernel
theorem d_M_readDealer_103 : decode y_M_readDealer.2.1 103 = .ok (.iconst 0, 1) := by decide +kernel
theorem d_M_readDealer_104 : decode y_M_readDealer.2.1 104 = .ok (.bipush 9, 2) := by decide +kernel
theorem d_M_readDealer_106 : decode y_M_readDealer.2.1 106 = .ok (.invokevirtual 236, 3) := by decide +kernel
theorem d_M_readDealer_109 : decode y_M_readDealer.2.1 109 = .ok (.iastore, 1) := by decide +kernel
theorem d_M_readDealer_110 : decode y_M_readDealer.2.1 110 = .ok (.aload_n 0, 1) := by decide +kernel
theorem d_M_readDealer_111 : decode y_M_readDealer.2.1 111 = .ok (.getfield 58, 3) := by decide +kernel
theorem d_M_readDealer_114 : decode y_M_readDealer.2.1 114 = .ok (.iload_n 1, 1) := by decide +kernel
theorem d_M_readDealer_115 : decode y_M_readDealer.2.1 115 = .ok (.aload_n 0, 1) := by decide +kernel
theorem d_M_readDealer_116 : decode y_M_readDealer.2.1 116 = .ok (.ldc2_w 184, 3) := by decide +kernel
theorem d_M_readDealer_119 : decode y_M_readDealer.2.1 119 = .ok (.bipush 99, 2) := by decide +kernel
theorem d_M_readDealer_121 : decode y_M_readDealer.2.1 121 = .ok (.invokevirtual 316, 3) := by decide +kernel
theorem d_M_readDealer_124 : decode y_M_readDealer.2.1 124 = .ok (.iastore, 1) := by decide +kernel
theorem d_M_readDealer_125 : decode y_M_readDealer.2.1 125 = .ok (.aload_n 0, 1) := by decide +kernel
theorem d_M_readDealer_126 : decode y_M_readDealer.2.1 126 = .ok (.getfield 61, 3) := by decide +kernel
theorem d_M_readDealer_129 : decode y_M_readDealer.2.1 129 = .ok (.iload_n 1, 1) := by decide +kernel
theorem d_M_readDealer_130 : decode y_M_readDealer.2.1 130 = .ok (.aload_n 0, 1) := by decide +kernel
theorem d_M_readDealer_131 : decode y_M_readDealer.2.1 131 = .ok (.ldc2_w 186, 3) := by decide +kernel
theorem d_M_readDealer_134 : decode y_M_readDealer.2.1 134 = .ok (.sipush 9999, 3) := by decide +kernel
theorem d_M_readDealer_137 : decode y_M_readDealer.2.1 137 = .ok (.invokevirtual 316, 3) := by decide +kernel
theorem d_M_readDealer_140 : decode y_M_readDealer.2.1 140 = .ok (.iastore, 1) := by decide +kernel
theorem d_M_readDealer_141 : decode y_M_readDealer.2.1 141 = .ok (.aload_n 0, 1) := by decide +kernel
theorem d_M_readDealer_142 : decode y_M_readDealer.2.1 142 = .ok (.getfield 64, 3) := by decide +kernel
theorem d_M_readDealer_145 : decode y_M_readDealer.2.1 145 = .ok (.iload_n 1, 1) := by decide +kernel
theorem d_M_readDealer_146 : decode y_M_readDealer.2.1 146 = .ok (.aload_n 0, 1) := by decide +kernel
theorem d_M_readDealer_147 : decode y_M_readDealer.2.1 147 = .ok (.ldc2_w 188, 3) := by decide +kernel
theorem d_M_readDealer_150 : decode y_M_readDealer.2.1 150 = .ok (.bipush 99, 2) := by decide +kernel
theorem d_M_readDealer_152 : decode y_M_readDealer.2.1 152 = .ok (.invokevirtual 316, 3) := by decide +kernel
theorem d_M_readDealer_155 : decode y_M_readDealer.2.1 155 = .ok (.iastore, 1) := by decide +kernel
theorem d_M_readDealer_156 : decode y_M_readDealer.2.1 156 = .ok (.aload_n 0, 1) := by decide +kernel
theorem d_M_readDealer_157 : decode y_M_readDealer.2.1 157 = .ok (.getfield 67, 3) := by decide +kernel
theorem d_M_readDealer_160 : decode y_M_readDealer.2.1 160 = .ok (.iload_n 1, 1) := by decide +kernel
theorem d_M_readDealer_161 : decode y_M_readDealer.2.1 161 = .ok (.aload_n 0, 1) := by decide +kernel
theorem d_M_readDealer_162 : decode y_M_readDealer.2.1 162 = .ok (.ldc2_w 190, 3) := by decide +kernel
theorem d_M_readDealer_165 : decode y_M_readDealer.2.1 165 = .ok (.bipush 9, 2) := by decide +kernel
theorem d_M_readDealer_167 : decode y_M_readDealer.2.1 167 = .ok (.invokevirtual 316, 3) := by decide +kernel
theorem d_M_readDealer_170 : decode y_M_readDealer.2.1 170 = .ok (.iastore, 1) := by decide +kernel
theorem d_M_readDealer_171 : decode y_M_readDealer.2.1 171 = .ok (.aload_n 0, 1) := by decide +kernel
theorem d_M_readDealer_172 : decode y_M_readDealer.2.1 172 = .ok (.getfield 173, 3) := by decide +kernel
theorem d_M_readDealer_175 : decode y_M_readDealer.2.1 175 = .ok (.ifCond .ne 13, 3) := by decide +kernel
theorem d_M_readDealer_178 : decode y_M_readDealer.2.1 178 = .ok (.aload_n 0, 1) := by decide +kernel
theorem d_M_readDealer_179 : decode y_M_readDealer.2.1 179 = .ok (.dup, 1) := by decide +kernel
theorem d_M_readDealer_180 : decode y_M_readDealer.2.1 180 = .ok (.getfield 313, 3) := by decide +kernel
theorem d_M_readDealer_183 : decode y_M_readDealer.2.1 183 = .ok (.iconst 1, 1) := by decide +kernel
theorem d_M_readDealer_184 : decode y_M_readDealer.2.1 184 = .ok (.iadd, 1) := by decide +kernel
theorem d_M_readDealer_185 : decode y_M_readDealer.2.1 185 = .ok (.putfield 313, 3) := by decide +kernel
theorem d_M_readDealer_188 : decode y_M_readDealer.2.1 188 = .ok (.return_, 1) := by decide +kernel

abbrev y_M_readLine : MI := (⟨"CricketHayModel", "readLine", "()V"⟩, prog_14_method_39_code, 1, none)
theorem hy_M_readLine : y_M_readLine.1.cls ≠ "java/lang/invoke/MethodHandle" ∧ y_M_readLine.1.cls ≠ "java/lang/invoke/VarHandle" ∧ (parseMethodDescriptor y_M_readLine.1.desc).map (fun d => d.parameters.length) = some 0 := by decide +kernel
theorem d_M_readLine_0 : decode y_M_readLine.2.1 0 = .ok (.aload_n 0, 1) := by decide +kernel
theorem d_M_readLine_1 : decode y_M_readLine.2.1 1 = .ok (.ldc2_w 176, 3) := by decide +kernel
theorem d_M_readLine_4 : decode y_M_readLine.2.1 4 = .ok (.invokevirtual 218, 3) := by decide +kernel
theorem d_M_readLine_7 : decode y_M_readLine.2.1 7 = .ok (.ifCond .eq 18, 3) := by decide +kernel
theorem d_M_readLine_10 : decode y_M_readLine.2.1 10 = .ok (.aload_n 0, 1) := by decide +kernel
theorem d_M_readLine_11 : decode y_M_readLine.2.1 11 = .ok (.getfield 307, 3) := by decide +kernel
theorem d_M_readLine_14 : decode y_M_readLine.2.1 14 = .ok (.iconst 3, 1) := by decide +kernel
theorem d_M_readLine_15 : decode y_M_readLine.2.1 15 = .ok (.if_icmp .ge 10, 3) := by decide +kernel
theorem d_M_readLine_18 : decode y_M_readLine.2.1 18 = .ok (.aload_n 0, 1) := by decide +kernel
theorem d_M_readLine_19 : decode y_M_readLine.2.1 19 = .ok (.invokevirtual 320, 3) := by decide +kernel
theorem d_M_readLine_22 : decode y_M_readLine.2.1 22 = .ok (.goto 220, 3) := by decide +kernel
theorem d_M_readLine_25 : decode y_M_readLine.2.1 25 = .ok (.aload_n 0, 1) := by decide +kernel
theorem d_M_readLine_26 : decode y_M_readLine.2.1 26 = .ok (.ldc2_w 178, 3) := by decide +kernel
theorem d_M_readLine_29 : decode y_M_readLine.2.1 29 = .ok (.invokevirtual 218, 3) := by decide +kernel
theorem d_M_readLine_32 : decode y_M_readLine.2.1 32 = .ok (.ifCond .eq 19, 3) := by decide +kernel
theorem d_M_readLine_35 : decode y_M_readLine.2.1 35 = .ok (.aload_n 0, 1) := by decide +kernel
theorem d_M_readLine_36 : decode y_M_readLine.2.1 36 = .ok (.getfield 313, 3) := by decide +kernel
theorem d_M_readLine_39 : decode y_M_readLine.2.1 39 = .ok (.bipush 6, 2) := by decide +kernel
theorem d_M_readLine_41 : decode y_M_readLine.2.1 41 = .ok (.if_icmp .ge 10, 3) := by decide +kernel
theorem d_M_readLine_44 : decode y_M_readLine.2.1 44 = .ok (.aload_n 0, 1) := by decide +kernel
theorem d_M_readLine_45 : decode y_M_readLine.2.1 45 = .ok (.invokevirtual 323, 3) := by decide +kernel
theorem d_M_readLine_48 : decode y_M_readLine.2.1 48 = .ok (.goto 194, 3) := by decide +kernel
theorem d_M_readLine_51 : decode y_M_readLine.2.1 51 = .ok (.aload_n 0, 1) := by decide +kernel
theorem d_M_readLine_52 : decode y_M_readLine.2.1 52 = .ok (.ldc2_w 192, 3) := by decide +kernel
theorem d_M_readLine_55 : decode y_M_readLine.2.1 55 = .ok (.invokevirtual 218, 3) := by decide +kernel
theorem d_M_readLine_58 : decode y_M_readLine.2.1 58 = .ok (.ifCond .eq 20, 3) := by decide +kernel
theorem d_M_readLine_61 : decode y_M_readLine.2.1 61 = .ok (.aload_n 0, 1) := by decide +kernel
theorem d_M_readLine_62 : decode y_M_readLine.2.1 62 = .ok (.getfield 45, 3) := by decide +kernel
theorem d_M_readLine_65 : decode y_M_readLine.2.1 65 = .ok (.iconst 0, 1) := by decide +kernel
theorem d_M_readLine_66 : decode y_M_readLine.2.1 66 = .ok (.baload, 1) := by decide +kernel
theorem d_M_readLine_67 : decode y_M_readLine.2.1 67 = .ok (.ifCond .ne 11, 3) := by decide +kernel
theorem d_M_readLine_70 : decode y_M_readLine.2.1 70 = .ok (.aload_n 0, 1) := by decide +kernel
theorem d_M_readLine_71 : decode y_M_readLine.2.1 71 = .ok (.iconst 0, 1) := by decide +kernel
theorem d_M_readLine_72 : decode y_M_readLine.2.1 72 = .ok (.invokevirtual 326, 3) := by decide +kernel
theorem d_M_readLine_75 : decode y_M_readLine.2.1 75 = .ok (.goto 167, 3) := by decide +kernel
theorem d_M_readLine_78 : decode y_M_readLine.2.1 78 = .ok (.aload_n 0, 1) := by decide +kernel
theorem d_M_readLine_79 : decode y_M_readLine.2.1 79 = .ok (.ldc2_w 194, 3) := by decide +kernel
theorem d_M_readLine_82 : decode y_M_readLine.2.1 82 = .ok (.invokevirtual 218, 3) := by decide +kernel
theorem d_M_readLine_85 : decode y_M_readLine.2.1 85 = .ok (.ifCond .eq 20, 3) := by decide +kernel
theorem d_M_readLine_88 : decode y_M_readLine.2.1 88 = .ok (.aload_n 0, 1) := by decide +kernel
theorem d_M_readLine_89 : decode y_M_readLine.2.1 89 = .ok (.getfield 45, 3) := by decide +kernel
theorem d_M_readLine_92 : decode y_M_readLine.2.1 92 = .ok (.iconst 1, 1) := by decide +kernel
theorem d_M_readLine_93 : decode y_M_readLine.2.1 93 = .ok (.baload, 1) := by decide +kernel
theorem d_M_readLine_94 : decode y_M_readLine.2.1 94 = .ok (.ifCond .ne 11, 3) := by decide +kernel
theorem d_M_readLine_97 : decode y_M_readLine.2.1 97 = .ok (.aload_n 0, 1) := by decide +kernel
theorem d_M_readLine_98 : decode y_M_readLine.2.1 98 = .ok (.iconst 1, 1) := by decide +kernel
theorem d_M_readLine_99 : decode y_M_readLine.2.1 99 = .ok (.invokevirtual 326, 3) := by decide +kernel
theorem d_M_readLine_102 : decode y_M_readLine.2.1 102 = .ok (.goto 140, 3) := by decide +kernel
theorem d_M_readLine_105 : decode y_M_readLine.2.1 105 = .ok (.aload_n 0, 1) := by decide +kernel
theorem d_M_readLine_106 : decode y_M_readLine.2.1 106 = .ok (.ldc2_w 196, 3) := by decide +kernel
theorem d_M_readLine_109 : decode y_M_readLine.2.1 109 = .ok (.invokevirtual 218, 3) := by decide +kernel
theorem d_M_readLine_112 : decode y_M_readLine.2.1 112 = .ok (.ifCond .eq 46, 3) := by decide +kernel
theorem d_M_readLine_115 : decode y_M_readLine.2.1 115 = .ok (.aload_n 0, 1) := by decide +kernel
theorem d_M_readLine_116 : decode y_M_readLine.2.1 116 = .ok (.getfield 329, 3) := by decide +kernel
theorem d_M_readLine_119 : decode y_M_readLine.2.1 119 = .ok (.ifCond .ne 39, 3) := by decide +kernel
theorem d_M_readLine_122 : decode y_M_readLine.2.1 122 = .ok (.aload_n 0, 1) := by decide +kernel
theorem d_M_readLine_123 : decode y_M_readLine.2.1 123 = .ok (.iconst 1, 1) := by decide +kernel
theorem d_M_readLine_124 : decode y_M_readLine.2.1 124 = .ok (.putfield 329, 3) := by decide +kernel
theorem d_M_readLine_127 : decode y_M_readLine.2.1 127 = .ok (.aload_n 0, 1) := by decide +kernel
theorem d_M_readLine_128 : decode y_M_readLine.2.1 128 = .ok (.aload_n 0, 1) := by decide +kernel
theorem d_M_readLine_129 : decode y_M_readLine.2.1 129 = .ok (.ldc2_w 196, 3) := by decide +kernel
theorem d_M_readLine_132 : decode y_M_readLine.2.1 132 = .ok (.iconst 0, 1) := by decide +kernel
theorem d_M_readLine_133 : decode y_M_readLine.2.1 133 = .ok (.bipush 100, 2) := by decide +kernel
theorem d_M_readLine_135 : decode y_M_readLine.2.1 135 = .ok (.invokevirtual 236, 3) := by decide +kernel
theorem d_M_readLine_138 : decode y_M_readLine.2.1 138 = .ok (.putfield 333, 3) := by decide +kernel
theorem d_M_readLine_141 : decode y_M_readLine.2.1 141 = .ok (.aload_n 0, 1) := by decide +kernel
theorem d_M_readLine_142 : decode y_M_readLine.2.1 142 = .ok (.aload_n 0, 1) := by decide +kernel
theorem d_M_readLine_143 : decode y_M_readLine.2.1 143 = .ok (.ldc2_w 180, 3) := by decide +kernel
theorem d_M_readLine_146 : decode y_M_readLine.2.1 146 = .ok (.iconst 1, 1) := by decide +kernel
theorem d_M_readLine_147 : decode y_M_readLine.2.1 147 = .ok (.bipush 20, 2) := by decide +kernel
theorem d_M_readLine_149 : decode y_M_readLine.2.1 149 = .ok (.invokevirtual 236, 3) := by decide +kernel
theorem d_M_readLine_152 : decode y_M_readLine.2.1 152 = .ok (.putfield 336, 3) := by decide +kernel
theorem d_M_readLine_155 : decode y_M_readLine.2.1 155 = .ok (.goto 87, 3) := by decide +kernel
theorem d_M_readLine_158 : decode y_M_readLine.2.1 158 = .ok (.aload_n 0, 1) := by decide +kernel
theorem d_M_readLine_159 : decode y_M_readLine.2.1 159 = .ok (.ldc2_w 198, 3) := by decide +kernel
theorem d_M_readLine_162 : decode y_M_readLine.2.1 162 = .ok (.invokevirtual 218, 3) := by decide +kernel
theorem d_M_readLine_165 : decode y_M_readLine.2.1 165 = .ok (.ifCond .eq 32, 3) := by decide +kernel
theorem d_M_readLine_168 : decode y_M_readLine.2.1 168 = .ok (.aload_n 0, 1) := by decide +kernel
theorem d_M_readLine_169 : decode y_M_readLine.2.1 169 = .ok (.getfield 339, 3) := by decide +kernel
theorem d_M_readLine_172 : decode y_M_readLine.2.1 172 = .ok (.ifCond .ne 25, 3) := by decide +kernel
theorem d_M_readLine_175 : decode y_M_readLine.2.1 175 = .ok (.aload_n 0, 1) := by decide +kernel
theorem d_M_readLine_176 : decode y_M_readLine.2.1 176 = .ok (.iconst 1, 1) := by decide +kernel
theorem d_M_readLine_177 : decode y_M_readLine.2.1 177 = .ok (.putfield 339, 3) := by decide +kernel
theorem d_M_readLine_180 : decode y_M_readLine.2.1 180 = .ok (.aload_n 0, 1) := by decide +kernel
theorem d_M_readLine_181 : decode y_M_readLine.2.1 181 = .ok (.aload_n 0, 1) := by decide +kernel
theorem d_M_readLine_182 : decode y_M_readLine.2.1 182 = .ok (.ldc2_w 198, 3) := by decide +kernel
theorem d_M_readLine_185 : decode y_M_readLine.2.1 185 = .ok (.iconst 1, 1) := by decide +kernel
theorem d_M_readLine_186 : decode y_M_readLine.2.1 186 = .ok (.bipush 9, 2) := by decide +kernel
theorem d_M_readLine_188 : decode y_M_readLine.2.1 188 = .ok (.invokevirtual 236, 3) := by decide +kernel
theorem d_M_readLine_191 : decode y_M_readLine.2.1 191 = .ok (.putfield 342, 3) := by decide +kernel
theorem d_M_readLine_194 : decode y_M_readLine.2.1 194 = .ok (.goto 48, 3) := by decide +kernel
theorem d_M_readLine_197 : decode y_M_readLine.2.1 197 = .ok (.aload_n 0, 1) := by decide +kernel
theorem d_M_readLine_198 : decode y_M_readLine.2.1 198 = .ok (.ldc2_w 200, 3) := by decide +kernel
theorem d_M_readLine_201 : decode y_M_readLine.2.1 201 = .ok (.invokevirtual 218, 3) := by decide +kernel
theorem d_M_readLine_204 : decode y_M_readLine.2.1 204 = .ok (.ifCond .eq 33, 3) := by decide +kernel
theorem d_M_readLine_207 : decode y_M_readLine.2.1 207 = .ok (.aload_n 0, 1) := by decide +kernel
theorem d_M_readLine_208 : decode y_M_readLine.2.1 208 = .ok (.getfield 345, 3) := by decide +kernel
theorem d_M_readLine_211 : decode y_M_readLine.2.1 211 = .ok (.ifCond .ne 26, 3) := by decide +kernel
theorem d_M_readLine_214 : decode y_M_readLine.2.1 214 = .ok (.aload_n 0, 1) := by decide +kernel
theorem d_M_readLine_215 : decode y_M_readLine.2.1 215 = .ok (.iconst 1, 1) := by decide +kernel
theorem d_M_readLine_216 : decode y_M_readLine.2.1 216 = .ok (.putfield 345, 3) := by decide +kernel
theorem d_M_readLine_219 : decode y_M_readLine.2.1 219 = .ok (.aload_n 0, 1) := by decide +kernel
theorem d_M_readLine_220 : decode y_M_readLine.2.1 220 = .ok (.aload_n 0, 1) := by decide +kernel
theorem d_M_readLine_221 : decode y_M_readLine.2.1 221 = .ok (.ldc2_w 200, 3) := by decide +kernel
theorem d_M_readLine_224 : decode y_M_readLine.2.1 224 = .ok (.iconst 0, 1) := by decide +kernel
theorem d_M_readLine_225 : decode y_M_readLine.2.1 225 = .ok (.sipush 999, 3) := by decide +kernel
theorem d_M_readLine_228 : decode y_M_readLine.2.1 228 = .ok (.invokevirtual 236, 3) := by decide +kernel
theorem d_M_readLine_231 : decode y_M_readLine.2.1 231 = .ok (.putfield 348, 3) := by decide +kernel
theorem d_M_readLine_234 : decode y_M_readLine.2.1 234 = .ok (.goto 8, 3) := by decide +kernel
theorem d_M_readLine_237 : decode y_M_readLine.2.1 237 = .ok (.aload_n 0, 1) := by decide +kernel
theorem d_M_readLine_238 : decode y_M_readLine.2.1 238 = .ok (.iconst 2, 1) := by decide +kernel
theorem d_M_readLine_239 : decode y_M_readLine.2.1 239 = .ok (.invokevirtual 222, 3) := by decide +kernel
theorem d_M_readLine_242 : decode y_M_readLine.2.1 242 = .ok (.aload_n 0, 1) := by decide +kernel
theorem d_M_readLine_243 : decode y_M_readLine.2.1 243 = .ok (.getfield 173, 3) := by decide +kernel
theorem d_M_readLine_246 : decode y_M_readLine.2.1 246 = .ok (.ifCond .ne 17, 3) := by decide +kernel
theorem d_M_readLine_249 : decode y_M_readLine.2.1 249 = .ok (.aload_n 0, 1) := by decide +kernel
theorem d_M_readLine_250 : decode y_M_readLine.2.1 250 = .ok (.getfield 160, 3) := by decide +kernel
theorem d_M_readLine_253 : decode y_M_readLine.2.1 253 = .ok (.bipush 59, 2) := by decide +kernel
theorem d_M_readLine_255 : decode y_M_readLine.2.1 255 = .ok (.if_icmp .eq 8, 3) := by decide +kernel
theorem d_M_readLine_258 : decode y_M_readLine.2.1 258 = .ok (.aload_n 0, 1) := by decide +kernel
theorem d_M_readLine_259 : decode y_M_readLine.2.1 259 = .ok (.iconst 2, 1) := by decide +kernel
theorem d_M_readLine_260 : decode y_M_readLine.2.1 260 = .ok (.invokevirtual 222, 3) := by decide +kernel
theorem d_M_readLine_263 : decode y_M_readLine.2.1 263 = .ok (.aload_n 0, 1) := by decide +kernel
theorem d_M_readLine_264 : decode y_M_readLine.2.1 264 = .ok (.getfield 173, 3) := by decide +kernel
theorem d_M_readLine_267 : decode y_M_readLine.2.1 267 = .ok (.ifCond .ne 7, 3) := by decide +kernel
theorem d_M_readLine_270 : decode y_M_readLine.2.1 270 = .ok (.aload_n 0, 1) := by decide +kernel
theorem d_M_readLine_271 : decode y_M_readLine.2.1 271 = .ok (.invokevirtual 225, 3) := by decide +kernel
theorem d_M_readLine_274 : decode y_M_readLine.2.1 274 = .ok (.return_, 1) := by decide +kernel

abbrev y_M_readAll : MI := (⟨"CricketHayModel", "readAll", "()V"⟩, prog_14_method_40_code, 1, none)
theorem hy_M_readAll : y_M_readAll.1.cls ≠ "java/lang/invoke/MethodHandle" ∧ y_M_readAll.1.cls ≠ "java/lang/invoke/VarHandle" ∧ (parseMethodDescriptor y_M_readAll.1.desc).map (fun d => d.parameters.length) = some 0 := by decide +kernel
theorem d_M_readAll_0 : decode y_M_readAll.2.1 0 = .ok (.aload_n 0, 1) := by decide +kernel
theorem d_M_readAll_1 : decode y_M_readAll.2.1 1 = .ok (.aload_n 0, 1) := by decide +kernel
theorem d_M_readAll_2 : decode y_M_readAll.2.1 2 = .ok (.getfield 133, 3) := by decide +kernel
theorem d_M_readAll_5 : decode y_M_readAll.2.1 5 = .ok (.putfield 143, 3) := by decide +kernel
theorem d_M_readAll_8 : decode y_M_readAll.2.1 8 = .ok (.aload_n 0, 1) := by decide +kernel
theorem d_M_readAll_9 : decode y_M_readAll.2.1 9 = .ok (.iconst 0, 1) := by decide +kernel
theorem d_M_readAll_10 : decode y_M_readAll.2.1 10 = .ok (.putfield 133, 3) := by decide +kernel
theorem d_M_readAll_13 : decode y_M_readAll.2.1 13 = .ok (.aload_n 0, 1) := by decide +kernel
theorem d_M_readAll_14 : decode y_M_readAll.2.1 14 = .ok (.iconst 0, 1) := by decide +kernel
theorem d_M_readAll_15 : decode y_M_readAll.2.1 15 = .ok (.putfield 140, 3) := by decide +kernel
theorem d_M_readAll_18 : decode y_M_readAll.2.1 18 = .ok (.aload_n 0, 1) := by decide +kernel
theorem d_M_readAll_19 : decode y_M_readAll.2.1 19 = .ok (.iconst 0, 1) := by decide +kernel
theorem d_M_readAll_20 : decode y_M_readAll.2.1 20 = .ok (.putfield 173, 3) := by decide +kernel
theorem d_M_readAll_23 : decode y_M_readAll.2.1 23 = .ok (.aload_n 0, 1) := by decide +kernel
theorem d_M_readAll_24 : decode y_M_readAll.2.1 24 = .ok (.iconst (-1), 1) := by decide +kernel
theorem d_M_readAll_25 : decode y_M_readAll.2.1 25 = .ok (.putfield 13, 3) := by decide +kernel
theorem d_M_readAll_28 : decode y_M_readAll.2.1 28 = .ok (.aload_n 0, 1) := by decide +kernel
theorem d_M_readAll_29 : decode y_M_readAll.2.1 29 = .ok (.iconst 0, 1) := by decide +kernel
theorem d_M_readAll_30 : decode y_M_readAll.2.1 30 = .ok (.putfield 307, 3) := by decide +kernel
theorem d_M_readAll_33 : decode y_M_readAll.2.1 33 = .ok (.aload_n 0, 1) := by decide +kernel
theorem d_M_readAll_34 : decode y_M_readAll.2.1 34 = .ok (.iconst 0, 1) := by decide +kernel
theorem d_M_readAll_35 : decode y_M_readAll.2.1 35 = .ok (.putfield 313, 3) := by decide +kernel
theorem d_M_readAll_38 : decode y_M_readAll.2.1 38 = .ok (.aload_n 0, 1) := by decide +kernel
theorem d_M_readAll_39 : decode y_M_readAll.2.1 39 = .ok (.iconst 0, 1) := by decide +kernel
theorem d_M_readAll_40 : decode y_M_readAll.2.1 40 = .ok (.putfield 333, 3) := by decide +kernel
theorem d_M_readAll_43 : decode y_M_readAll.2.1 43 = .ok (.aload_n 0, 1) := by decide +kernel
theorem d_M_readAll_44 : decode y_M_readAll.2.1 44 = .ok (.iconst 1, 1) := by decide +kernel
theorem d_M_readAll_45 : decode y_M_readAll.2.1 45 = .ok (.putfield 336, 3) := by decide +kernel
theorem d_M_readAll_48 : decode y_M_readAll.2.1 48 = .ok (.aload_n 0, 1) := by decide +kernel
theorem d_M_readAll_49 : decode y_M_readAll.2.1 49 = .ok (.iconst 3, 1) := by decide +kernel
theorem d_M_readAll_50 : decode y_M_readAll.2.1 50 = .ok (.putfield 342, 3) := by decide +kernel
theorem d_M_readAll_53 : decode y_M_readAll.2.1 53 = .ok (.aload_n 0, 1) := by decide +kernel
theorem d_M_readAll_54 : decode y_M_readAll.2.1 54 = .ok (.iconst 0, 1) := by decide +kernel
theorem d_M_readAll_55 : decode y_M_readAll.2.1 55 = .ok (.putfield 348, 3) := by decide +kernel
theorem d_M_readAll_58 : decode y_M_readAll.2.1 58 = .ok (.aload_n 0, 1) := by decide +kernel
theorem d_M_readAll_59 : decode y_M_readAll.2.1 59 = .ok (.iconst 0, 1) := by decide +kernel
theorem d_M_readAll_60 : decode y_M_readAll.2.1 60 = .ok (.putfield 329, 3) := by decide +kernel
theorem d_M_readAll_63 : decode y_M_readAll.2.1 63 = .ok (.aload_n 0, 1) := by decide +kernel
theorem d_M_readAll_64 : decode y_M_readAll.2.1 64 = .ok (.iconst 0, 1) := by decide +kernel
theorem d_M_readAll_65 : decode y_M_readAll.2.1 65 = .ok (.putfield 339, 3) := by decide +kernel
theorem d_M_readAll_68 : decode y_M_readAll.2.1 68 = .ok (.aload_n 0, 1) := by decide +kernel
theorem d_M_readAll_69 : decode y_M_readAll.2.1 69 = .ok (.iconst 0, 1) := by decide +kernel
theorem d_M_readAll_70 : decode y_M_readAll.2.1 70 = .ok (.putfield 345, 3) := by decide +kernel
theorem d_M_readAll_73 : decode y_M_readAll.2.1 73 = .ok (.aload_n 0, 1) := by decide +kernel
theorem d_M_readAll_74 : decode y_M_readAll.2.1 74 = .ok (.getfield 45, 3) := by decide +kernel
theorem d_M_readAll_77 : decode y_M_readAll.2.1 77 = .ok (.iconst 0, 1) := by decide +kernel
theorem d_M_readAll_78 : decode y_M_readAll.2.1 78 = .ok (.iconst 0, 1) := by decide +kernel
theorem d_M_readAll_79 : decode y_M_readAll.2.1 79 = .ok (.bastore, 1) := by decide +kernel
theorem d_M_readAll_80 : decode y_M_readAll.2.1 80 = .ok (.aload_n 0, 1) := by decide +kernel
theorem d_M_readAll_81 : decode y_M_readAll.2.1 81 = .ok (.getfield 45, 3) := by decide +kernel
theorem d_M_readAll_84 : decode y_M_readAll.2.1 84 = .ok (.iconst 1, 1) := by decide +kernel
theorem d_M_readAll_85 : decode y_M_readAll.2.1 85 = .ok (.iconst 0, 1) := by decide +kernel
theorem d_M_readAll_86 : decode y_M_readAll.2.1 86 = .ok (.bastore, 1) := by decide +kernel
theorem d_M_readAll_87 : decode y_M_readAll.2.1 87 = .ok (.aload_n 0, 1) := by decide +kernel
theorem d_M_readAll_88 : decode y_M_readAll.2.1 88 = .ok (.iconst 0, 1) := by decide +kernel
theorem d_M_readAll_89 : decode y_M_readAll.2.1 89 = .ok (.putfield 262, 3) := by decide +kernel
theorem d_M_readAll_92 : decode y_M_readAll.2.1 92 = .ok (.aload_n 0, 1) := by decide +kernel
theorem d_M_readAll_93 : decode y_M_readAll.2.1 93 = .ok (.invokevirtual 225, 3) := by decide +kernel
theorem d_M_readAll_96 : decode y_M_readAll.2.1 96 = .ok (.aload_n 0, 1) := by decide +kernel
theorem d_M_readAll_97 : decode y_M_readAll.2.1 97 = .ok (.getfield 173, 3) := by decide +kernel
theorem d_M_readAll_100 : decode y_M_readAll.2.1 100 = .ok (.ifCond .ne 17, 3) := by decide +kernel
theorem d_M_readAll_103 : decode y_M_readAll.2.1 103 = .ok (.aload_n 0, 1) := by decide +kernel
theorem d_M_readAll_104 : decode y_M_readAll.2.1 104 = .ok (.getfield 160, 3) := by decide +kernel
theorem d_M_readAll_107 : decode y_M_readAll.2.1 107 = .ok (.ifCond .eq 10, 3) := by decide +kernel
theorem d_M_readAll_110 : decode y_M_readAll.2.1 110 = .ok (.aload_n 0, 1) := by decide +kernel
theorem d_M_readAll_111 : decode y_M_readAll.2.1 111 = .ok (.invokevirtual 351, 3) := by decide +kernel
theorem d_M_readAll_114 : decode y_M_readAll.2.1 114 = .ok (.goto (-18), 3) := by decide +kernel
theorem d_M_readAll_117 : decode y_M_readAll.2.1 117 = .ok (.return_, 1) := by decide +kernel

abbrev y_M_market : MI := (⟨"CricketHayModel", "market", "()I"⟩, prog_14_method_41_code, 3, (some .int))
theorem hy_M_market : y_M_market.1.cls ≠ "java/lang/invoke/MethodHandle" ∧ y_M_market.1.cls ≠ "java/lang/invoke/VarHandle" ∧ (parseMethodDescriptor y_M_market.1.desc).map (fun d => d.parameters.length) = some 0 := by decide +kernel
theorem d_M_market_0 : decode y_M_market.2.1 0 = .ok (.aload_n 0, 1) := by decide +kernel
theorem d_M_market_1 : decode y_M_market.2.1 1 = .ok (.invokevirtual 354, 3) := by decide +kernel
theorem d_M_market_4 : decode y_M_market.2.1 4 = .ok (.aload_n 0, 1) := by decide +kernel
theorem d_M_market_5 : decode y_M_market.2.1 5 = .ok (.getfield 173, 3) := by decide +kernel
theorem d_M_market_8 : decode y_M_market.2.1 8 = .ok (.ifCond .le 5, 3) := by decide +kernel
theorem d_M_market_11 : decode y_M_market.2.1 11 = .ok (.iconst (-1), 1) := by decide +kernel
theorem d_M_market_12 : decode y_M_market.2.1 12 = .ok (.ireturn, 1) := by decide +kernel
theorem d_M_market_13 : decode y_M_market.2.1 13 = .ok (.aload_n 0, 1) := by decide +kernel
theorem d_M_market_14 : decode y_M_market.2.1 14 = .ok (.aload_n 0, 1) := by decide +kernel
theorem d_M_market_15 : decode y_M_market.2.1 15 = .ok (.getfield 307, 3) := by decide +kernel
theorem d_M_market_18 : decode y_M_market.2.1 18 = .ok (.putfield 357, 3) := by decide +kernel
theorem d_M_market_21 : decode y_M_market.2.1 21 = .ok (.aload_n 0, 1) := by decide +kernel
theorem d_M_market_22 : decode y_M_market.2.1 22 = .ok (.aload_n 0, 1) := by decide +kernel
theorem d_M_market_23 : decode y_M_market.2.1 23 = .ok (.getfield 313, 3) := by decide +kernel
theorem d_M_market_26 : decode y_M_market.2.1 26 = .ok (.putfield 360, 3) := by decide +kernel
theorem d_M_market_29 : decode y_M_market.2.1 29 = .ok (.aload_n 0, 1) := by decide +kernel
theorem d_M_market_30 : decode y_M_market.2.1 30 = .ok (.aload_n 0, 1) := by decide +kernel
theorem d_M_market_31 : decode y_M_market.2.1 31 = .ok (.getfield 333, 3) := by decide +kernel
theorem d_M_market_34 : decode y_M_market.2.1 34 = .ok (.putfield 363, 3) := by decide +kernel
theorem d_M_market_37 : decode y_M_market.2.1 37 = .ok (.aload_n 0, 1) := by decide +kernel
theorem d_M_market_38 : decode y_M_market.2.1 38 = .ok (.aload_n 0, 1) := by decide +kernel
theorem d_M_market_39 : decode y_M_market.2.1 39 = .ok (.getfield 336, 3) := by decide +kernel
theorem d_M_market_42 : decode y_M_market.2.1 42 = .ok (.putfield 79, 3) := by decide +kernel
theorem d_M_market_45 : decode y_M_market.2.1 45 = .ok (.aload_n 0, 1) := by decide +kernel
theorem d_M_market_46 : decode y_M_market.2.1 46 = .ok (.aload_n 0, 1) := by decide +kernel
theorem d_M_market_47 : decode y_M_market.2.1 47 = .ok (.getfield 342, 3) := by decide +kernel
theorem d_M_market_50 : decode y_M_market.2.1 50 = .ok (.putfield 82, 3) := by decide +kernel
theorem d_M_market_53 : decode y_M_market.2.1 53 = .ok (.aload_n 0, 1) := by decide +kernel
theorem d_M_market_54 : decode y_M_market.2.1 54 = .ok (.aload_n 0, 1) := by decide +kernel
theorem d_M_market_55 : decode y_M_market.2.1 55 = .ok (.getfield 262, 3) := by decide +kernel
theorem d_M_market_58 : decode y_M_market.2.1 58 = .ok (.putfield 366, 3) := by decide +kernel
theorem d_M_market_61 : decode y_M_market.2.1 61 = .ok (.iconst 0, 1) := by decide +kernel
theorem d_M_market_62 : decode y_M_market.2.1 62 = .ok (.istore_n 1, 1) := by decide +kernel
theorem d_M_market_63 : decode y_M_market.2.1 63 = .ok (.iload_n 1, 1) := by decide +kernel
theorem d_M_market_64 : decode y_M_market.2.1 64 = .ok (.iconst 2, 1) := by decide +kernel
theorem d_M_market_65 : decode y_M_market.2.1 65 = .ok (.if_icmp .ge 86, 3) := by decide +kernel
theorem d_M_market_68 : decode y_M_market.2.1 68 = .ok (.aload_n 0, 1) := by decide +kernel
theorem d_M_market_69 : decode y_M_market.2.1 69 = .ok (.getfield 36, 3) := by decide +kernel
theorem d_M_market_72 : decode y_M_market.2.1 72 = .ok (.iload_n 1, 1) := by decide +kernel
theorem d_M_market_73 : decode y_M_market.2.1 73 = .ok (.aload_n 0, 1) := by decide +kernel
theorem d_M_market_74 : decode y_M_market.2.1 74 = .ok (.getfield 45, 3) := by decide +kernel
theorem d_M_market_77 : decode y_M_market.2.1 77 = .ok (.iload_n 1, 1) := by decide +kernel
theorem d_M_market_78 : decode y_M_market.2.1 78 = .ok (.baload, 1) := by decide +kernel
theorem d_M_market_79 : decode y_M_market.2.1 79 = .ok (.ifCond .eq 12, 3) := by decide +kernel
theorem d_M_market_82 : decode y_M_market.2.1 82 = .ok (.aload_n 0, 1) := by decide +kernel
theorem d_M_market_83 : decode y_M_market.2.1 83 = .ok (.getfield 27, 3) := by decide +kernel
theorem d_M_market_86 : decode y_M_market.2.1 86 = .ok (.iload_n 1, 1) := by decide +kernel
theorem d_M_market_87 : decode y_M_market.2.1 87 = .ok (.iaload, 1) := by decide +kernel
theorem d_M_market_88 : decode y_M_market.2.1 88 = .ok (.goto 4, 3) := by decide +kernel
theorem d_M_market_91 : decode y_M_market.2.1 91 = .ok (.iconst 0, 1) := by decide +kernel
theorem d_M_market_92 : decode y_M_market.2.1 92 = .ok (.iastore, 1) := by decide +kernel
theorem d_M_market_93 : decode y_M_market.2.1 93 = .ok (.sipush 320, 3) := by decide +kernel
theorem d_M_market_96 : decode y_M_market.2.1 96 = .ok (.iload_n 1, 1) := by decide +kernel
theorem d_M_market_97 : decode y_M_market.2.1 97 = .ok (.imul, 1) := by decide +kernel
theorem d_M_market_98 : decode y_M_market.2.1 98 = .ok (.istore_n 2, 1) := by decide +kernel
theorem d_M_market_99 : decode y_M_market.2.1 99 = .ok (.iload_n 2, 1) := by decide +kernel
theorem d_M_market_100 : decode y_M_market.2.1 100 = .ok (.sipush 320, 3) := by decide +kernel
theorem d_M_market_103 : decode y_M_market.2.1 103 = .ok (.iload_n 1, 1) := by decide +kernel
theorem d_M_market_104 : decode y_M_market.2.1 104 = .ok (.imul, 1) := by decide +kernel
theorem d_M_market_105 : decode y_M_market.2.1 105 = .ok (.aload_n 0, 1) := by decide +kernel
theorem d_M_market_106 : decode y_M_market.2.1 106 = .ok (.getfield 36, 3) := by decide +kernel
theorem d_M_market_109 : decode y_M_market.2.1 109 = .ok (.iload_n 1, 1) := by decide +kernel
theorem d_M_market_110 : decode y_M_market.2.1 110 = .ok (.iaload, 1) := by decide +kernel
theorem d_M_market_111 : decode y_M_market.2.1 111 = .ok (.iadd, 1) := by decide +kernel
theorem d_M_market_112 : decode y_M_market.2.1 112 = .ok (.if_icmp .ge 33, 3) := by decide +kernel
theorem d_M_market_115 : decode y_M_market.2.1 115 = .ok (.aload_n 0, 1) := by decide +kernel
theorem d_M_market_116 : decode y_M_market.2.1 116 = .ok (.getfield 30, 3) := by decide +kernel
theorem d_M_market_119 : decode y_M_market.2.1 119 = .ok (.iload_n 2, 1) := by decide +kernel
theorem d_M_market_120 : decode y_M_market.2.1 120 = .ok (.aload_n 0, 1) := by decide +kernel
theorem d_M_market_121 : decode y_M_market.2.1 121 = .ok (.getfield 21, 3) := by decide +kernel
theorem d_M_market_124 : decode y_M_market.2.1 124 = .ok (.iload_n 2, 1) := by decide +kernel
theorem d_M_market_125 : decode y_M_market.2.1 125 = .ok (.iaload, 1) := by decide +kernel
theorem d_M_market_126 : decode y_M_market.2.1 126 = .ok (.iastore, 1) := by decide +kernel
theorem d_M_market_127 : decode y_M_market.2.1 127 = .ok (.aload_n 0, 1) := by decide +kernel
theorem d_M_market_128 : decode y_M_market.2.1 128 = .ok (.getfield 33, 3) := by decide +kernel
theorem d_M_market_131 : decode y_M_market.2.1 131 = .ok (.iload_n 2, 1) := by decide +kernel
theorem d_M_market_132 : decode y_M_market.2.1 132 = .ok (.aload_n 0, 1) := by decide +kernel
theorem d_M_market_133 : decode y_M_market.2.1 133 = .ok (.getfield 24, 3) := by decide +kernel
theorem d_M_market_136 : decode y_M_market.2.1 136 = .ok (.iload_n 2, 1) := by decide +kernel
theorem d_M_market_137 : decode y_M_market.2.1 137 = .ok (.iaload, 1) := by decide +kernel
theorem d_M_market_138 : decode y_M_market.2.1 138 = .ok (.iastore, 1) := by decide +kernel
theorem d_M_market_139 : decode y_M_market.2.1 139 = .ok (.iinc 2 1, 3) := by decide +kernel
theorem d_M_market_142 : decode y_M_market.2.1 142 = .ok (.goto (-43), 3) := by decide +kernel
theorem d_M_market_145 : decode y_M_market.2.1 145 = .ok (.iinc 1 1, 3) := by decide +kernel
theorem d_M_market_148 : decode y_M_market.2.1 148 = .ok (.goto (-85), 3) := by decide +kernel
theorem d_M_market_151 : decode y_M_market.2.1 151 = .ok (.iconst 0, 1) := by decide +kernel
theorem d_M_market_152 : decode y_M_market.2.1 152 = .ok (.istore_n 1, 1) := by decide +kernel
theorem d_M_market_153 : decode y_M_market.2.1 153 = .ok (.iload_n 1, 1) := by decide +kernel
theorem d_M_market_154 : decode y_M_market.2.1 154 = .ok (.bipush 35, 2) := by decide +kernel
theorem d_M_market_156 : decode y_M_market.2.1 156 = .ok (.if_icmp .ge 16, 3) := by decide +kernel
theorem d_M_market_159 : decode y_M_market.2.1 159 = .ok (.aload_n 0, 1) := by decide +kernel
theorem d_M_market_160 : decode y_M_market.2.1 160 = .ok (.getfield 85, 3) := by decide +kernel
theorem d_M_market_163 : decode y_M_market.2.1 163 = .ok (.iload_n 1, 1) := by decide +kernel
theorem d_M_market_164 : decode y_M_market.2.1 164 = .ok (.iconst 0, 1) := by decide +kernel
theorem d_M_market_165 : decode y_M_market.2.1 165 = .ok (.iastore, 1) := by decide +kernel
theorem d_M_market_166 : decode y_M_market.2.1 166 = .ok (.iinc 1 1, 3) := by decide +kernel
theorem d_M_market_169 : decode y_M_market.2.1 169 = .ok (.goto (-16), 3) := by decide +kernel
theorem d_M_market_172 : decode y_M_market.2.1 172 = .ok (.iconst 0, 1) := by decide +kernel
theorem d_M_market_173 : decode y_M_market.2.1 173 = .ok (.istore_n 1, 1) := by decide +kernel
theorem d_M_market_174 : decode y_M_market.2.1 174 = .ok (.iload_n 1, 1) := by decide +kernel
theorem d_M_market_175 : decode y_M_market.2.1 175 = .ok (.bipush 6, 2) := by decide +kernel
theorem d_M_market_177 : decode y_M_market.2.1 177 = .ok (.if_icmp .ge 98, 3) := by decide +kernel
theorem d_M_market_180 : decode y_M_market.2.1 180 = .ok (.aload_n 0, 1) := by decide +kernel
theorem d_M_market_181 : decode y_M_market.2.1 181 = .ok (.getfield 70, 3) := by decide +kernel
theorem d_M_market_184 : decode y_M_market.2.1 184 = .ok (.iload_n 1, 1) := by decide +kernel
theorem d_M_market_185 : decode y_M_market.2.1 185 = .ok (.aload_n 0, 1) := by decide +kernel
theorem d_M_market_186 : decode y_M_market.2.1 186 = .ok (.getfield 52, 3) := by decide +kernel
theorem d_M_market_189 : decode y_M_market.2.1 189 = .ok (.iload_n 1, 1) := by decide +kernel
theorem d_M_market_190 : decode y_M_market.2.1 190 = .ok (.iaload, 1) := by decide +kernel
theorem d_M_market_191 : decode y_M_market.2.1 191 = .ok (.iastore, 1) := by decide +kernel
theorem d_M_market_192 : decode y_M_market.2.1 192 = .ok (.aload_n 0, 1) := by decide +kernel
theorem d_M_market_193 : decode y_M_market.2.1 193 = .ok (.getfield 73, 3) := by decide +kernel
theorem d_M_market_196 : decode y_M_market.2.1 196 = .ok (.iload_n 1, 1) := by decide +kernel
theorem d_M_market_197 : decode y_M_market.2.1 197 = .ok (.aload_n 0, 1) := by decide +kernel
theorem d_M_market_198 : decode y_M_market.2.1 198 = .ok (.getfield 55, 3) := by decide +kernel
theorem d_M_market_201 : decode y_M_market.2.1 201 = .ok (.iload_n 1, 1) := by decide +kernel
theorem d_M_market_202 : decode y_M_market.2.1 202 = .ok (.iaload, 1) := by decide +kernel
theorem d_M_market_203 : decode y_M_market.2.1 203 = .ok (.iastore, 1) := by decide +kernel
theorem d_M_market_204 : decode y_M_market.2.1 204 = .ok (.aload_n 0, 1) := by decide +kernel
theorem d_M_market_205 : decode y_M_market.2.1 205 = .ok (.getfield 76, 3) := by decide +kernel
theorem d_M_market_208 : decode y_M_market.2.1 208 = .ok (.iload_n 1, 1) := by decide +kernel
theorem d_M_market_209 : decode y_M_market.2.1 209 = .ok (.aload_n 0, 1) := by decide +kernel
theorem d_M_market_210 : decode y_M_market.2.1 210 = .ok (.getfield 67, 3) := by decide +kernel
theorem d_M_market_213 : decode y_M_market.2.1 213 = .ok (.iload_n 1, 1) := by decide +kernel
theorem d_M_market_214 : decode y_M_market.2.1 214 = .ok (.iaload, 1) := by decide +kernel
theorem d_M_market_215 : decode y_M_market.2.1 215 = .ok (.iastore, 1) := by decide +kernel
theorem d_M_market_216 : decode y_M_market.2.1 216 = .ok (.iload_n 1, 1) := by decide +kernel
theorem d_M_market_217 : decode y_M_market.2.1 217 = .ok (.aload_n 0, 1) := by decide +kernel
theorem d_M_market_218 : decode y_M_market.2.1 218 = .ok (.getfield 360, 3) := by decide +kernel
theorem d_M_market_221 : decode y_M_market.2.1 221 = .ok (.if_icmp .lt 6, 3) := by decide +kernel
theorem d_M_market_224 : decode y_M_market.2.1 224 = .ok (.goto 45, 3) := by decide +kernel
theorem d_M_market_227 : decode y_M_market.2.1 227 = .ok (.aload_n 0, 1) := by decide +kernel
theorem d_M_market_228 : decode y_M_market.2.1 228 = .ok (.getfield 85, 3) := by decide +kernel
theorem d_M_market_231 : decode y_M_market.2.1 231 = .ok (.iload_n 1, 1) := by decide +kernel
theorem d_M_market_232 : decode y_M_market.2.1 232 = .ok (.aload_n 0, 1) := by decide +kernel
theorem d_M_market_233 : decode y_M_market.2.1 233 = .ok (.getfield 61, 3) := by decide +kernel
theorem d_M_market_236 : decode y_M_market.2.1 236 = .ok (.iload_n 1, 1) := by decide +kernel
theorem d_M_market_237 : decode y_M_market.2.1 237 = .ok (.iaload, 1) := by decide +kernel
theorem d_M_market_238 : decode y_M_market.2.1 238 = .ok (.iastore, 1) := by decide +kernel
theorem d_M_market_239 : decode y_M_market.2.1 239 = .ok (.aload_n 0, 1) := by decide +kernel
theorem d_M_market_240 : decode y_M_market.2.1 240 = .ok (.getfield 85, 3) := by decide +kernel
theorem d_M_market_243 : decode y_M_market.2.1 243 = .ok (.bipush 6, 2) := by decide +kernel
theorem d_M_market_245 : decode y_M_market.2.1 245 = .ok (.iload_n 1, 1) := by decide +kernel
theorem d_M_market_246 : decode y_M_market.2.1 246 = .ok (.iadd, 1) := by decide +kernel
theorem d_M_market_247 : decode y_M_market.2.1 247 = .ok (.aload_n 0, 1) := by decide +kernel
theorem d_M_market_248 : decode y_M_market.2.1 248 = .ok (.getfield 64, 3) := by decide +kernel
theorem d_M_market_251 : decode y_M_market.2.1 251 = .ok (.iload_n 1, 1) := by decide +kernel
theorem d_M_market_252 : decode y_M_market.2.1 252 = .ok (.iaload, 1) := by decide +kernel
theorem d_M_market_253 : decode y_M_market.2.1 253 = .ok (.iastore, 1) := by decide +kernel
theorem d_M_market_254 : decode y_M_market.2.1 254 = .ok (.aload_n 0, 1) := by decide +kernel
theorem d_M_market_255 : decode y_M_market.2.1 255 = .ok (.getfield 85, 3) := by decide +kernel
theorem d_M_market_258 : decode y_M_market.2.1 258 = .ok (.bipush 18, 2) := by decide +kernel
theorem d_M_market_260 : decode y_M_market.2.1 260 = .ok (.iload_n 1, 1) := by decide +kernel
theorem d_M_market_261 : decode y_M_market.2.1 261 = .ok (.iadd, 1) := by decide +kernel
theorem d_M_market_262 : decode y_M_market.2.1 262 = .ok (.aload_n 0, 1) := by decide +kernel
theorem d_M_market_263 : decode y_M_market.2.1 263 = .ok (.getfield 58, 3) := by decide +kernel
theorem d_M_market_266 : decode y_M_market.2.1 266 = .ok (.iload_n 1, 1) := by decide +kernel
theorem d_M_market_267 : decode y_M_market.2.1 267 = .ok (.iaload, 1) := by decide +kernel
theorem d_M_market_268 : decode y_M_market.2.1 268 = .ok (.iastore, 1) := by decide +kernel
theorem d_M_market_269 : decode y_M_market.2.1 269 = .ok (.iinc 1 1, 3) := by decide +kernel
theorem d_M_market_272 : decode y_M_market.2.1 272 = .ok (.goto (-98), 3) := by decide +kernel
theorem d_M_market_275 : decode y_M_market.2.1 275 = .ok (.aload_n 0, 1) := by decide +kernel
theorem d_M_market_276 : decode y_M_market.2.1 276 = .ok (.getfield 85, 3) := by decide +kernel
theorem d_M_market_279 : decode y_M_market.2.1 279 = .ok (.bipush 34, 2) := by decide +kernel
theorem d_M_market_281 : decode y_M_market.2.1 281 = .ok (.aload_n 0, 1) := by decide +kernel
theorem d_M_market_282 : decode y_M_market.2.1 282 = .ok (.getfield 348, 3) := by decide +kernel
theorem d_M_market_285 : decode y_M_market.2.1 285 = .ok (.iastore, 1) := by decide +kernel
theorem d_M_market_286 : decode y_M_market.2.1 286 = .ok (.aload_n 0, 1) := by decide +kernel
theorem d_M_market_287 : decode y_M_market.2.1 287 = .ok (.iconst 0, 1) := by decide +kernel
theorem d_M_market_288 : decode y_M_market.2.1 288 = .ok (.putfield 369, 3) := by decide +kernel
theorem d_M_market_291 : decode y_M_market.2.1 291 = .ok (.aload_n 0, 1) := by decide +kernel
theorem d_M_market_292 : decode y_M_market.2.1 292 = .ok (.iconst 0, 1) := by decide +kernel
theorem d_M_market_293 : decode y_M_market.2.1 293 = .ok (.putfield 372, 3) := by decide +kernel
theorem d_M_market_296 : decode y_M_market.2.1 296 = .ok (.aload_n 0, 1) := by decide +kernel
theorem d_M_market_297 : decode y_M_market.2.1 297 = .ok (.iconst 0, 1) := by decide +kernel
theorem d_M_market_298 : decode y_M_market.2.1 298 = .ok (.putfield 375, 3) := by decide +kernel
theorem d_M_market_301 : decode y_M_market.2.1 301 = .ok (.aload_n 0, 1) := by decide +kernel
theorem d_M_market_302 : decode y_M_market.2.1 302 = .ok (.iconst 0, 1) := by decide +kernel
theorem d_M_market_303 : decode y_M_market.2.1 303 = .ok (.putfield 378, 3) := by decide +kernel
theorem d_M_market_306 : decode y_M_market.2.1 306 = .ok (.iconst 0, 1) := by decide +kernel
theorem d_M_market_307 : decode y_M_market.2.1 307 = .ok (.istore_n 1, 1) := by decide +kernel
theorem d_M_market_308 : decode y_M_market.2.1 308 = .ok (.iload_n 1, 1) := by decide +kernel
theorem d_M_market_309 : decode y_M_market.2.1 309 = .ok (.iconst 3, 1) := by decide +kernel
theorem d_M_market_310 : decode y_M_market.2.1 310 = .ok (.if_icmp .ge 16, 3) := by decide +kernel
theorem d_M_market_313 : decode y_M_market.2.1 313 = .ok (.aload_n 0, 1) := by decide +kernel
theorem d_M_market_314 : decode y_M_market.2.1 314 = .ok (.getfield 127, 3) := by decide +kernel
theorem d_M_market_317 : decode y_M_market.2.1 317 = .ok (.iload_n 1, 1) := by decide +kernel
theorem d_M_market_318 : decode y_M_market.2.1 318 = .ok (.iconst 0, 1) := by decide +kernel
theorem d_M_market_319 : decode y_M_market.2.1 319 = .ok (.bastore, 1) := by decide +kernel
theorem d_M_market_320 : decode y_M_market.2.1 320 = .ok (.iinc 1 1, 3) := by decide +kernel
theorem d_M_market_323 : decode y_M_market.2.1 323 = .ok (.goto (-15), 3) := by decide +kernel
theorem d_M_market_326 : decode y_M_market.2.1 326 = .ok (.aload_n 0, 1) := by decide +kernel
theorem d_M_market_327 : decode y_M_market.2.1 327 = .ok (.getfield 360, 3) := by decide +kernel
theorem d_M_market_330 : decode y_M_market.2.1 330 = .ok (.ireturn, 1) := by decide +kernel

abbrev y_M_fault : MI := (⟨"CricketHayModel", "fault", "(I)I"⟩, prog_14_method_42_code, 2, (some .int))
theorem hy_M_fault : y_M_fault.1.cls ≠ "java/lang/invoke/MethodHandle" ∧ y_M_fault.1.cls ≠ "java/lang/invoke/VarHandle" ∧ (parseMethodDescriptor y_M_fault.1.desc).map (fun d => d.parameters.length) = some 1 := by decide +kernel
theorem d_M_fault_0 : decode y_M_fault.2.1 0 = .ok (.iload_n 1, 1) := by decide +kernel
theorem d_M_fault_1 : decode y_M_fault.2.1 1 = .ok (.ifCond .ne 10, 3) := by decide +kernel
theorem d_M_fault_4 : decode y_M_fault.2.1 4 = .ok (.aload_n 0, 1) := by decide +kernel
theorem d_M_fault_5 : decode y_M_fault.2.1 5 = .ok (.getfield 173, 3) := by decide +kernel
theorem d_M_fault_8 : decode y_M_fault.2.1 8 = .ok (.goto 16, 3) := by decide +kernel
theorem d_M_fault_11 : decode y_M_fault.2.1 11 = .ok (.iload_n 1, 1) := by decide +kernel
theorem d_M_fault_12 : decode y_M_fault.2.1 12 = .ok (.iconst 1, 1) := by decide +kernel
theorem d_M_fault_13 : decode y_M_fault.2.1 13 = .ok (.if_icmp .ne 10, 3) := by decide +kernel
theorem d_M_fault_16 : decode y_M_fault.2.1 16 = .ok (.aload_n 0, 1) := by decide +kernel
theorem d_M_fault_17 : decode y_M_fault.2.1 17 = .ok (.getfield 13, 3) := by decide +kernel
theorem d_M_fault_20 : decode y_M_fault.2.1 20 = .ok (.goto 4, 3) := by decide +kernel
theorem d_M_fault_23 : decode y_M_fault.2.1 23 = .ok (.iconst (-1), 1) := by decide +kernel
theorem d_M_fault_24 : decode y_M_fault.2.1 24 = .ok (.ireturn, 1) := by decide +kernel

abbrev y_M_isIn : MI := (⟨"CricketHayModel", "isIn", "(III)Z"⟩, prog_14_method_43_code, 3, (some .boolean))
theorem hy_M_isIn : y_M_isIn.1.cls ≠ "java/lang/invoke/MethodHandle" ∧ y_M_isIn.1.cls ≠ "java/lang/invoke/VarHandle" ∧ (parseMethodDescriptor y_M_isIn.1.desc).map (fun d => d.parameters.length) = some 3 := by decide +kernel
theorem d_M_isIn_0 : decode y_M_isIn.2.1 0 = .ok (.iload_n 0, 1) := by decide +kernel
theorem d_M_isIn_1 : decode y_M_isIn.2.1 1 = .ok (.iload_n 1, 1) := by decide +kernel
theorem d_M_isIn_2 : decode y_M_isIn.2.1 2 = .ok (.if_icmp .lt 12, 3) := by decide +kernel
theorem d_M_isIn_5 : decode y_M_isIn.2.1 5 = .ok (.iload_n 0, 1) := by decide +kernel
theorem d_M_isIn_6 : decode y_M_isIn.2.1 6 = .ok (.iload_n 2, 1) := by decide +kernel
theorem d_M_isIn_7 : decode y_M_isIn.2.1 7 = .ok (.if_icmp .gt 7, 3) := by decide +kernel
theorem d_M_isIn_10 : decode y_M_isIn.2.1 10 = .ok (.iconst 1, 1) := by decide +kernel
theorem d_M_isIn_11 : decode y_M_isIn.2.1 11 = .ok (.goto 4, 3) := by decide +kernel
theorem d_M_isIn_14 : decode y_M_isIn.2.1 14 = .ok (.iconst 0, 1) := by decide +kernel
theorem d_M_isIn_15 : decode y_M_isIn.2.1 15 = .ok (.ireturn, 1) := by decide +kernel

abbrev y_M_isDealer : MI := (⟨"CricketHayModel", "isDealer", "(I)Z"⟩, prog_14_method_44_code, 2, (some .boolean))
theorem hy_M_isDealer : y_M_isDealer.1.cls ≠ "java/lang/invoke/MethodHandle" ∧ y_M_isDealer.1.cls ≠ "java/lang/invoke/VarHandle" ∧ (parseMethodDescriptor y_M_isDealer.1.desc).map (fun d => d.parameters.length) = some 1 := by decide +kernel
theorem d_M_isDealer_0 : decode y_M_isDealer.2.1 0 = .ok (.iload_n 1, 1) := by decide +kernel
theorem d_M_isDealer_1 : decode y_M_isDealer.2.1 1 = .ok (.iconst 0, 1) := by decide +kernel
theorem d_M_isDealer_2 : decode y_M_isDealer.2.1 2 = .ok (.aload_n 0, 1) := by decide +kernel
theorem d_M_isDealer_3 : decode y_M_isDealer.2.1 3 = .ok (.getfield 360, 3) := by decide +kernel
theorem d_M_isDealer_6 : decode y_M_isDealer.2.1 6 = .ok (.iconst 1, 1) := by decide +kernel
theorem d_M_isDealer_7 : decode y_M_isDealer.2.1 7 = .ok (.isub, 1) := by decide +kernel
theorem d_M_isDealer_8 : decode y_M_isDealer.2.1 8 = .ok (.invokestatic 381, 3) := by decide +kernel
theorem d_M_isDealer_11 : decode y_M_isDealer.2.1 11 = .ok (.ireturn, 1) := by decide +kernel

abbrev y_M_areTwo : MI := (⟨"CricketHayModel", "areTwo", "(II)Z"⟩, prog_14_method_45_code, 3, (some .boolean))
theorem hy_M_areTwo : y_M_areTwo.1.cls ≠ "java/lang/invoke/MethodHandle" ∧ y_M_areTwo.1.cls ≠ "java/lang/invoke/VarHandle" ∧ (parseMethodDescriptor y_M_areTwo.1.desc).map (fun d => d.parameters.length) = some 2 := by decide +kernel
theorem d_M_areTwo_0 : decode y_M_areTwo.2.1 0 = .ok (.aload_n 0, 1) := by decide +kernel
theorem d_M_areTwo_1 : decode y_M_areTwo.2.1 1 = .ok (.iload_n 1, 1) := by decide +kernel
theorem d_M_areTwo_2 : decode y_M_areTwo.2.1 2 = .ok (.invokevirtual 385, 3) := by decide +kernel
theorem d_M_areTwo_5 : decode y_M_areTwo.2.1 5 = .ok (.ifCond .eq 20, 3) := by decide +kernel
theorem d_M_areTwo_8 : decode y_M_areTwo.2.1 8 = .ok (.aload_n 0, 1) := by decide +kernel
theorem d_M_areTwo_9 : decode y_M_areTwo.2.1 9 = .ok (.iload_n 2, 1) := by decide +kernel
theorem d_M_areTwo_10 : decode y_M_areTwo.2.1 10 = .ok (.invokevirtual 385, 3) := by decide +kernel
theorem d_M_areTwo_13 : decode y_M_areTwo.2.1 13 = .ok (.ifCond .eq 12, 3) := by decide +kernel
theorem d_M_areTwo_16 : decode y_M_areTwo.2.1 16 = .ok (.iload_n 1, 1) := by decide +kernel
theorem d_M_areTwo_17 : decode y_M_areTwo.2.1 17 = .ok (.iload_n 2, 1) := by decide +kernel
theorem d_M_areTwo_18 : decode y_M_areTwo.2.1 18 = .ok (.if_icmp .eq 7, 3) := by decide +kernel
theorem d_M_areTwo_21 : decode y_M_areTwo.2.1 21 = .ok (.iconst 1, 1) := by decide +kernel
theorem d_M_areTwo_22 : decode y_M_areTwo.2.1 22 = .ok (.goto 4, 3) := by decide +kernel
theorem d_M_areTwo_25 : decode y_M_areTwo.2.1 25 = .ok (.iconst 0, 1) := by decide +kernel
theorem d_M_areTwo_26 : decode y_M_areTwo.2.1 26 = .ok (.ireturn, 1) := by decide +kernel

abbrev y_M_load : MI := (⟨"CricketHayModel", "load", "()V"⟩, prog_14_method_46_code, 2, none)
theorem hy_M_load : y_M_load.1.cls ≠ "java/lang/invoke/MethodHandle" ∧ y_M_load.1.cls ≠ "java/lang/invoke/VarHandle" ∧ (parseMethodDescriptor y_M_load.1.desc).map (fun d => d.parameters.length) = some 0 := by decide +kernel
theorem d_M_load_0 : decode y_M_load.2.1 0 = .ok (.iconst 0, 1) := by decide +kernel
theorem d_M_load_1 : decode y_M_load.2.1 1 = .ok (.istore_n 1, 1) := by decide +kernel
theorem d_M_load_2 : decode y_M_load.2.1 2 = .ok (.iload_n 1, 1) := by decide +kernel
theorem d_M_load_3 : decode y_M_load.2.1 3 = .ok (.bipush 35, 2) := by decide +kernel
theorem d_M_load_5 : decode y_M_load.2.1 5 = .ok (.if_icmp .ge 21, 3) := by decide +kernel
theorem d_M_load_8 : decode y_M_load.2.1 8 = .ok (.aload_n 0, 1) := by decide +kernel
theorem d_M_load_9 : decode y_M_load.2.1 9 = .ok (.getfield 88, 3) := by decide +kernel
theorem d_M_load_12 : decode y_M_load.2.1 12 = .ok (.iload_n 1, 1) := by decide +kernel
theorem d_M_load_13 : decode y_M_load.2.1 13 = .ok (.aload_n 0, 1) := by decide +kernel
theorem d_M_load_14 : decode y_M_load.2.1 14 = .ok (.getfield 85, 3) := by decide +kernel
theorem d_M_load_17 : decode y_M_load.2.1 17 = .ok (.iload_n 1, 1) := by decide +kernel
theorem d_M_load_18 : decode y_M_load.2.1 18 = .ok (.iaload, 1) := by decide +kernel
theorem d_M_load_19 : decode y_M_load.2.1 19 = .ok (.iastore, 1) := by decide +kernel
theorem d_M_load_20 : decode y_M_load.2.1 20 = .ok (.iinc 1 1, 3) := by decide +kernel
theorem d_M_load_23 : decode y_M_load.2.1 23 = .ok (.goto (-21), 3) := by decide +kernel
theorem d_M_load_26 : decode y_M_load.2.1 26 = .ok (.return_, 1) := by decide +kernel

abbrev y_M_askOf : MI := (⟨"CricketHayModel", "askOf", "(IIII)V"⟩, prog_14_method_47_code, 5, none)
theorem hy_M_askOf : y_M_askOf.1.cls ≠ "java/lang/invoke/MethodHandle" ∧ y_M_askOf.1.cls ≠ "java/lang/invoke/VarHandle" ∧ (parseMethodDescriptor y_M_askOf.1.desc).map (fun d => d.parameters.length) = some 4 := by decide +kernel
theorem d_M_askOf_0 : decode y_M_askOf.2.1 0 = .ok (.aload_n 0, 1) := by decide +kernel
theorem d_M_askOf_1 : decode y_M_askOf.2.1 1 = .ok (.getfield 49, 3) := by decide +kernel
theorem d_M_askOf_4 : decode y_M_askOf.2.1 4 = .ok (.iconst 0, 1) := by decide +kernel
theorem d_M_askOf_5 : decode y_M_askOf.2.1 5 = .ok (.iload_n 1, 1) := by decide +kernel
theorem d_M_askOf_6 : decode y_M_askOf.2.1 6 = .ok (.iastore, 1) := by decide +kernel
theorem d_M_askOf_7 : decode y_M_askOf.2.1 7 = .ok (.aload_n 0, 1) := by decide +kernel
theorem d_M_askOf_8 : decode y_M_askOf.2.1 8 = .ok (.getfield 49, 3) := by decide +kernel
theorem d_M_askOf_11 : decode y_M_askOf.2.1 11 = .ok (.iconst 1, 1) := by decide +kernel
theorem d_M_askOf_12 : decode y_M_askOf.2.1 12 = .ok (.iload_n 2, 1) := by decide +kernel
theorem d_M_askOf_13 : decode y_M_askOf.2.1 13 = .ok (.iastore, 1) := by decide +kernel
theorem d_M_askOf_14 : decode y_M_askOf.2.1 14 = .ok (.aload_n 0, 1) := by decide +kernel
theorem d_M_askOf_15 : decode y_M_askOf.2.1 15 = .ok (.getfield 49, 3) := by decide +kernel
theorem d_M_askOf_18 : decode y_M_askOf.2.1 18 = .ok (.iconst 2, 1) := by decide +kernel
theorem d_M_askOf_19 : decode y_M_askOf.2.1 19 = .ok (.iload_n 3, 1) := by decide +kernel
theorem d_M_askOf_20 : decode y_M_askOf.2.1 20 = .ok (.iastore, 1) := by decide +kernel
theorem d_M_askOf_21 : decode y_M_askOf.2.1 21 = .ok (.aload_n 0, 1) := by decide +kernel
theorem d_M_askOf_22 : decode y_M_askOf.2.1 22 = .ok (.getfield 49, 3) := by decide +kernel
theorem d_M_askOf_25 : decode y_M_askOf.2.1 25 = .ok (.iconst 3, 1) := by decide +kernel
theorem d_M_askOf_26 : decode y_M_askOf.2.1 26 = .ok (.iload 4, 2) := by decide +kernel
theorem d_M_askOf_28 : decode y_M_askOf.2.1 28 = .ok (.iastore, 1) := by decide +kernel
theorem d_M_askOf_29 : decode y_M_askOf.2.1 29 = .ok (.aload_n 0, 1) := by decide +kernel
theorem d_M_askOf_30 : decode y_M_askOf.2.1 30 = .ok (.getfield 49, 3) := by decide +kernel
theorem d_M_askOf_33 : decode y_M_askOf.2.1 33 = .ok (.iconst 4, 1) := by decide +kernel
theorem d_M_askOf_34 : decode y_M_askOf.2.1 34 = .ok (.aload_n 0, 1) := by decide +kernel
theorem d_M_askOf_35 : decode y_M_askOf.2.1 35 = .ok (.getfield 88, 3) := by decide +kernel
theorem d_M_askOf_38 : decode y_M_askOf.2.1 38 = .ok (.bipush 32, 2) := by decide +kernel
theorem d_M_askOf_40 : decode y_M_askOf.2.1 40 = .ok (.iaload, 1) := by decide +kernel
theorem d_M_askOf_41 : decode y_M_askOf.2.1 41 = .ok (.iastore, 1) := by decide +kernel
theorem d_M_askOf_42 : decode y_M_askOf.2.1 42 = .ok (.aload_n 0, 1) := by decide +kernel
theorem d_M_askOf_43 : decode y_M_askOf.2.1 43 = .ok (.getfield 49, 3) := by decide +kernel
theorem d_M_askOf_46 : decode y_M_askOf.2.1 46 = .ok (.iconst 5, 1) := by decide +kernel
theorem d_M_askOf_47 : decode y_M_askOf.2.1 47 = .ok (.aload_n 0, 1) := by decide +kernel
theorem d_M_askOf_48 : decode y_M_askOf.2.1 48 = .ok (.getfield 88, 3) := by decide +kernel
theorem d_M_askOf_51 : decode y_M_askOf.2.1 51 = .ok (.bipush 33, 2) := by decide +kernel
theorem d_M_askOf_53 : decode y_M_askOf.2.1 53 = .ok (.iaload, 1) := by decide +kernel
theorem d_M_askOf_54 : decode y_M_askOf.2.1 54 = .ok (.iastore, 1) := by decide +kernel
theorem d_M_askOf_55 : decode y_M_askOf.2.1 55 = .ok (.return_, 1) := by decide +kernel

abbrev y_M_heatHere : MI := (⟨"CricketHayModel", "heatHere", "()I"⟩, prog_14_method_48_code, 1, (some .int))
theorem hy_M_heatHere : y_M_heatHere.1.cls ≠ "java/lang/invoke/MethodHandle" ∧ y_M_heatHere.1.cls ≠ "java/lang/invoke/VarHandle" ∧ (parseMethodDescriptor y_M_heatHere.1.desc).map (fun d => d.parameters.length) = some 0 := by decide +kernel
theorem d_M_heatHere_0 : decode y_M_heatHere.2.1 0 = .ok (.aload_n 0, 1) := by decide +kernel
theorem d_M_heatHere_1 : decode y_M_heatHere.2.1 1 = .ok (.iconst 0, 1) := by decide +kernel
theorem d_M_heatHere_2 : decode y_M_heatHere.2.1 2 = .ok (.iconst 0, 1) := by decide +kernel
theorem d_M_heatHere_3 : decode y_M_heatHere.2.1 3 = .ok (.iconst 0, 1) := by decide +kernel
theorem d_M_heatHere_4 : decode y_M_heatHere.2.1 4 = .ok (.iconst 0, 1) := by decide +kernel
theorem d_M_heatHere_5 : decode y_M_heatHere.2.1 5 = .ok (.invokevirtual 388, 3) := by decide +kernel
theorem d_M_heatHere_8 : decode y_M_heatHere.2.1 8 = .ok (.aload_n 0, 1) := by decide +kernel
theorem d_M_heatHere_9 : decode y_M_heatHere.2.1 9 = .ok (.iconst 1, 1) := by decide +kernel
theorem d_M_heatHere_10 : decode y_M_heatHere.2.1 10 = .ok (.bipush 20, 2) := by decide +kernel
theorem d_M_heatHere_12 : decode y_M_heatHere.2.1 12 = .ok (.invokevirtual 392, 3) := by decide +kernel
theorem d_M_heatHere_15 : decode y_M_heatHere.2.1 15 = .ok (.aload_n 0, 1) := by decide +kernel
theorem d_M_heatHere_16 : decode y_M_heatHere.2.1 16 = .ok (.getfield 88, 3) := by decide +kernel
theorem d_M_heatHere_19 : decode y_M_heatHere.2.1 19 = .ok (.bipush 31, 2) := by decide +kernel
theorem d_M_heatHere_21 : decode y_M_heatHere.2.1 21 = .ok (.iaload, 1) := by decide +kernel
theorem d_M_heatHere_22 : decode y_M_heatHere.2.1 22 = .ok (.isub, 1) := by decide +kernel
theorem d_M_heatHere_23 : decode y_M_heatHere.2.1 23 = .ok (.bipush 40, 2) := by decide +kernel
theorem d_M_heatHere_25 : decode y_M_heatHere.2.1 25 = .ok (.invokestatic 395, 3) := by decide +kernel
theorem d_M_heatHere_28 : decode y_M_heatHere.2.1 28 = .ok (.ireturn, 1) := by decide +kernel

abbrev y_M_isFree : MI := (⟨"CricketHayModel", "isFree", "(I)Z"⟩, prog_14_method_49_code, 2, (some .boolean))
theorem hy_M_isFree : y_M_isFree.1.cls ≠ "java/lang/invoke/MethodHandle" ∧ y_M_isFree.1.cls ≠ "java/lang/invoke/VarHandle" ∧ (parseMethodDescriptor y_M_isFree.1.desc).map (fun d => d.parameters.length) = some 1 := by decide +kernel
theorem d_M_isFree_0 : decode y_M_isFree.2.1 0 = .ok (.aload_n 0, 1) := by decide +kernel
theorem d_M_isFree_1 : decode y_M_isFree.2.1 1 = .ok (.getfield 88, 3) := by decide +kernel
theorem d_M_isFree_4 : decode y_M_isFree.2.1 4 = .ok (.bipush 30, 2) := by decide +kernel
theorem d_M_isFree_6 : decode y_M_isFree.2.1 6 = .ok (.iaload, 1) := by decide +kernel
theorem d_M_isFree_7 : decode y_M_isFree.2.1 7 = .ok (.iload_n 1, 1) := by decide +kernel
theorem d_M_isFree_8 : decode y_M_isFree.2.1 8 = .ok (.ishr, 1) := by decide +kernel
theorem d_M_isFree_9 : decode y_M_isFree.2.1 9 = .ok (.iconst 1, 1) := by decide +kernel
theorem d_M_isFree_10 : decode y_M_isFree.2.1 10 = .ok (.iand, 1) := by decide +kernel
theorem d_M_isFree_11 : decode y_M_isFree.2.1 11 = .ok (.iconst 1, 1) := by decide +kernel
theorem d_M_isFree_12 : decode y_M_isFree.2.1 12 = .ok (.if_icmp .ne 7, 3) := by decide +kernel
theorem d_M_isFree_15 : decode y_M_isFree.2.1 15 = .ok (.iconst 1, 1) := by decide +kernel
theorem d_M_isFree_16 : decode y_M_isFree.2.1 16 = .ok (.goto 4, 3) := by decide +kernel
theorem d_M_isFree_19 : decode y_M_isFree.2.1 19 = .ok (.iconst 0, 1) := by decide +kernel
theorem d_M_isFree_20 : decode y_M_isFree.2.1 20 = .ok (.ireturn, 1) := by decide +kernel

abbrev y_M_matesOf : MI := (⟨"CricketHayModel", "matesOf", "(I)I"⟩, prog_14_method_50_code, 4, (some .int))
theorem hy_M_matesOf : y_M_matesOf.1.cls ≠ "java/lang/invoke/MethodHandle" ∧ y_M_matesOf.1.cls ≠ "java/lang/invoke/VarHandle" ∧ (parseMethodDescriptor y_M_matesOf.1.desc).map (fun d => d.parameters.length) = some 1 := by decide +kernel
theorem d_M_matesOf_0 : decode y_M_matesOf.2.1 0 = .ok (.iconst 0, 1) := by decide +kernel
theorem d_M_matesOf_1 : decode y_M_matesOf.2.1 1 = .ok (.istore_n 2, 1) := by decide +kernel
theorem d_M_matesOf_2 : decode y_M_matesOf.2.1 2 = .ok (.iconst 0, 1) := by decide +kernel
theorem d_M_matesOf_3 : decode y_M_matesOf.2.1 3 = .ok (.istore_n 3, 1) := by decide +kernel
theorem d_M_matesOf_4 : decode y_M_matesOf.2.1 4 = .ok (.iload_n 3, 1) := by decide +kernel
theorem d_M_matesOf_5 : decode y_M_matesOf.2.1 5 = .ok (.aload_n 0, 1) := by decide +kernel
theorem d_M_matesOf_6 : decode y_M_matesOf.2.1 6 = .ok (.getfield 360, 3) := by decide +kernel
theorem d_M_matesOf_9 : decode y_M_matesOf.2.1 9 = .ok (.if_icmp .ge 48, 3) := by decide +kernel
theorem d_M_matesOf_12 : decode y_M_matesOf.2.1 12 = .ok (.iload_n 2, 1) := by decide +kernel
theorem d_M_matesOf_13 : decode y_M_matesOf.2.1 13 = .ok (.iload_n 3, 1) := by decide +kernel
theorem d_M_matesOf_14 : decode y_M_matesOf.2.1 14 = .ok (.iload_n 1, 1) := by decide +kernel
theorem d_M_matesOf_15 : decode y_M_matesOf.2.1 15 = .ok (.if_icmp .eq 30, 3) := by decide +kernel
theorem d_M_matesOf_18 : decode y_M_matesOf.2.1 18 = .ok (.aload_n 0, 1) := by decide +kernel
theorem d_M_matesOf_19 : decode y_M_matesOf.2.1 19 = .ok (.getfield 70, 3) := by decide +kernel
theorem d_M_matesOf_22 : decode y_M_matesOf.2.1 22 = .ok (.iload_n 3, 1) := by decide +kernel
theorem d_M_matesOf_23 : decode y_M_matesOf.2.1 23 = .ok (.iaload, 1) := by decide +kernel
theorem d_M_matesOf_24 : decode y_M_matesOf.2.1 24 = .ok (.aload_n 0, 1) := by decide +kernel
theorem d_M_matesOf_25 : decode y_M_matesOf.2.1 25 = .ok (.getfield 70, 3) := by decide +kernel
theorem d_M_matesOf_28 : decode y_M_matesOf.2.1 28 = .ok (.iload_n 1, 1) := by decide +kernel
theorem d_M_matesOf_29 : decode y_M_matesOf.2.1 29 = .ok (.iaload, 1) := by decide +kernel
theorem d_M_matesOf_30 : decode y_M_matesOf.2.1 30 = .ok (.if_icmp .ne 15, 3) := by decide +kernel
theorem d_M_matesOf_33 : decode y_M_matesOf.2.1 33 = .ok (.aload_n 0, 1) := by decide +kernel
theorem d_M_matesOf_34 : decode y_M_matesOf.2.1 34 = .ok (.iload_n 3, 1) := by decide +kernel
theorem d_M_matesOf_35 : decode y_M_matesOf.2.1 35 = .ok (.invokevirtual 398, 3) := by decide +kernel
theorem d_M_matesOf_38 : decode y_M_matesOf.2.1 38 = .ok (.ifCond .ne 7, 3) := by decide +kernel
theorem d_M_matesOf_41 : decode y_M_matesOf.2.1 41 = .ok (.iconst 1, 1) := by decide +kernel
theorem d_M_matesOf_42 : decode y_M_matesOf.2.1 42 = .ok (.goto 4, 3) := by decide +kernel
theorem d_M_matesOf_45 : decode y_M_matesOf.2.1 45 = .ok (.iconst 0, 1) := by decide +kernel
theorem d_M_matesOf_46 : decode y_M_matesOf.2.1 46 = .ok (.invokestatic 299, 3) := by decide +kernel
theorem d_M_matesOf_49 : decode y_M_matesOf.2.1 49 = .ok (.iadd, 1) := by decide +kernel
theorem d_M_matesOf_50 : decode y_M_matesOf.2.1 50 = .ok (.istore_n 2, 1) := by decide +kernel
theorem d_M_matesOf_51 : decode y_M_matesOf.2.1 51 = .ok (.iinc 3 1, 3) := by decide +kernel
theorem d_M_matesOf_54 : decode y_M_matesOf.2.1 54 = .ok (.goto (-50), 3) := by decide +kernel
theorem d_M_matesOf_57 : decode y_M_matesOf.2.1 57 = .ok (.iload_n 2, 1) := by decide +kernel
theorem d_M_matesOf_58 : decode y_M_matesOf.2.1 58 = .ok (.ireturn, 1) := by decide +kernel

abbrev y_M_chirpsAt : MI := (⟨"CricketHayModel", "chirpsAt", "(IIII)I"⟩, prog_14_method_51_code, 5, (some .int))
theorem hy_M_chirpsAt : y_M_chirpsAt.1.cls ≠ "java/lang/invoke/MethodHandle" ∧ y_M_chirpsAt.1.cls ≠ "java/lang/invoke/VarHandle" ∧ (parseMethodDescriptor y_M_chirpsAt.1.desc).map (fun d => d.parameters.length) = some 4 := by decide +kernel
theorem d_M_chirpsAt_0 : decode y_M_chirpsAt.2.1 0 = .ok (.aload_n 0, 1) := by decide +kernel
theorem d_M_chirpsAt_1 : decode y_M_chirpsAt.2.1 1 = .ok (.iload_n 1, 1) := by decide +kernel
theorem d_M_chirpsAt_2 : decode y_M_chirpsAt.2.1 2 = .ok (.iload_n 2, 1) := by decide +kernel
theorem d_M_chirpsAt_3 : decode y_M_chirpsAt.2.1 3 = .ok (.iload_n 3, 1) := by decide +kernel
theorem d_M_chirpsAt_4 : decode y_M_chirpsAt.2.1 4 = .ok (.iload 4, 2) := by decide +kernel
theorem d_M_chirpsAt_6 : decode y_M_chirpsAt.2.1 6 = .ok (.invokevirtual 388, 3) := by decide +kernel
theorem d_M_chirpsAt_9 : decode y_M_chirpsAt.2.1 9 = .ok (.aload_n 0, 1) := by decide +kernel
theorem d_M_chirpsAt_10 : decode y_M_chirpsAt.2.1 10 = .ok (.iconst 0, 1) := by decide +kernel
theorem d_M_chirpsAt_11 : decode y_M_chirpsAt.2.1 11 = .ok (.iload_n 1, 1) := by decide +kernel
theorem d_M_chirpsAt_12 : decode y_M_chirpsAt.2.1 12 = .ok (.iload_n 2, 1) := by decide +kernel
theorem d_M_chirpsAt_13 : decode y_M_chirpsAt.2.1 13 = .ok (.iadd, 1) := by decide +kernel
theorem d_M_chirpsAt_14 : decode y_M_chirpsAt.2.1 14 = .ok (.invokevirtual 392, 3) := by decide +kernel
theorem d_M_chirpsAt_17 : decode y_M_chirpsAt.2.1 17 = .ok (.bipush 99, 2) := by decide +kernel
theorem d_M_chirpsAt_19 : decode y_M_chirpsAt.2.1 19 = .ok (.invokestatic 395, 3) := by decide +kernel
theorem d_M_chirpsAt_22 : decode y_M_chirpsAt.2.1 22 = .ok (.ireturn, 1) := by decide +kernel

abbrev y_M_chirpsOf : MI := (⟨"CricketHayModel", "chirpsOf", "(I)I"⟩, prog_14_method_52_code, 3, (some .int))
theorem hy_M_chirpsOf : y_M_chirpsOf.1.cls ≠ "java/lang/invoke/MethodHandle" ∧ y_M_chirpsOf.1.cls ≠ "java/lang/invoke/VarHandle" ∧ (parseMethodDescriptor y_M_chirpsOf.1.desc).map (fun d => d.parameters.length) = some 1 := by decide +kernel
theorem d_M_chirpsOf_0 : decode y_M_chirpsOf.2.1 0 = .ok (.aload_n 0, 1) := by decide +kernel
theorem d_M_chirpsOf_1 : decode y_M_chirpsOf.2.1 1 = .ok (.iload_n 1, 1) := by decide +kernel
theorem d_M_chirpsOf_2 : decode y_M_chirpsOf.2.1 2 = .ok (.invokevirtual 398, 3) := by decide +kernel
theorem d_M_chirpsOf_5 : decode y_M_chirpsOf.2.1 5 = .ok (.ifCond .eq 5, 3) := by decide +kernel
theorem d_M_chirpsOf_8 : decode y_M_chirpsOf.2.1 8 = .ok (.iconst 0, 1) := by decide +kernel
theorem d_M_chirpsOf_9 : decode y_M_chirpsOf.2.1 9 = .ok (.ireturn, 1) := by decide +kernel
theorem d_M_chirpsOf_10 : decode y_M_chirpsOf.2.1 10 = .ok (.aload_n 0, 1) := by decide +kernel
theorem d_M_chirpsOf_11 : decode y_M_chirpsOf.2.1 11 = .ok (.invokevirtual 401, 3) := by decide +kernel
theorem d_M_chirpsOf_14 : decode y_M_chirpsOf.2.1 14 = .ok (.aload_n 0, 1) := by decide +kernel
theorem d_M_chirpsOf_15 : decode y_M_chirpsOf.2.1 15 = .ok (.getfield 88, 3) := by decide +kernel
theorem d_M_chirpsOf_18 : decode y_M_chirpsOf.2.1 18 = .ok (.bipush 24, 2) := by decide +kernel
theorem d_M_chirpsOf_20 : decode y_M_chirpsOf.2.1 20 = .ok (.iload_n 1, 1) := by decide +kernel
theorem d_M_chirpsOf_21 : decode y_M_chirpsOf.2.1 21 = .ok (.iadd, 1) := by decide +kernel
theorem d_M_chirpsOf_22 : decode y_M_chirpsOf.2.1 22 = .ok (.iaload, 1) := by decide +kernel
theorem d_M_chirpsOf_23 : decode y_M_chirpsOf.2.1 23 = .ok (.iadd, 1) := by decide +kernel
theorem d_M_chirpsOf_24 : decode y_M_chirpsOf.2.1 24 = .ok (.bipush 40, 2) := by decide +kernel
theorem d_M_chirpsOf_26 : decode y_M_chirpsOf.2.1 26 = .ok (.invokestatic 395, 3) := by decide +kernel
theorem d_M_chirpsOf_29 : decode y_M_chirpsOf.2.1 29 = .ok (.istore_n 2, 1) := by decide +kernel
theorem d_M_chirpsOf_30 : decode y_M_chirpsOf.2.1 30 = .ok (.aload_n 0, 1) := by decide +kernel
theorem d_M_chirpsOf_31 : decode y_M_chirpsOf.2.1 31 = .ok (.iload_n 2, 1) := by decide +kernel
theorem d_M_chirpsOf_32 : decode y_M_chirpsOf.2.1 32 = .ok (.aload_n 0, 1) := by decide +kernel
theorem d_M_chirpsOf_33 : decode y_M_chirpsOf.2.1 33 = .ok (.getfield 73, 3) := by decide +kernel
theorem d_M_chirpsOf_36 : decode y_M_chirpsOf.2.1 36 = .ok (.iload_n 1, 1) := by decide +kernel
theorem d_M_chirpsOf_37 : decode y_M_chirpsOf.2.1 37 = .ok (.iaload, 1) := by decide +kernel
theorem d_M_chirpsOf_38 : decode y_M_chirpsOf.2.1 38 = .ok (.aload_n 0, 1) := by decide +kernel
theorem d_M_chirpsOf_39 : decode y_M_chirpsOf.2.1 39 = .ok (.getfield 88, 3) := by decide +kernel
theorem d_M_chirpsOf_42 : decode y_M_chirpsOf.2.1 42 = .ok (.bipush 18, 2) := by decide +kernel
theorem d_M_chirpsOf_44 : decode y_M_chirpsOf.2.1 44 = .ok (.iload_n 1, 1) := by decide +kernel
theorem d_M_chirpsOf_45 : decode y_M_chirpsOf.2.1 45 = .ok (.iadd, 1) := by decide +kernel
theorem d_M_chirpsOf_46 : decode y_M_chirpsOf.2.1 46 = .ok (.iaload, 1) := by decide +kernel
theorem d_M_chirpsOf_47 : decode y_M_chirpsOf.2.1 47 = .ok (.aload_n 0, 1) := by decide +kernel
theorem d_M_chirpsOf_48 : decode y_M_chirpsOf.2.1 48 = .ok (.iload_n 1, 1) := by decide +kernel
theorem d_M_chirpsOf_49 : decode y_M_chirpsOf.2.1 49 = .ok (.invokevirtual 404, 3) := by decide +kernel
theorem d_M_chirpsOf_52 : decode y_M_chirpsOf.2.1 52 = .ok (.invokevirtual 407, 3) := by decide +kernel
theorem d_M_chirpsOf_55 : decode y_M_chirpsOf.2.1 55 = .ok (.ireturn, 1) := by decide +kernel

abbrev y_M_priceOf : MI := (⟨"CricketHayModel", "priceOf", "(II)I"⟩, prog_14_method_53_code, 3, (some .int))
theorem hy_M_priceOf : y_M_priceOf.1.cls ≠ "java/lang/invoke/MethodHandle" ∧ y_M_priceOf.1.cls ≠ "java/lang/invoke/VarHandle" ∧ (parseMethodDescriptor y_M_priceOf.1.desc).map (fun d => d.parameters.length) = some 2 := by decide +kernel
theorem d_M_priceOf_0 : decode y_M_priceOf.2.1 0 = .ok (.aload_n 0, 1) := by decide +kernel
theorem d_M_priceOf_1 : decode y_M_priceOf.2.1 1 = .ok (.iload_n 1, 1) := by decide +kernel
theorem d_M_priceOf_2 : decode y_M_priceOf.2.1 2 = .ok (.invokevirtual 411, 3) := by decide +kernel
theorem d_M_priceOf_5 : decode y_M_priceOf.2.1 5 = .ok (.aload_n 0, 1) := by decide +kernel
theorem d_M_priceOf_6 : decode y_M_priceOf.2.1 6 = .ok (.iload_n 2, 1) := by decide +kernel
theorem d_M_priceOf_7 : decode y_M_priceOf.2.1 7 = .ok (.invokevirtual 411, 3) := by decide +kernel
theorem d_M_priceOf_10 : decode y_M_priceOf.2.1 10 = .ok (.iadd, 1) := by decide +kernel
theorem d_M_priceOf_11 : decode y_M_priceOf.2.1 11 = .ok (.iconst 2, 1) := by decide +kernel
theorem d_M_priceOf_12 : decode y_M_priceOf.2.1 12 = .ok (.idiv, 1) := by decide +kernel
theorem d_M_priceOf_13 : decode y_M_priceOf.2.1 13 = .ok (.ireturn, 1) := by decide +kernel

abbrev y_M_eat : MI := (⟨"CricketHayModel", "eat", "(I)V"⟩, prog_14_method_54_code, 3, none)
theorem hy_M_eat : y_M_eat.1.cls ≠ "java/lang/invoke/MethodHandle" ∧ y_M_eat.1.cls ≠ "java/lang/invoke/VarHandle" ∧ (parseMethodDescriptor y_M_eat.1.desc).map (fun d => d.parameters.length) = some 1 := by decide +kernel
theorem d_M_eat_0 : decode y_M_eat.2.1 0 = .ok (.aload_n 0, 1) := by decide +kernel
theorem d_M_eat_1 : decode y_M_eat.2.1 1 = .ok (.getfield 76, 3) := by decide +kernel
theorem d_M_eat_4 : decode y_M_eat.2.1 4 = .ok (.iload_n 1, 1) := by decide +kernel
theorem d_M_eat_5 : decode y_M_eat.2.1 5 = .ok (.iaload, 1) := by decide +kernel
theorem d_M_eat_6 : decode y_M_eat.2.1 6 = .ok (.aload_n 0, 1) := by decide +kernel
theorem d_M_eat_7 : decode y_M_eat.2.1 7 = .ok (.getfield 88, 3) := by decide +kernel
theorem d_M_eat_10 : decode y_M_eat.2.1 10 = .ok (.bipush 6, 2) := by decide +kernel
theorem d_M_eat_12 : decode y_M_eat.2.1 12 = .ok (.iload_n 1, 1) := by decide +kernel
theorem d_M_eat_13 : decode y_M_eat.2.1 13 = .ok (.iadd, 1) := by decide +kernel
theorem d_M_eat_14 : decode y_M_eat.2.1 14 = .ok (.iaload, 1) := by decide +kernel
theorem d_M_eat_15 : decode y_M_eat.2.1 15 = .ok (.isub, 1) := by decide +kernel
theorem d_M_eat_16 : decode y_M_eat.2.1 16 = .ok (.istore_n 2, 1) := by decide +kernel
theorem d_M_eat_17 : decode y_M_eat.2.1 17 = .ok (.aload_n 0, 1) := by decide +kernel
theorem d_M_eat_18 : decode y_M_eat.2.1 18 = .ok (.getfield 88, 3) := by decide +kernel
theorem d_M_eat_21 : decode y_M_eat.2.1 21 = .ok (.bipush 6, 2) := by decide +kernel
theorem d_M_eat_23 : decode y_M_eat.2.1 23 = .ok (.iload_n 1, 1) := by decide +kernel
theorem d_M_eat_24 : decode y_M_eat.2.1 24 = .ok (.iadd, 1) := by decide +kernel
theorem d_M_eat_25 : decode y_M_eat.2.1 25 = .ok (.dup2, 1) := by decide +kernel
theorem d_M_eat_26 : decode y_M_eat.2.1 26 = .ok (.iaload, 1) := by decide +kernel
theorem d_M_eat_27 : decode y_M_eat.2.1 27 = .ok (.iload_n 2, 1) := by decide +kernel
theorem d_M_eat_28 : decode y_M_eat.2.1 28 = .ok (.ifCond .le 15, 3) := by decide +kernel
theorem d_M_eat_31 : decode y_M_eat.2.1 31 = .ok (.aload_n 0, 1) := by decide +kernel
theorem d_M_eat_32 : decode y_M_eat.2.1 32 = .ok (.getfield 88, 3) := by decide +kernel
theorem d_M_eat_35 : decode y_M_eat.2.1 35 = .ok (.bipush 6, 2) := by decide +kernel
theorem d_M_eat_37 : decode y_M_eat.2.1 37 = .ok (.iload_n 1, 1) := by decide +kernel
theorem d_M_eat_38 : decode y_M_eat.2.1 38 = .ok (.iadd, 1) := by decide +kernel
theorem d_M_eat_39 : decode y_M_eat.2.1 39 = .ok (.iaload, 1) := by decide +kernel
theorem d_M_eat_40 : decode y_M_eat.2.1 40 = .ok (.goto 9, 3) := by decide +kernel
theorem d_M_eat_43 : decode y_M_eat.2.1 43 = .ok (.aload_n 0, 1) := by decide +kernel
theorem d_M_eat_44 : decode y_M_eat.2.1 44 = .ok (.getfield 76, 3) := by decide +kernel
theorem d_M_eat_47 : decode y_M_eat.2.1 47 = .ok (.iload_n 1, 1) := by decide +kernel
theorem d_M_eat_48 : decode y_M_eat.2.1 48 = .ok (.iaload, 1) := by decide +kernel
theorem d_M_eat_49 : decode y_M_eat.2.1 49 = .ok (.isub, 1) := by decide +kernel
theorem d_M_eat_50 : decode y_M_eat.2.1 50 = .ok (.iastore, 1) := by decide +kernel
theorem d_M_eat_51 : decode y_M_eat.2.1 51 = .ok (.aload_n 0, 1) := by decide +kernel
theorem d_M_eat_52 : decode y_M_eat.2.1 52 = .ok (.getfield 88, 3) := by decide +kernel
theorem d_M_eat_55 : decode y_M_eat.2.1 55 = .ok (.bipush 12, 2) := by decide +kernel
theorem d_M_eat_57 : decode y_M_eat.2.1 57 = .ok (.iload_n 1, 1) := by decide +kernel
theorem d_M_eat_58 : decode y_M_eat.2.1 58 = .ok (.iadd, 1) := by decide +kernel
theorem d_M_eat_59 : decode y_M_eat.2.1 59 = .ok (.dup2, 1) := by decide +kernel
theorem d_M_eat_60 : decode y_M_eat.2.1 60 = .ok (.iaload, 1) := by decide +kernel
theorem d_M_eat_61 : decode y_M_eat.2.1 61 = .ok (.iload_n 2, 1) := by decide +kernel
theorem d_M_eat_62 : decode y_M_eat.2.1 62 = .ok (.ifCond .le 7, 3) := by decide +kernel
theorem d_M_eat_65 : decode y_M_eat.2.1 65 = .ok (.iload_n 2, 1) := by decide +kernel
theorem d_M_eat_66 : decode y_M_eat.2.1 66 = .ok (.goto 4, 3) := by decide +kernel
theorem d_M_eat_69 : decode y_M_eat.2.1 69 = .ok (.iconst 0, 1) := by decide +kernel
theorem d_M_eat_70 : decode y_M_eat.2.1 70 = .ok (.iadd, 1) := by decide +kernel
theorem d_M_eat_71 : decode y_M_eat.2.1 71 = .ok (.iastore, 1) := by decide +kernel
theorem d_M_eat_72 : decode y_M_eat.2.1 72 = .ok (.aload_n 0, 1) := by decide +kernel
theorem d_M_eat_73 : decode y_M_eat.2.1 73 = .ok (.getfield 88, 3) := by decide +kernel
theorem d_M_eat_76 : decode y_M_eat.2.1 76 = .ok (.bipush 18, 2) := by decide +kernel
theorem d_M_eat_78 : decode y_M_eat.2.1 78 = .ok (.iload_n 1, 1) := by decide +kernel
theorem d_M_eat_79 : decode y_M_eat.2.1 79 = .ok (.iadd, 1) := by decide +kernel
theorem d_M_eat_80 : decode y_M_eat.2.1 80 = .ok (.iaload, 1) := by decide +kernel
theorem d_M_eat_81 : decode y_M_eat.2.1 81 = .ok (.bipush 99, 2) := by decide +kernel
theorem d_M_eat_83 : decode y_M_eat.2.1 83 = .ok (.if_icmp .ge 16, 3) := by decide +kernel
theorem d_M_eat_86 : decode y_M_eat.2.1 86 = .ok (.aload_n 0, 1) := by decide +kernel
theorem d_M_eat_87 : decode y_M_eat.2.1 87 = .ok (.getfield 88, 3) := by decide +kernel
theorem d_M_eat_90 : decode y_M_eat.2.1 90 = .ok (.bipush 18, 2) := by decide +kernel
theorem d_M_eat_92 : decode y_M_eat.2.1 92 = .ok (.iload_n 1, 1) := by decide +kernel
theorem d_M_eat_93 : decode y_M_eat.2.1 93 = .ok (.iadd, 1) := by decide +kernel
theorem d_M_eat_94 : decode y_M_eat.2.1 94 = .ok (.dup2, 1) := by decide +kernel
theorem d_M_eat_95 : decode y_M_eat.2.1 95 = .ok (.iaload, 1) := by decide +kernel
theorem d_M_eat_96 : decode y_M_eat.2.1 96 = .ok (.iconst 1, 1) := by decide +kernel
theorem d_M_eat_97 : decode y_M_eat.2.1 97 = .ok (.iadd, 1) := by decide +kernel
theorem d_M_eat_98 : decode y_M_eat.2.1 98 = .ok (.iastore, 1) := by decide +kernel
theorem d_M_eat_99 : decode y_M_eat.2.1 99 = .ok (.return_, 1) := by decide +kernel

abbrev y_M_pass : MI := (⟨"CricketHayModel", "pass", "(Z)V"⟩, prog_14_method_55_code, 3, none)
theorem hy_M_pass : y_M_pass.1.cls ≠ "java/lang/invoke/MethodHandle" ∧ y_M_pass.1.cls ≠ "java/lang/invoke/VarHandle" ∧ (parseMethodDescriptor y_M_pass.1.desc).map (fun d => d.parameters.length) = some 1 := by decide +kernel
theorem d_M_pass_0 : decode y_M_pass.2.1 0 = .ok (.aload_n 0, 1) := by decide +kernel
theorem d_M_pass_1 : decode y_M_pass.2.1 1 = .ok (.getfield 88, 3) := by decide +kernel
theorem d_M_pass_4 : decode y_M_pass.2.1 4 = .ok (.bipush 31, 2) := by decide +kernel
theorem d_M_pass_6 : decode y_M_pass.2.1 6 = .ok (.iaload, 1) := by decide +kernel
theorem d_M_pass_7 : decode y_M_pass.2.1 7 = .ok (.ifCond .le 14, 3) := by decide +kernel
theorem d_M_pass_10 : decode y_M_pass.2.1 10 = .ok (.aload_n 0, 1) := by decide +kernel
theorem d_M_pass_11 : decode y_M_pass.2.1 11 = .ok (.getfield 88, 3) := by decide +kernel
theorem d_M_pass_14 : decode y_M_pass.2.1 14 = .ok (.bipush 31, 2) := by decide +kernel
theorem d_M_pass_16 : decode y_M_pass.2.1 16 = .ok (.dup2, 1) := by decide +kernel
theorem d_M_pass_17 : decode y_M_pass.2.1 17 = .ok (.iaload, 1) := by decide +kernel
theorem d_M_pass_18 : decode y_M_pass.2.1 18 = .ok (.iconst 1, 1) := by decide +kernel
theorem d_M_pass_19 : decode y_M_pass.2.1 19 = .ok (.isub, 1) := by decide +kernel
theorem d_M_pass_20 : decode y_M_pass.2.1 20 = .ok (.iastore, 1) := by decide +kernel
theorem d_M_pass_21 : decode y_M_pass.2.1 21 = .ok (.iload_n 1, 1) := by decide +kernel
theorem d_M_pass_22 : decode y_M_pass.2.1 22 = .ok (.ifCond .eq 27, 3) := by decide +kernel
theorem d_M_pass_25 : decode y_M_pass.2.1 25 = .ok (.aload_n 0, 1) := by decide +kernel
theorem d_M_pass_26 : decode y_M_pass.2.1 26 = .ok (.getfield 88, 3) := by decide +kernel
theorem d_M_pass_29 : decode y_M_pass.2.1 29 = .ok (.bipush 31, 2) := by decide +kernel
theorem d_M_pass_31 : decode y_M_pass.2.1 31 = .ok (.aload_n 0, 1) := by decide +kernel
theorem d_M_pass_32 : decode y_M_pass.2.1 32 = .ok (.getfield 88, 3) := by decide +kernel
theorem d_M_pass_35 : decode y_M_pass.2.1 35 = .ok (.bipush 31, 2) := by decide +kernel
theorem d_M_pass_37 : decode y_M_pass.2.1 37 = .ok (.iaload, 1) := by decide +kernel
theorem d_M_pass_38 : decode y_M_pass.2.1 38 = .ok (.aload_n 0, 1) := by decide +kernel
theorem d_M_pass_39 : decode y_M_pass.2.1 39 = .ok (.getfield 79, 3) := by decide +kernel
theorem d_M_pass_42 : decode y_M_pass.2.1 42 = .ok (.iadd, 1) := by decide +kernel
theorem d_M_pass_43 : decode y_M_pass.2.1 43 = .ok (.bipush 40, 2) := by decide +kernel
theorem d_M_pass_45 : decode y_M_pass.2.1 45 = .ok (.invokestatic 395, 3) := by decide +kernel
theorem d_M_pass_48 : decode y_M_pass.2.1 48 = .ok (.iastore, 1) := by decide +kernel
theorem d_M_pass_49 : decode y_M_pass.2.1 49 = .ok (.iconst 0, 1) := by decide +kernel
theorem d_M_pass_50 : decode y_M_pass.2.1 50 = .ok (.istore_n 2, 1) := by decide +kernel
theorem d_M_pass_51 : decode y_M_pass.2.1 51 = .ok (.iload_n 2, 1) := by decide +kernel
theorem d_M_pass_52 : decode y_M_pass.2.1 52 = .ok (.aload_n 0, 1) := by decide +kernel
theorem d_M_pass_53 : decode y_M_pass.2.1 53 = .ok (.getfield 360, 3) := by decide +kernel
theorem d_M_pass_56 : decode y_M_pass.2.1 56 = .ok (.if_icmp .ge 19, 3) := by decide +kernel
theorem d_M_pass_59 : decode y_M_pass.2.1 59 = .ok (.aload_n 0, 1) := by decide +kernel
theorem d_M_pass_60 : decode y_M_pass.2.1 60 = .ok (.getfield 88, 3) := by decide +kernel
theorem d_M_pass_63 : decode y_M_pass.2.1 63 = .ok (.bipush 24, 2) := by decide +kernel
theorem d_M_pass_65 : decode y_M_pass.2.1 65 = .ok (.iload_n 2, 1) := by decide +kernel
theorem d_M_pass_66 : decode y_M_pass.2.1 66 = .ok (.iadd, 1) := by decide +kernel
theorem d_M_pass_67 : decode y_M_pass.2.1 67 = .ok (.iconst 0, 1) := by decide +kernel
theorem d_M_pass_68 : decode y_M_pass.2.1 68 = .ok (.iastore, 1) := by decide +kernel
theorem d_M_pass_69 : decode y_M_pass.2.1 69 = .ok (.iinc 2 1, 3) := by decide +kernel
theorem d_M_pass_72 : decode y_M_pass.2.1 72 = .ok (.goto (-21), 3) := by decide +kernel
theorem d_M_pass_75 : decode y_M_pass.2.1 75 = .ok (.aload_n 0, 1) := by decide +kernel
theorem d_M_pass_76 : decode y_M_pass.2.1 76 = .ok (.getfield 88, 3) := by decide +kernel
theorem d_M_pass_79 : decode y_M_pass.2.1 79 = .ok (.bipush 32, 2) := by decide +kernel
theorem d_M_pass_81 : decode y_M_pass.2.1 81 = .ok (.dup2, 1) := by decide +kernel
theorem d_M_pass_82 : decode y_M_pass.2.1 82 = .ok (.iaload, 1) := by decide +kernel
theorem d_M_pass_83 : decode y_M_pass.2.1 83 = .ok (.iconst 1, 1) := by decide +kernel
theorem d_M_pass_84 : decode y_M_pass.2.1 84 = .ok (.iadd, 1) := by decide +kernel
theorem d_M_pass_85 : decode y_M_pass.2.1 85 = .ok (.iastore, 1) := by decide +kernel
theorem d_M_pass_86 : decode y_M_pass.2.1 86 = .ok (.aload_n 0, 1) := by decide +kernel
theorem d_M_pass_87 : decode y_M_pass.2.1 87 = .ok (.getfield 88, 3) := by decide +kernel
theorem d_M_pass_90 : decode y_M_pass.2.1 90 = .ok (.bipush 32, 2) := by decide +kernel
theorem d_M_pass_92 : decode y_M_pass.2.1 92 = .ok (.iaload, 1) := by decide +kernel
theorem d_M_pass_93 : decode y_M_pass.2.1 93 = .ok (.bipush 24, 2) := by decide +kernel
theorem d_M_pass_95 : decode y_M_pass.2.1 95 = .ok (.if_icmp .ge 4, 3) := by decide +kernel
theorem d_M_pass_98 : decode y_M_pass.2.1 98 = .ok (.return_, 1) := by decide +kernel
theorem d_M_pass_99 : decode y_M_pass.2.1 99 = .ok (.aload_n 0, 1) := by decide +kernel
theorem d_M_pass_100 : decode y_M_pass.2.1 100 = .ok (.getfield 88, 3) := by decide +kernel
theorem d_M_pass_103 : decode y_M_pass.2.1 103 = .ok (.bipush 32, 2) := by decide +kernel
theorem d_M_pass_105 : decode y_M_pass.2.1 105 = .ok (.iconst 0, 1) := by decide +kernel
theorem d_M_pass_106 : decode y_M_pass.2.1 106 = .ok (.iastore, 1) := by decide +kernel
theorem d_M_pass_107 : decode y_M_pass.2.1 107 = .ok (.aload_n 0, 1) := by decide +kernel
theorem d_M_pass_108 : decode y_M_pass.2.1 108 = .ok (.getfield 88, 3) := by decide +kernel
theorem d_M_pass_111 : decode y_M_pass.2.1 111 = .ok (.bipush 33, 2) := by decide +kernel
theorem d_M_pass_113 : decode y_M_pass.2.1 113 = .ok (.dup2, 1) := by decide +kernel
theorem d_M_pass_114 : decode y_M_pass.2.1 114 = .ok (.iaload, 1) := by decide +kernel
theorem d_M_pass_115 : decode y_M_pass.2.1 115 = .ok (.iconst 1, 1) := by decide +kernel
theorem d_M_pass_116 : decode y_M_pass.2.1 116 = .ok (.iadd, 1) := by decide +kernel
theorem d_M_pass_117 : decode y_M_pass.2.1 117 = .ok (.iastore, 1) := by decide +kernel
theorem d_M_pass_118 : decode y_M_pass.2.1 118 = .ok (.iconst 0, 1) := by decide +kernel
theorem d_M_pass_119 : decode y_M_pass.2.1 119 = .ok (.istore_n 2, 1) := by decide +kernel
theorem d_M_pass_120 : decode y_M_pass.2.1 120 = .ok (.iload_n 2, 1) := by decide +kernel
theorem d_M_pass_121 : decode y_M_pass.2.1 121 = .ok (.aload_n 0, 1) := by decide +kernel
theorem d_M_pass_122 : decode y_M_pass.2.1 122 = .ok (.getfield 360, 3) := by decide +kernel
theorem d_M_pass_125 : decode y_M_pass.2.1 125 = .ok (.if_icmp .ge 14, 3) := by decide +kernel
theorem d_M_pass_128 : decode y_M_pass.2.1 128 = .ok (.aload_n 0, 1) := by decide +kernel
theorem d_M_pass_129 : decode y_M_pass.2.1 129 = .ok (.iload_n 2, 1) := by decide +kernel
theorem d_M_pass_130 : decode y_M_pass.2.1 130 = .ok (.invokevirtual 414, 3) := by decide +kernel
theorem d_M_pass_133 : decode y_M_pass.2.1 133 = .ok (.iinc 2 1, 3) := by decide +kernel
theorem d_M_pass_136 : decode y_M_pass.2.1 136 = .ok (.goto (-16), 3) := by decide +kernel
theorem d_M_pass_139 : decode y_M_pass.2.1 139 = .ok (.return_, 1) := by decide +kernel

abbrev y_M_goHour : MI := (⟨"CricketHayModel", "goHour", "()V"⟩, prog_14_method_56_code, 1, none)
theorem hy_M_goHour : y_M_goHour.1.cls ≠ "java/lang/invoke/MethodHandle" ∧ y_M_goHour.1.cls ≠ "java/lang/invoke/VarHandle" ∧ (parseMethodDescriptor y_M_goHour.1.desc).map (fun d => d.parameters.length) = some 0 := by decide +kernel
theorem d_M_goHour_0 : decode y_M_goHour.2.1 0 = .ok (.aload_n 0, 1) := by decide +kernel
theorem d_M_goHour_1 : decode y_M_goHour.2.1 1 = .ok (.getfield 88, 3) := by decide +kernel
theorem d_M_goHour_4 : decode y_M_goHour.2.1 4 = .ok (.bipush 34, 2) := by decide +kernel
theorem d_M_goHour_6 : decode y_M_goHour.2.1 6 = .ok (.aload_n 0, 1) := by decide +kernel
theorem d_M_goHour_7 : decode y_M_goHour.2.1 7 = .ok (.getfield 88, 3) := by decide +kernel
theorem d_M_goHour_10 : decode y_M_goHour.2.1 10 = .ok (.bipush 34, 2) := by decide +kernel
theorem d_M_goHour_12 : decode y_M_goHour.2.1 12 = .ok (.iaload, 1) := by decide +kernel
theorem d_M_goHour_13 : decode y_M_goHour.2.1 13 = .ok (.sipush 137, 3) := by decide +kernel
theorem d_M_goHour_16 : decode y_M_goHour.2.1 16 = .ok (.imul, 1) := by decide +kernel
theorem d_M_goHour_17 : decode y_M_goHour.2.1 17 = .ok (.bipush 71, 2) := by decide +kernel
theorem d_M_goHour_19 : decode y_M_goHour.2.1 19 = .ok (.iadd, 1) := by decide +kernel
theorem d_M_goHour_20 : decode y_M_goHour.2.1 20 = .ok (.sipush 1000, 3) := by decide +kernel
theorem d_M_goHour_23 : decode y_M_goHour.2.1 23 = .ok (.irem, 1) := by decide +kernel
theorem d_M_goHour_24 : decode y_M_goHour.2.1 24 = .ok (.iastore, 1) := by decide +kernel
theorem d_M_goHour_25 : decode y_M_goHour.2.1 25 = .ok (.aload_n 0, 1) := by decide +kernel
theorem d_M_goHour_26 : decode y_M_goHour.2.1 26 = .ok (.aload_n 0, 1) := by decide +kernel
theorem d_M_goHour_27 : decode y_M_goHour.2.1 27 = .ok (.getfield 88, 3) := by decide +kernel
theorem d_M_goHour_30 : decode y_M_goHour.2.1 30 = .ok (.bipush 34, 2) := by decide +kernel
theorem d_M_goHour_32 : decode y_M_goHour.2.1 32 = .ok (.iaload, 1) := by decide +kernel
theorem d_M_goHour_33 : decode y_M_goHour.2.1 33 = .ok (.bipush 100, 2) := by decide +kernel
theorem d_M_goHour_35 : decode y_M_goHour.2.1 35 = .ok (.irem, 1) := by decide +kernel
theorem d_M_goHour_36 : decode y_M_goHour.2.1 36 = .ok (.aload_n 0, 1) := by decide +kernel
theorem d_M_goHour_37 : decode y_M_goHour.2.1 37 = .ok (.getfield 363, 3) := by decide +kernel
theorem d_M_goHour_40 : decode y_M_goHour.2.1 40 = .ok (.if_icmp .ge 7, 3) := by decide +kernel
theorem d_M_goHour_43 : decode y_M_goHour.2.1 43 = .ok (.iconst 1, 1) := by decide +kernel
theorem d_M_goHour_44 : decode y_M_goHour.2.1 44 = .ok (.goto 4, 3) := by decide +kernel
theorem d_M_goHour_47 : decode y_M_goHour.2.1 47 = .ok (.iconst 0, 1) := by decide +kernel
theorem d_M_goHour_48 : decode y_M_goHour.2.1 48 = .ok (.invokevirtual 417, 3) := by decide +kernel
theorem d_M_goHour_51 : decode y_M_goHour.2.1 51 = .ok (.return_, 1) := by decide +kernel

abbrev y_M_dealer : MI := (⟨"CricketHayModel", "dealer", "(II)I"⟩, prog_14_method_57_code, 3, (some .int))
theorem hy_M_dealer : y_M_dealer.1.cls ≠ "java/lang/invoke/MethodHandle" ∧ y_M_dealer.1.cls ≠ "java/lang/invoke/VarHandle" ∧ (parseMethodDescriptor y_M_dealer.1.desc).map (fun d => d.parameters.length) = some 2 := by decide +kernel
theorem d_M_dealer_0 : decode y_M_dealer.2.1 0 = .ok (.aload_n 0, 1) := by decide +kernel
theorem d_M_dealer_1 : decode y_M_dealer.2.1 1 = .ok (.iload_n 1, 1) := by decide +kernel
theorem d_M_dealer_2 : decode y_M_dealer.2.1 2 = .ok (.invokevirtual 385, 3) := by decide +kernel
theorem d_M_dealer_5 : decode y_M_dealer.2.1 5 = .ok (.ifCond .ne 6, 3) := by decide +kernel
theorem d_M_dealer_8 : decode y_M_dealer.2.1 8 = .ok (.bipush (-100), 2) := by decide +kernel
theorem d_M_dealer_10 : decode y_M_dealer.2.1 10 = .ok (.ireturn, 1) := by decide +kernel
theorem d_M_dealer_11 : decode y_M_dealer.2.1 11 = .ok (.aload_n 0, 1) := by decide +kernel
theorem d_M_dealer_12 : decode y_M_dealer.2.1 12 = .ok (.invokevirtual 421, 3) := by decide +kernel
theorem d_M_dealer_15 : decode y_M_dealer.2.1 15 = .ok (.iload_n 2, 1) := by decide +kernel
theorem d_M_dealer_16 : decode y_M_dealer.2.1 16 = .ok (.tableswitch 149 0 10 #[60, 67, 77, 84, 94, 101, 108, 118, 128, 137, 143], 60) := by decide +kernel
theorem d_M_dealer_76 : decode y_M_dealer.2.1 76 = .ok (.aload_n 0, 1) := by decide +kernel
theorem d_M_dealer_77 : decode y_M_dealer.2.1 77 = .ok (.getfield 88, 3) := by decide +kernel
theorem d_M_dealer_80 : decode y_M_dealer.2.1 80 = .ok (.iload_n 1, 1) := by decide +kernel
theorem d_M_dealer_81 : decode y_M_dealer.2.1 81 = .ok (.iaload, 1) := by decide +kernel
theorem d_M_dealer_82 : decode y_M_dealer.2.1 82 = .ok (.ireturn, 1) := by decide +kernel
theorem d_M_dealer_83 : decode y_M_dealer.2.1 83 = .ok (.aload_n 0, 1) := by decide +kernel
theorem d_M_dealer_84 : decode y_M_dealer.2.1 84 = .ok (.getfield 88, 3) := by decide +kernel
theorem d_M_dealer_87 : decode y_M_dealer.2.1 87 = .ok (.bipush 6, 2) := by decide +kernel
theorem d_M_dealer_89 : decode y_M_dealer.2.1 89 = .ok (.iload_n 1, 1) := by decide +kernel
theorem d_M_dealer_90 : decode y_M_dealer.2.1 90 = .ok (.iadd, 1) := by decide +kernel
theorem d_M_dealer_91 : decode y_M_dealer.2.1 91 = .ok (.iaload, 1) := by decide +kernel
theorem d_M_dealer_92 : decode y_M_dealer.2.1 92 = .ok (.ireturn, 1) := by decide +kernel
theorem d_M_dealer_93 : decode y_M_dealer.2.1 93 = .ok (.aload_n 0, 1) := by decide +kernel
theorem d_M_dealer_94 : decode y_M_dealer.2.1 94 = .ok (.getfield 76, 3) := by decide +kernel
theorem d_M_dealer_97 : decode y_M_dealer.2.1 97 = .ok (.iload_n 1, 1) := by decide +kernel
theorem d_M_dealer_98 : decode y_M_dealer.2.1 98 = .ok (.iaload, 1) := by decide +kernel
theorem d_M_dealer_99 : decode y_M_dealer.2.1 99 = .ok (.ireturn, 1) := by decide +kernel
theorem d_M_dealer_100 : decode y_M_dealer.2.1 100 = .ok (.aload_n 0, 1) := by decide +kernel
theorem d_M_dealer_101 : decode y_M_dealer.2.1 101 = .ok (.getfield 88, 3) := by decide +kernel
theorem d_M_dealer_104 : decode y_M_dealer.2.1 104 = .ok (.bipush 12, 2) := by decide +kernel
theorem d_M_dealer_106 : decode y_M_dealer.2.1 106 = .ok (.iload_n 1, 1) := by decide +kernel
theorem d_M_dealer_107 : decode y_M_dealer.2.1 107 = .ok (.iadd, 1) := by decide +kernel
theorem d_M_dealer_108 : decode y_M_dealer.2.1 108 = .ok (.iaload, 1) := by decide +kernel
theorem d_M_dealer_109 : decode y_M_dealer.2.1 109 = .ok (.ireturn, 1) := by decide +kernel
theorem d_M_dealer_110 : decode y_M_dealer.2.1 110 = .ok (.aload_n 0, 1) := by decide +kernel
theorem d_M_dealer_111 : decode y_M_dealer.2.1 111 = .ok (.getfield 70, 3) := by decide +kernel
theorem d_M_dealer_114 : decode y_M_dealer.2.1 114 = .ok (.iload_n 1, 1) := by decide +kernel
theorem d_M_dealer_115 : decode y_M_dealer.2.1 115 = .ok (.iaload, 1) := by decide +kernel
theorem d_M_dealer_116 : decode y_M_dealer.2.1 116 = .ok (.ireturn, 1) := by decide +kernel
theorem d_M_dealer_117 : decode y_M_dealer.2.1 117 = .ok (.aload_n 0, 1) := by decide +kernel
theorem d_M_dealer_118 : decode y_M_dealer.2.1 118 = .ok (.getfield 73, 3) := by decide +kernel
theorem d_M_dealer_121 : decode y_M_dealer.2.1 121 = .ok (.iload_n 1, 1) := by decide +kernel
theorem d_M_dealer_122 : decode y_M_dealer.2.1 122 = .ok (.iaload, 1) := by decide +kernel
theorem d_M_dealer_123 : decode y_M_dealer.2.1 123 = .ok (.ireturn, 1) := by decide +kernel
theorem d_M_dealer_124 : decode y_M_dealer.2.1 124 = .ok (.aload_n 0, 1) := by decide +kernel
theorem d_M_dealer_125 : decode y_M_dealer.2.1 125 = .ok (.getfield 88, 3) := by decide +kernel
theorem d_M_dealer_128 : decode y_M_dealer.2.1 128 = .ok (.bipush 18, 2) := by decide +kernel
theorem d_M_dealer_130 : decode y_M_dealer.2.1 130 = .ok (.iload_n 1, 1) := by decide +kernel
theorem d_M_dealer_131 : decode y_M_dealer.2.1 131 = .ok (.iadd, 1) := by decide +kernel
theorem d_M_dealer_132 : decode y_M_dealer.2.1 132 = .ok (.iaload, 1) := by decide +kernel
theorem d_M_dealer_133 : decode y_M_dealer.2.1 133 = .ok (.ireturn, 1) := by decide +kernel
theorem d_M_dealer_134 : decode y_M_dealer.2.1 134 = .ok (.aload_n 0, 1) := by decide +kernel
theorem d_M_dealer_135 : decode y_M_dealer.2.1 135 = .ok (.getfield 88, 3) := by decide +kernel
theorem d_M_dealer_138 : decode y_M_dealer.2.1 138 = .ok (.bipush 24, 2) := by decide +kernel
theorem d_M_dealer_140 : decode y_M_dealer.2.1 140 = .ok (.iload_n 1, 1) := by decide +kernel
theorem d_M_dealer_141 : decode y_M_dealer.2.1 141 = .ok (.iadd, 1) := by decide +kernel
theorem d_M_dealer_142 : decode y_M_dealer.2.1 142 = .ok (.iaload, 1) := by decide +kernel
theorem d_M_dealer_143 : decode y_M_dealer.2.1 143 = .ok (.ireturn, 1) := by decide +kernel
theorem d_M_dealer_144 : decode y_M_dealer.2.1 144 = .ok (.aload_n 0, 1) := by decide +kernel
theorem d_M_dealer_145 : decode y_M_dealer.2.1 145 = .ok (.iload_n 1, 1) := by decide +kernel
theorem d_M_dealer_146 : decode y_M_dealer.2.1 146 = .ok (.invokevirtual 398, 3) := by decide +kernel
theorem d_M_dealer_149 : decode y_M_dealer.2.1 149 = .ok (.invokestatic 299, 3) := by decide +kernel
theorem d_M_dealer_152 : decode y_M_dealer.2.1 152 = .ok (.ireturn, 1) := by decide +kernel
theorem d_M_dealer_153 : decode y_M_dealer.2.1 153 = .ok (.aload_n 0, 1) := by decide +kernel
theorem d_M_dealer_154 : decode y_M_dealer.2.1 154 = .ok (.iload_n 1, 1) := by decide +kernel
theorem d_M_dealer_155 : decode y_M_dealer.2.1 155 = .ok (.invokevirtual 411, 3) := by decide +kernel
theorem d_M_dealer_158 : decode y_M_dealer.2.1 158 = .ok (.ireturn, 1) := by decide +kernel
theorem d_M_dealer_159 : decode y_M_dealer.2.1 159 = .ok (.aload_n 0, 1) := by decide +kernel
theorem d_M_dealer_160 : decode y_M_dealer.2.1 160 = .ok (.iload_n 1, 1) := by decide +kernel
theorem d_M_dealer_161 : decode y_M_dealer.2.1 161 = .ok (.invokevirtual 404, 3) := by decide +kernel
theorem d_M_dealer_164 : decode y_M_dealer.2.1 164 = .ok (.ireturn, 1) := by decide +kernel
theorem d_M_dealer_165 : decode y_M_dealer.2.1 165 = .ok (.bipush (-100), 2) := by decide +kernel
theorem d_M_dealer_167 : decode y_M_dealer.2.1 167 = .ok (.ireturn, 1) := by decide +kernel

abbrev y_M_heat : MI := (⟨"CricketHayModel", "heat", "()I"⟩, prog_14_method_58_code, 1, (some .int))
theorem hy_M_heat : y_M_heat.1.cls ≠ "java/lang/invoke/MethodHandle" ∧ y_M_heat.1.cls ≠ "java/lang/invoke/VarHandle" ∧ (parseMethodDescriptor y_M_heat.1.desc).map (fun d => d.parameters.length) = some 0 := by decide +kernel
theorem d_M_heat_0 : decode y_M_heat.2.1 0 = .ok (.aload_n 0, 1) := by decide +kernel
theorem d_M_heat_1 : decode y_M_heat.2.1 1 = .ok (.invokevirtual 421, 3) := by decide +kernel
theorem d_M_heat_4 : decode y_M_heat.2.1 4 = .ok (.aload_n 0, 1) := by decide +kernel
theorem d_M_heat_5 : decode y_M_heat.2.1 5 = .ok (.invokevirtual 401, 3) := by decide +kernel
theorem d_M_heat_8 : decode y_M_heat.2.1 8 = .ok (.ireturn, 1) := by decide +kernel

abbrev y_M_price : MI := (⟨"CricketHayModel", "price", "(II)I"⟩, prog_14_method_59_code, 3, (some .int))
theorem hy_M_price : y_M_price.1.cls ≠ "java/lang/invoke/MethodHandle" ∧ y_M_price.1.cls ≠ "java/lang/invoke/VarHandle" ∧ (parseMethodDescriptor y_M_price.1.desc).map (fun d => d.parameters.length) = some 2 := by decide +kernel
theorem d_M_price_0 : decode y_M_price.2.1 0 = .ok (.aload_n 0, 1) := by decide +kernel
theorem d_M_price_1 : decode y_M_price.2.1 1 = .ok (.iload_n 1, 1) := by decide +kernel
theorem d_M_price_2 : decode y_M_price.2.1 2 = .ok (.iload_n 2, 1) := by decide +kernel
theorem d_M_price_3 : decode y_M_price.2.1 3 = .ok (.invokevirtual 424, 3) := by decide +kernel
theorem d_M_price_6 : decode y_M_price.2.1 6 = .ok (.ifCond .ne 5, 3) := by decide +kernel
theorem d_M_price_9 : decode y_M_price.2.1 9 = .ok (.iconst (-1), 1) := by decide +kernel
theorem d_M_price_10 : decode y_M_price.2.1 10 = .ok (.ireturn, 1) := by decide +kernel
theorem d_M_price_11 : decode y_M_price.2.1 11 = .ok (.aload_n 0, 1) := by decide +kernel
theorem d_M_price_12 : decode y_M_price.2.1 12 = .ok (.invokevirtual 421, 3) := by decide +kernel
theorem d_M_price_15 : decode y_M_price.2.1 15 = .ok (.aload_n 0, 1) := by decide +kernel
theorem d_M_price_16 : decode y_M_price.2.1 16 = .ok (.iload_n 1, 1) := by decide +kernel
theorem d_M_price_17 : decode y_M_price.2.1 17 = .ok (.iload_n 2, 1) := by decide +kernel
theorem d_M_price_18 : decode y_M_price.2.1 18 = .ok (.invokevirtual 428, 3) := by decide +kernel
theorem d_M_price_21 : decode y_M_price.2.1 21 = .ok (.ireturn, 1) := by decide +kernel

abbrev y_M_cheapest : MI := (⟨"CricketHayModel", "cheapest", "(I)I"⟩, prog_14_method_60_code, 4, (some .int))
theorem hy_M_cheapest : y_M_cheapest.1.cls ≠ "java/lang/invoke/MethodHandle" ∧ y_M_cheapest.1.cls ≠ "java/lang/invoke/VarHandle" ∧ (parseMethodDescriptor y_M_cheapest.1.desc).map (fun d => d.parameters.length) = some 1 := by decide +kernel
theorem d_M_cheapest_0 : decode y_M_cheapest.2.1 0 = .ok (.aload_n 0, 1) := by decide +kernel
theorem d_M_cheapest_1 : decode y_M_cheapest.2.1 1 = .ok (.iload_n 1, 1) := by decide +kernel
theorem d_M_cheapest_2 : decode y_M_cheapest.2.1 2 = .ok (.invokevirtual 385, 3) := by decide +kernel
theorem d_M_cheapest_5 : decode y_M_cheapest.2.1 5 = .ok (.ifCond .ne 5, 3) := by decide +kernel
theorem d_M_cheapest_8 : decode y_M_cheapest.2.1 8 = .ok (.iconst (-1), 1) := by decide +kernel
theorem d_M_cheapest_9 : decode y_M_cheapest.2.1 9 = .ok (.ireturn, 1) := by decide +kernel
theorem d_M_cheapest_10 : decode y_M_cheapest.2.1 10 = .ok (.aload_n 0, 1) := by decide +kernel
theorem d_M_cheapest_11 : decode y_M_cheapest.2.1 11 = .ok (.invokevirtual 421, 3) := by decide +kernel
theorem d_M_cheapest_14 : decode y_M_cheapest.2.1 14 = .ok (.iconst (-1), 1) := by decide +kernel
theorem d_M_cheapest_15 : decode y_M_cheapest.2.1 15 = .ok (.istore_n 2, 1) := by decide +kernel
theorem d_M_cheapest_16 : decode y_M_cheapest.2.1 16 = .ok (.iconst 0, 1) := by decide +kernel
theorem d_M_cheapest_17 : decode y_M_cheapest.2.1 17 = .ok (.istore_n 3, 1) := by decide +kernel
theorem d_M_cheapest_18 : decode y_M_cheapest.2.1 18 = .ok (.iload_n 3, 1) := by decide +kernel
theorem d_M_cheapest_19 : decode y_M_cheapest.2.1 19 = .ok (.aload_n 0, 1) := by decide +kernel
theorem d_M_cheapest_20 : decode y_M_cheapest.2.1 20 = .ok (.getfield 360, 3) := by decide +kernel
theorem d_M_cheapest_23 : decode y_M_cheapest.2.1 23 = .ok (.if_icmp .ge 65, 3) := by decide +kernel
theorem d_M_cheapest_26 : decode y_M_cheapest.2.1 26 = .ok (.iload_n 3, 1) := by decide +kernel
theorem d_M_cheapest_27 : decode y_M_cheapest.2.1 27 = .ok (.iload_n 1, 1) := by decide +kernel
theorem d_M_cheapest_28 : decode y_M_cheapest.2.1 28 = .ok (.if_icmp .eq 54, 3) := by decide +kernel
theorem d_M_cheapest_31 : decode y_M_cheapest.2.1 31 = .ok (.aload_n 0, 1) := by decide +kernel
theorem d_M_cheapest_32 : decode y_M_cheapest.2.1 32 = .ok (.getfield 88, 3) := by decide +kernel
theorem d_M_cheapest_35 : decode y_M_cheapest.2.1 35 = .ok (.bipush 6, 2) := by decide +kernel
theorem d_M_cheapest_37 : decode y_M_cheapest.2.1 37 = .ok (.iload_n 3, 1) := by decide +kernel
theorem d_M_cheapest_38 : decode y_M_cheapest.2.1 38 = .ok (.iadd, 1) := by decide +kernel
theorem d_M_cheapest_39 : decode y_M_cheapest.2.1 39 = .ok (.iaload, 1) := by decide +kernel
theorem d_M_cheapest_40 : decode y_M_cheapest.2.1 40 = .ok (.ifCond .eq 42, 3) := by decide +kernel
theorem d_M_cheapest_43 : decode y_M_cheapest.2.1 43 = .ok (.aload_n 0, 1) := by decide +kernel
theorem d_M_cheapest_44 : decode y_M_cheapest.2.1 44 = .ok (.iload_n 1, 1) := by decide +kernel
theorem d_M_cheapest_45 : decode y_M_cheapest.2.1 45 = .ok (.iload_n 3, 1) := by decide +kernel
theorem d_M_cheapest_46 : decode y_M_cheapest.2.1 46 = .ok (.invokevirtual 428, 3) := by decide +kernel
theorem d_M_cheapest_49 : decode y_M_cheapest.2.1 49 = .ok (.aload_n 0, 1) := by decide +kernel
theorem d_M_cheapest_50 : decode y_M_cheapest.2.1 50 = .ok (.getfield 88, 3) := by decide +kernel
theorem d_M_cheapest_53 : decode y_M_cheapest.2.1 53 = .ok (.iload_n 1, 1) := by decide +kernel
theorem d_M_cheapest_54 : decode y_M_cheapest.2.1 54 = .ok (.iaload, 1) := by decide +kernel
theorem d_M_cheapest_55 : decode y_M_cheapest.2.1 55 = .ok (.if_icmp .le 6, 3) := by decide +kernel
theorem d_M_cheapest_58 : decode y_M_cheapest.2.1 58 = .ok (.goto 24, 3) := by decide +kernel
theorem d_M_cheapest_61 : decode y_M_cheapest.2.1 61 = .ok (.iload_n 2, 1) := by decide +kernel
theorem d_M_cheapest_62 : decode y_M_cheapest.2.1 62 = .ok (.ifCond .lt 18, 3) := by decide +kernel
theorem d_M_cheapest_65 : decode y_M_cheapest.2.1 65 = .ok (.aload_n 0, 1) := by decide +kernel
theorem d_M_cheapest_66 : decode y_M_cheapest.2.1 66 = .ok (.iload_n 1, 1) := by decide +kernel
theorem d_M_cheapest_67 : decode y_M_cheapest.2.1 67 = .ok (.iload_n 3, 1) := by decide +kernel
theorem d_M_cheapest_68 : decode y_M_cheapest.2.1 68 = .ok (.invokevirtual 428, 3) := by decide +kernel
theorem d_M_cheapest_71 : decode y_M_cheapest.2.1 71 = .ok (.aload_n 0, 1) := by decide +kernel
theorem d_M_cheapest_72 : decode y_M_cheapest.2.1 72 = .ok (.iload_n 1, 1) := by decide +kernel
theorem d_M_cheapest_73 : decode y_M_cheapest.2.1 73 = .ok (.iload_n 2, 1) := by decide +kernel
theorem d_M_cheapest_74 : decode y_M_cheapest.2.1 74 = .ok (.invokevirtual 428, 3) := by decide +kernel
theorem d_M_cheapest_77 : decode y_M_cheapest.2.1 77 = .ok (.if_icmp .ge 5, 3) := by decide +kernel
theorem d_M_cheapest_80 : decode y_M_cheapest.2.1 80 = .ok (.iload_n 3, 1) := by decide +kernel
theorem d_M_cheapest_81 : decode y_M_cheapest.2.1 81 = .ok (.istore_n 2, 1) := by decide +kernel
theorem d_M_cheapest_82 : decode y_M_cheapest.2.1 82 = .ok (.iinc 3 1, 3) := by decide +kernel
theorem d_M_cheapest_85 : decode y_M_cheapest.2.1 85 = .ok (.goto (-67), 3) := by decide +kernel
theorem d_M_cheapest_88 : decode y_M_cheapest.2.1 88 = .ok (.iload_n 2, 1) := by decide +kernel
theorem d_M_cheapest_89 : decode y_M_cheapest.2.1 89 = .ok (.ireturn, 1) := by decide +kernel

abbrev y_M_chorusHere : MI := (⟨"CricketHayModel", "chorusHere", "()I"⟩, prog_14_method_61_code, 3, (some .int))
theorem hy_M_chorusHere : y_M_chorusHere.1.cls ≠ "java/lang/invoke/MethodHandle" ∧ y_M_chorusHere.1.cls ≠ "java/lang/invoke/VarHandle" ∧ (parseMethodDescriptor y_M_chorusHere.1.desc).map (fun d => d.parameters.length) = some 0 := by decide +kernel
theorem d_M_chorusHere_0 : decode y_M_chorusHere.2.1 0 = .ok (.iconst 0, 1) := by decide +kernel
theorem d_M_chorusHere_1 : decode y_M_chorusHere.2.1 1 = .ok (.istore_n 1, 1) := by decide +kernel
theorem d_M_chorusHere_2 : decode y_M_chorusHere.2.1 2 = .ok (.iconst 0, 1) := by decide +kernel
theorem d_M_chorusHere_3 : decode y_M_chorusHere.2.1 3 = .ok (.istore_n 2, 1) := by decide +kernel
theorem d_M_chorusHere_4 : decode y_M_chorusHere.2.1 4 = .ok (.iload_n 2, 1) := by decide +kernel
theorem d_M_chorusHere_5 : decode y_M_chorusHere.2.1 5 = .ok (.aload_n 0, 1) := by decide +kernel
theorem d_M_chorusHere_6 : decode y_M_chorusHere.2.1 6 = .ok (.getfield 360, 3) := by decide +kernel
theorem d_M_chorusHere_9 : decode y_M_chorusHere.2.1 9 = .ok (.if_icmp .ge 17, 3) := by decide +kernel
theorem d_M_chorusHere_12 : decode y_M_chorusHere.2.1 12 = .ok (.iload_n 1, 1) := by decide +kernel
theorem d_M_chorusHere_13 : decode y_M_chorusHere.2.1 13 = .ok (.aload_n 0, 1) := by decide +kernel
theorem d_M_chorusHere_14 : decode y_M_chorusHere.2.1 14 = .ok (.iload_n 2, 1) := by decide +kernel
theorem d_M_chorusHere_15 : decode y_M_chorusHere.2.1 15 = .ok (.invokevirtual 411, 3) := by decide +kernel
theorem d_M_chorusHere_18 : decode y_M_chorusHere.2.1 18 = .ok (.iadd, 1) := by decide +kernel
theorem d_M_chorusHere_19 : decode y_M_chorusHere.2.1 19 = .ok (.istore_n 1, 1) := by decide +kernel
theorem d_M_chorusHere_20 : decode y_M_chorusHere.2.1 20 = .ok (.iinc 2 1, 3) := by decide +kernel
theorem d_M_chorusHere_23 : decode y_M_chorusHere.2.1 23 = .ok (.goto (-19), 3) := by decide +kernel
theorem d_M_chorusHere_26 : decode y_M_chorusHere.2.1 26 = .ok (.iload_n 1, 1) := by decide +kernel
theorem d_M_chorusHere_27 : decode y_M_chorusHere.2.1 27 = .ok (.ireturn, 1) := by decide +kernel

abbrev y_M_chorus : MI := (⟨"CricketHayModel", "chorus", "()I"⟩, prog_14_method_62_code, 1, (some .int))
theorem hy_M_chorus : y_M_chorus.1.cls ≠ "java/lang/invoke/MethodHandle" ∧ y_M_chorus.1.cls ≠ "java/lang/invoke/VarHandle" ∧ (parseMethodDescriptor y_M_chorus.1.desc).map (fun d => d.parameters.length) = some 0 := by decide +kernel
theorem d_M_chorus_0 : decode y_M_chorus.2.1 0 = .ok (.aload_n 0, 1) := by decide +kernel
theorem d_M_chorus_1 : decode y_M_chorus.2.1 1 = .ok (.invokevirtual 421, 3) := by decide +kernel
theorem d_M_chorus_4 : decode y_M_chorus.2.1 4 = .ok (.aload_n 0, 1) := by decide +kernel
theorem d_M_chorus_5 : decode y_M_chorus.2.1 5 = .ok (.invokevirtual 431, 3) := by decide +kernel
theorem d_M_chorus_8 : decode y_M_chorus.2.1 8 = .ok (.ireturn, 1) := by decide +kernel

abbrev y_M_lasts : MI := (⟨"CricketHayModel", "lasts", "(I)I"⟩, prog_14_method_63_code, 2, (some .int))
theorem hy_M_lasts : y_M_lasts.1.cls ≠ "java/lang/invoke/MethodHandle" ∧ y_M_lasts.1.cls ≠ "java/lang/invoke/VarHandle" ∧ (parseMethodDescriptor y_M_lasts.1.desc).map (fun d => d.parameters.length) = some 1 := by decide +kernel
theorem d_M_lasts_0 : decode y_M_lasts.2.1 0 = .ok (.aload_n 0, 1) := by decide +kernel
theorem d_M_lasts_1 : decode y_M_lasts.2.1 1 = .ok (.iload_n 1, 1) := by decide +kernel
theorem d_M_lasts_2 : decode y_M_lasts.2.1 2 = .ok (.invokevirtual 385, 3) := by decide +kernel
theorem d_M_lasts_5 : decode y_M_lasts.2.1 5 = .ok (.ifCond .eq 12, 3) := by decide +kernel
theorem d_M_lasts_8 : decode y_M_lasts.2.1 8 = .ok (.aload_n 0, 1) := by decide +kernel
theorem d_M_lasts_9 : decode y_M_lasts.2.1 9 = .ok (.getfield 76, 3) := by decide +kernel
theorem d_M_lasts_12 : decode y_M_lasts.2.1 12 = .ok (.iload_n 1, 1) := by decide +kernel
theorem d_M_lasts_13 : decode y_M_lasts.2.1 13 = .ok (.iaload, 1) := by decide +kernel
theorem d_M_lasts_14 : decode y_M_lasts.2.1 14 = .ok (.ifCond .ne 7, 3) := by decide +kernel
theorem d_M_lasts_17 : decode y_M_lasts.2.1 17 = .ok (.iconst (-1), 1) := by decide +kernel
theorem d_M_lasts_18 : decode y_M_lasts.2.1 18 = .ok (.goto 19, 3) := by decide +kernel
theorem d_M_lasts_21 : decode y_M_lasts.2.1 21 = .ok (.aload_n 0, 1) := by decide +kernel
theorem d_M_lasts_22 : decode y_M_lasts.2.1 22 = .ok (.getfield 85, 3) := by decide +kernel
theorem d_M_lasts_25 : decode y_M_lasts.2.1 25 = .ok (.bipush 6, 2) := by decide +kernel
theorem d_M_lasts_27 : decode y_M_lasts.2.1 27 = .ok (.iload_n 1, 1) := by decide +kernel
theorem d_M_lasts_28 : decode y_M_lasts.2.1 28 = .ok (.iadd, 1) := by decide +kernel
theorem d_M_lasts_29 : decode y_M_lasts.2.1 29 = .ok (.iaload, 1) := by decide +kernel
theorem d_M_lasts_30 : decode y_M_lasts.2.1 30 = .ok (.aload_n 0, 1) := by decide +kernel
theorem d_M_lasts_31 : decode y_M_lasts.2.1 31 = .ok (.getfield 76, 3) := by decide +kernel
theorem d_M_lasts_34 : decode y_M_lasts.2.1 34 = .ok (.iload_n 1, 1) := by decide +kernel
theorem d_M_lasts_35 : decode y_M_lasts.2.1 35 = .ok (.iaload, 1) := by decide +kernel
theorem d_M_lasts_36 : decode y_M_lasts.2.1 36 = .ok (.idiv, 1) := by decide +kernel
theorem d_M_lasts_37 : decode y_M_lasts.2.1 37 = .ok (.ireturn, 1) := by decide +kernel

abbrev y_M_act : MI := (⟨"CricketHayModel", "act", "()V"⟩, prog_14_method_64_code, 2, none)
theorem hy_M_act : y_M_act.1.cls ≠ "java/lang/invoke/MethodHandle" ∧ y_M_act.1.cls ≠ "java/lang/invoke/VarHandle" ∧ (parseMethodDescriptor y_M_act.1.desc).map (fun d => d.parameters.length) = some 0 := by decide +kernel
theorem d_M_act_0 : decode y_M_act.2.1 0 = .ok (.aload_n 0, 1) := by decide +kernel
theorem d_M_act_1 : decode y_M_act.2.1 1 = .ok (.getfield 369, 3) := by decide +kernel
theorem d_M_act_4 : decode y_M_act.2.1 4 = .ok (.bipush 40, 2) := by decide +kernel
theorem d_M_act_6 : decode y_M_act.2.1 6 = .ok (.if_icmp .ne 43, 3) := by decide +kernel
theorem d_M_act_9 : decode y_M_act.2.1 9 = .ok (.iconst 0, 1) := by decide +kernel
theorem d_M_act_10 : decode y_M_act.2.1 10 = .ok (.istore_n 1, 1) := by decide +kernel
theorem d_M_act_11 : decode y_M_act.2.1 11 = .ok (.iload_n 1, 1) := by decide +kernel
theorem d_M_act_12 : decode y_M_act.2.1 12 = .ok (.sipush 1365, 3) := by decide +kernel
theorem d_M_act_15 : decode y_M_act.2.1 15 = .ok (.if_icmp .ge 24, 3) := by decide +kernel
theorem d_M_act_18 : decode y_M_act.2.1 18 = .ok (.aload_n 0, 1) := by decide +kernel
theorem d_M_act_19 : decode y_M_act.2.1 19 = .ok (.getfield 91, 3) := by decide +kernel
theorem d_M_act_22 : decode y_M_act.2.1 22 = .ok (.iload_n 1, 1) := by decide +kernel
theorem d_M_act_23 : decode y_M_act.2.1 23 = .ok (.aload_n 0, 1) := by decide +kernel
theorem d_M_act_24 : decode y_M_act.2.1 24 = .ok (.getfield 91, 3) := by decide +kernel
theorem d_M_act_27 : decode y_M_act.2.1 27 = .ok (.bipush 35, 2) := by decide +kernel
theorem d_M_act_29 : decode y_M_act.2.1 29 = .ok (.iload_n 1, 1) := by decide +kernel
theorem d_M_act_30 : decode y_M_act.2.1 30 = .ok (.iadd, 1) := by decide +kernel
theorem d_M_act_31 : decode y_M_act.2.1 31 = .ok (.iaload, 1) := by decide +kernel
theorem d_M_act_32 : decode y_M_act.2.1 32 = .ok (.iastore, 1) := by decide +kernel
theorem d_M_act_33 : decode y_M_act.2.1 33 = .ok (.iinc 1 1, 3) := by decide +kernel
theorem d_M_act_36 : decode y_M_act.2.1 36 = .ok (.goto (-25), 3) := by decide +kernel
theorem d_M_act_39 : decode y_M_act.2.1 39 = .ok (.aload_n 0, 1) := by decide +kernel
theorem d_M_act_40 : decode y_M_act.2.1 40 = .ok (.dup, 1) := by decide +kernel
theorem d_M_act_41 : decode y_M_act.2.1 41 = .ok (.getfield 369, 3) := by decide +kernel
theorem d_M_act_44 : decode y_M_act.2.1 44 = .ok (.iconst 1, 1) := by decide +kernel
theorem d_M_act_45 : decode y_M_act.2.1 45 = .ok (.isub, 1) := by decide +kernel
theorem d_M_act_46 : decode y_M_act.2.1 46 = .ok (.putfield 369, 3) := by decide +kernel
theorem d_M_act_49 : decode y_M_act.2.1 49 = .ok (.iconst 0, 1) := by decide +kernel
theorem d_M_act_50 : decode y_M_act.2.1 50 = .ok (.istore_n 1, 1) := by decide +kernel
theorem d_M_act_51 : decode y_M_act.2.1 51 = .ok (.iload_n 1, 1) := by decide +kernel
theorem d_M_act_52 : decode y_M_act.2.1 52 = .ok (.bipush 35, 2) := by decide +kernel
theorem d_M_act_54 : decode y_M_act.2.1 54 = .ok (.if_icmp .ge 29, 3) := by decide +kernel
theorem d_M_act_57 : decode y_M_act.2.1 57 = .ok (.aload_n 0, 1) := by decide +kernel
theorem d_M_act_58 : decode y_M_act.2.1 58 = .ok (.getfield 91, 3) := by decide +kernel
theorem d_M_act_61 : decode y_M_act.2.1 61 = .ok (.bipush 35, 2) := by decide +kernel
theorem d_M_act_63 : decode y_M_act.2.1 63 = .ok (.aload_n 0, 1) := by decide +kernel
theorem d_M_act_64 : decode y_M_act.2.1 64 = .ok (.getfield 369, 3) := by decide +kernel
theorem d_M_act_67 : decode y_M_act.2.1 67 = .ok (.imul, 1) := by decide +kernel
theorem d_M_act_68 : decode y_M_act.2.1 68 = .ok (.iload_n 1, 1) := by decide +kernel
theorem d_M_act_69 : decode y_M_act.2.1 69 = .ok (.iadd, 1) := by decide +kernel
theorem d_M_act_70 : decode y_M_act.2.1 70 = .ok (.aload_n 0, 1) := by decide +kernel
theorem d_M_act_71 : decode y_M_act.2.1 71 = .ok (.getfield 85, 3) := by decide +kernel
theorem d_M_act_74 : decode y_M_act.2.1 74 = .ok (.iload_n 1, 1) := by decide +kernel
theorem d_M_act_75 : decode y_M_act.2.1 75 = .ok (.iaload, 1) := by decide +kernel
theorem d_M_act_76 : decode y_M_act.2.1 76 = .ok (.iastore, 1) := by decide +kernel
theorem d_M_act_77 : decode y_M_act.2.1 77 = .ok (.iinc 1 1, 3) := by decide +kernel
theorem d_M_act_80 : decode y_M_act.2.1 80 = .ok (.goto (-29), 3) := by decide +kernel
theorem d_M_act_83 : decode y_M_act.2.1 83 = .ok (.aload_n 0, 1) := by decide +kernel
theorem d_M_act_84 : decode y_M_act.2.1 84 = .ok (.dup, 1) := by decide +kernel
theorem d_M_act_85 : decode y_M_act.2.1 85 = .ok (.getfield 369, 3) := by decide +kernel
theorem d_M_act_88 : decode y_M_act.2.1 88 = .ok (.iconst 1, 1) := by decide +kernel
theorem d_M_act_89 : decode y_M_act.2.1 89 = .ok (.iadd, 1) := by decide +kernel
theorem d_M_act_90 : decode y_M_act.2.1 90 = .ok (.putfield 369, 3) := by decide +kernel
theorem d_M_act_93 : decode y_M_act.2.1 93 = .ok (.aload_n 0, 1) := by decide +kernel
theorem d_M_act_94 : decode y_M_act.2.1 94 = .ok (.iconst 0, 1) := by decide +kernel
theorem d_M_act_95 : decode y_M_act.2.1 95 = .ok (.putfield 372, 3) := by decide +kernel
theorem d_M_act_98 : decode y_M_act.2.1 98 = .ok (.return_, 1) := by decide +kernel

abbrev y_M_exchange : MI := (⟨"CricketHayModel", "exchange", "(I)V"⟩, prog_14_method_65_code, 4, none)
theorem hy_M_exchange : y_M_exchange.1.cls ≠ "java/lang/invoke/MethodHandle" ∧ y_M_exchange.1.cls ≠ "java/lang/invoke/VarHandle" ∧ (parseMethodDescriptor y_M_exchange.1.desc).map (fun d => d.parameters.length) = some 1 := by decide +kernel
theorem d_M_exchange_0 : decode y_M_exchange.2.1 0 = .ok (.iconst 0, 1) := by decide +kernel
theorem d_M_exchange_1 : decode y_M_exchange.2.1 1 = .ok (.istore_n 2, 1) := by decide +kernel
theorem d_M_exchange_2 : decode y_M_exchange.2.1 2 = .ok (.iload_n 2, 1) := by decide +kernel
theorem d_M_exchange_3 : decode y_M_exchange.2.1 3 = .ok (.bipush 35, 2) := by decide +kernel
theorem d_M_exchange_5 : decode y_M_exchange.2.1 5 = .ok (.if_icmp .ge 39, 3) := by decide +kernel
theorem d_M_exchange_8 : decode y_M_exchange.2.1 8 = .ok (.aload_n 0, 1) := by decide +kernel
theorem d_M_exchange_9 : decode y_M_exchange.2.1 9 = .ok (.getfield 91, 3) := by decide +kernel
theorem d_M_exchange_12 : decode y_M_exchange.2.1 12 = .ok (.iload_n 1, 1) := by decide +kernel
theorem d_M_exchange_13 : decode y_M_exchange.2.1 13 = .ok (.iload_n 2, 1) := by decide +kernel
theorem d_M_exchange_14 : decode y_M_exchange.2.1 14 = .ok (.iadd, 1) := by decide +kernel
theorem d_M_exchange_15 : decode y_M_exchange.2.1 15 = .ok (.iaload, 1) := by decide +kernel
theorem d_M_exchange_16 : decode y_M_exchange.2.1 16 = .ok (.istore_n 3, 1) := by decide +kernel
theorem d_M_exchange_17 : decode y_M_exchange.2.1 17 = .ok (.aload_n 0, 1) := by decide +kernel
theorem d_M_exchange_18 : decode y_M_exchange.2.1 18 = .ok (.getfield 91, 3) := by decide +kernel
theorem d_M_exchange_21 : decode y_M_exchange.2.1 21 = .ok (.iload_n 1, 1) := by decide +kernel
theorem d_M_exchange_22 : decode y_M_exchange.2.1 22 = .ok (.iload_n 2, 1) := by decide +kernel
theorem d_M_exchange_23 : decode y_M_exchange.2.1 23 = .ok (.iadd, 1) := by decide +kernel
theorem d_M_exchange_24 : decode y_M_exchange.2.1 24 = .ok (.aload_n 0, 1) := by decide +kernel
theorem d_M_exchange_25 : decode y_M_exchange.2.1 25 = .ok (.getfield 85, 3) := by decide +kernel
theorem d_M_exchange_28 : decode y_M_exchange.2.1 28 = .ok (.iload_n 2, 1) := by decide +kernel
theorem d_M_exchange_29 : decode y_M_exchange.2.1 29 = .ok (.iaload, 1) := by decide +kernel
theorem d_M_exchange_30 : decode y_M_exchange.2.1 30 = .ok (.iastore, 1) := by decide +kernel
theorem d_M_exchange_31 : decode y_M_exchange.2.1 31 = .ok (.aload_n 0, 1) := by decide +kernel
theorem d_M_exchange_32 : decode y_M_exchange.2.1 32 = .ok (.getfield 85, 3) := by decide +kernel
theorem d_M_exchange_35 : decode y_M_exchange.2.1 35 = .ok (.iload_n 2, 1) := by decide +kernel
theorem d_M_exchange_36 : decode y_M_exchange.2.1 36 = .ok (.iload_n 3, 1) := by decide +kernel
theorem d_M_exchange_37 : decode y_M_exchange.2.1 37 = .ok (.iastore, 1) := by decide +kernel
theorem d_M_exchange_38 : decode y_M_exchange.2.1 38 = .ok (.iinc 2 1, 3) := by decide +kernel
theorem d_M_exchange_41 : decode y_M_exchange.2.1 41 = .ok (.goto (-39), 3) := by decide +kernel
theorem d_M_exchange_44 : decode y_M_exchange.2.1 44 = .ok (.return_, 1) := by decide +kernel

abbrev y_M_buy : MI := (⟨"CricketHayModel", "buy", "(III)I"⟩, prog_14_method_66_code, 5, (some .int))
theorem hy_M_buy : y_M_buy.1.cls ≠ "java/lang/invoke/MethodHandle" ∧ y_M_buy.1.cls ≠ "java/lang/invoke/VarHandle" ∧ (parseMethodDescriptor y_M_buy.1.desc).map (fun d => d.parameters.length) = some 3 := by decide +kernel
theorem d_M_buy_0 : decode y_M_buy.2.1 0 = .ok (.aload_n 0, 1) := by decide +kernel
theorem d_M_buy_1 : decode y_M_buy.2.1 1 = .ok (.iload_n 1, 1) := by decide +kernel
theorem d_M_buy_2 : decode y_M_buy.2.1 2 = .ok (.iload_n 2, 1) := by decide +kernel
theorem d_M_buy_3 : decode y_M_buy.2.1 3 = .ok (.invokevirtual 424, 3) := by decide +kernel
theorem d_M_buy_6 : decode y_M_buy.2.1 6 = .ok (.ifCond .eq 28, 3) := by decide +kernel
theorem d_M_buy_9 : decode y_M_buy.2.1 9 = .ok (.iload_n 3, 1) := by decide +kernel
theorem d_M_buy_10 : decode y_M_buy.2.1 10 = .ok (.iconst 1, 1) := by decide +kernel
theorem d_M_buy_11 : decode y_M_buy.2.1 11 = .ok (.aload_n 0, 1) := by decide +kernel
theorem d_M_buy_12 : decode y_M_buy.2.1 12 = .ok (.getfield 82, 3) := by decide +kernel
theorem d_M_buy_15 : decode y_M_buy.2.1 15 = .ok (.invokestatic 381, 3) := by decide +kernel
theorem d_M_buy_18 : decode y_M_buy.2.1 18 = .ok (.ifCond .eq 16, 3) := by decide +kernel
theorem d_M_buy_21 : decode y_M_buy.2.1 21 = .ok (.iload_n 3, 1) := by decide +kernel
theorem d_M_buy_22 : decode y_M_buy.2.1 22 = .ok (.aload_n 0, 1) := by decide +kernel
theorem d_M_buy_23 : decode y_M_buy.2.1 23 = .ok (.getfield 85, 3) := by decide +kernel
theorem d_M_buy_26 : decode y_M_buy.2.1 26 = .ok (.bipush 6, 2) := by decide +kernel
theorem d_M_buy_28 : decode y_M_buy.2.1 28 = .ok (.iload_n 2, 1) := by decide +kernel
theorem d_M_buy_29 : decode y_M_buy.2.1 29 = .ok (.iadd, 1) := by decide +kernel
theorem d_M_buy_30 : decode y_M_buy.2.1 30 = .ok (.iaload, 1) := by decide +kernel
theorem d_M_buy_31 : decode y_M_buy.2.1 31 = .ok (.if_icmp .le 5, 3) := by decide +kernel
theorem d_M_buy_34 : decode y_M_buy.2.1 34 = .ok (.iconst (-1), 1) := by decide +kernel
theorem d_M_buy_35 : decode y_M_buy.2.1 35 = .ok (.ireturn, 1) := by decide +kernel
theorem d_M_buy_36 : decode y_M_buy.2.1 36 = .ok (.aload_n 0, 1) := by decide +kernel
theorem d_M_buy_37 : decode y_M_buy.2.1 37 = .ok (.invokevirtual 421, 3) := by decide +kernel
theorem d_M_buy_40 : decode y_M_buy.2.1 40 = .ok (.iload_n 3, 1) := by decide +kernel
theorem d_M_buy_41 : decode y_M_buy.2.1 41 = .ok (.aload_n 0, 1) := by decide +kernel
theorem d_M_buy_42 : decode y_M_buy.2.1 42 = .ok (.iload_n 1, 1) := by decide +kernel
theorem d_M_buy_43 : decode y_M_buy.2.1 43 = .ok (.iload_n 2, 1) := by decide +kernel
theorem d_M_buy_44 : decode y_M_buy.2.1 44 = .ok (.invokevirtual 428, 3) := by decide +kernel
theorem d_M_buy_47 : decode y_M_buy.2.1 47 = .ok (.imul, 1) := by decide +kernel
theorem d_M_buy_48 : decode y_M_buy.2.1 48 = .ok (.istore 4, 2) := by decide +kernel
theorem d_M_buy_50 : decode y_M_buy.2.1 50 = .ok (.iload 4, 2) := by decide +kernel
theorem d_M_buy_52 : decode y_M_buy.2.1 52 = .ok (.aload_n 0, 1) := by decide +kernel
theorem d_M_buy_53 : decode y_M_buy.2.1 53 = .ok (.getfield 85, 3) := by decide +kernel
theorem d_M_buy_56 : decode y_M_buy.2.1 56 = .ok (.iload_n 1, 1) := by decide +kernel
theorem d_M_buy_57 : decode y_M_buy.2.1 57 = .ok (.iaload, 1) := by decide +kernel
theorem d_M_buy_58 : decode y_M_buy.2.1 58 = .ok (.if_icmp .le 5, 3) := by decide +kernel
theorem d_M_buy_61 : decode y_M_buy.2.1 61 = .ok (.iconst (-1), 1) := by decide +kernel
theorem d_M_buy_62 : decode y_M_buy.2.1 62 = .ok (.ireturn, 1) := by decide +kernel
theorem d_M_buy_63 : decode y_M_buy.2.1 63 = .ok (.aload_n 0, 1) := by decide +kernel
theorem d_M_buy_64 : decode y_M_buy.2.1 64 = .ok (.invokevirtual 434, 3) := by decide +kernel
theorem d_M_buy_67 : decode y_M_buy.2.1 67 = .ok (.aload_n 0, 1) := by decide +kernel
theorem d_M_buy_68 : decode y_M_buy.2.1 68 = .ok (.getfield 85, 3) := by decide +kernel
theorem d_M_buy_71 : decode y_M_buy.2.1 71 = .ok (.iload_n 1, 1) := by decide +kernel
theorem d_M_buy_72 : decode y_M_buy.2.1 72 = .ok (.dup2, 1) := by decide +kernel
theorem d_M_buy_73 : decode y_M_buy.2.1 73 = .ok (.iaload, 1) := by decide +kernel
theorem d_M_buy_74 : decode y_M_buy.2.1 74 = .ok (.iload 4, 2) := by decide +kernel
theorem d_M_buy_76 : decode y_M_buy.2.1 76 = .ok (.isub, 1) := by decide +kernel
theorem d_M_buy_77 : decode y_M_buy.2.1 77 = .ok (.iastore, 1) := by decide +kernel
theorem d_M_buy_78 : decode y_M_buy.2.1 78 = .ok (.aload_n 0, 1) := by decide +kernel
theorem d_M_buy_79 : decode y_M_buy.2.1 79 = .ok (.getfield 85, 3) := by decide +kernel
theorem d_M_buy_82 : decode y_M_buy.2.1 82 = .ok (.iload_n 2, 1) := by decide +kernel
theorem d_M_buy_83 : decode y_M_buy.2.1 83 = .ok (.dup2, 1) := by decide +kernel
theorem d_M_buy_84 : decode y_M_buy.2.1 84 = .ok (.iaload, 1) := by decide +kernel
theorem d_M_buy_85 : decode y_M_buy.2.1 85 = .ok (.iload 4, 2) := by decide +kernel
theorem d_M_buy_87 : decode y_M_buy.2.1 87 = .ok (.iadd, 1) := by decide +kernel
theorem d_M_buy_88 : decode y_M_buy.2.1 88 = .ok (.iastore, 1) := by decide +kernel
theorem d_M_buy_89 : decode y_M_buy.2.1 89 = .ok (.aload_n 0, 1) := by decide +kernel
theorem d_M_buy_90 : decode y_M_buy.2.1 90 = .ok (.getfield 85, 3) := by decide +kernel
theorem d_M_buy_93 : decode y_M_buy.2.1 93 = .ok (.bipush 6, 2) := by decide +kernel
theorem d_M_buy_95 : decode y_M_buy.2.1 95 = .ok (.iload_n 1, 1) := by decide +kernel
theorem d_M_buy_96 : decode y_M_buy.2.1 96 = .ok (.iadd, 1) := by decide +kernel
theorem d_M_buy_97 : decode y_M_buy.2.1 97 = .ok (.dup2, 1) := by decide +kernel
theorem d_M_buy_98 : decode y_M_buy.2.1 98 = .ok (.iaload, 1) := by decide +kernel
theorem d_M_buy_99 : decode y_M_buy.2.1 99 = .ok (.iload_n 3, 1) := by decide +kernel
theorem d_M_buy_100 : decode y_M_buy.2.1 100 = .ok (.iadd, 1) := by decide +kernel
theorem d_M_buy_101 : decode y_M_buy.2.1 101 = .ok (.iastore, 1) := by decide +kernel
theorem d_M_buy_102 : decode y_M_buy.2.1 102 = .ok (.aload_n 0, 1) := by decide +kernel
theorem d_M_buy_103 : decode y_M_buy.2.1 103 = .ok (.getfield 85, 3) := by decide +kernel
theorem d_M_buy_106 : decode y_M_buy.2.1 106 = .ok (.bipush 6, 2) := by decide +kernel
theorem d_M_buy_108 : decode y_M_buy.2.1 108 = .ok (.iload_n 2, 1) := by decide +kernel
theorem d_M_buy_109 : decode y_M_buy.2.1 109 = .ok (.iadd, 1) := by decide +kernel
theorem d_M_buy_110 : decode y_M_buy.2.1 110 = .ok (.dup2, 1) := by decide +kernel
theorem d_M_buy_111 : decode y_M_buy.2.1 111 = .ok (.iaload, 1) := by decide +kernel
theorem d_M_buy_112 : decode y_M_buy.2.1 112 = .ok (.iload_n 3, 1) := by decide +kernel
theorem d_M_buy_113 : decode y_M_buy.2.1 113 = .ok (.isub, 1) := by decide +kernel
theorem d_M_buy_114 : decode y_M_buy.2.1 114 = .ok (.iastore, 1) := by decide +kernel
theorem d_M_buy_115 : decode y_M_buy.2.1 115 = .ok (.iload 4, 2) := by decide +kernel
theorem d_M_buy_117 : decode y_M_buy.2.1 117 = .ok (.ireturn, 1) := by decide +kernel
def f_M_within  (a0 : Int32) (a1 : Int32) (h : AH) : Option (Int32 × AH) :=
  if 0 ≤ a0 then
    if a0 ≤ a1 then
      some (a0, h)
    else
      some (a1, h)
  else
    some ((0 : Int32), h)
set_option maxHeartbeats 2000000 in
theorem ok_M_within {G : AE} {n : Nat} (hn : NN ≤ n)  (a0 : Int32) (a1 : Int32) (h : AH) : OK G n y_M_within (1) φI [.int a0, .int a1] h (f_M_within a0 a1 h) := by
  refine ok_of (y := y_M_within) (lv0 := [some (.int a0), some (.int a1)]) (by decide +kernel) (Nat.le_of_ble_eq_true rfl) ⟨rfl, ⟨rfl, trivial⟩⟩ ?_
  rw [f_M_within]
  refine r_iload_n (pc := 0) (i := 0) d_M_within_0 rfl rfl ?_
  refine r_if_ge (pc := 1) (tgt := 8) d_M_within_1 (by rfl) ?_ ?_
  · refine r_iload_n (pc := 8) (i := 0) d_M_within_8 rfl rfl ?_
    refine r_iload_n (pc := 9) (i := 1) d_M_within_9 rfl rfl ?_
    refine r_icmp_le (pc := 10) (tgt := 17) d_M_within_10 (by rfl) ?_ ?_
    · refine r_iload_n (pc := 17) (i := 0) d_M_within_17 rfl rfl ?_
      exact r_iret (pc := 18) rfl d_M_within_18
    · refine r_iload_n (pc := 13) (i := 1) d_M_within_13 rfl rfl ?_
      refine r_goto (pc := 14) (tgt := 18) d_M_within_14 (by rfl) ?_
      exact r_iret (pc := 18) rfl d_M_within_18
  · refine r_iconst (pc := 4) (v := 0) d_M_within_4 (by rfl) ?_
    refine r_goto (pc := 5) (tgt := 18) d_M_within_5 (by rfl) ?_
    exact r_iret (pc := 18) rfl d_M_within_18

def f_M_readKind   (h : AH) : Option AH :=
  bV (f_M_newName (0 : Int32) (hI h 383 36) h) fun hq1 =>
  if ¬ (hI hq1 383 2) = 0 then
    some hq1
  else
    lt (sI hq1 383 36 ((hI hq1 383 36) + (1 : Int32))) fun hq2 =>
    some hq2
set_option maxHeartbeats 2000000 in
theorem ok_M_readKind {G : AE} {n : Nat} (hn : NN ≤ n)   (h : AH) : OK G n y_M_readKind (4) φV [.ref 383] h (f_M_readKind h) := by
  refine ok_of (y := y_M_readKind) (lv0 := [some (.ref 383)]) (by decide +kernel) (Nat.le_of_ble_eq_true rfl) ⟨rfl, trivial⟩ ?_
  rw [f_M_readKind]
  refine r_aload_n (pc := 0) (i := 0) d_M_readKind_0 rfl rfl ?_
  refine r_iconst (pc := 1) (v := 0) d_M_readKind_1 (by rfl) ?_
  refine r_aload_n (pc := 2) (i := 0) d_M_readKind_2 rfl rfl ?_
  refine r_getf (pc := 3) (ci := 12) (k := 36) (C := "CricketHayModel") (T := F_12) (N := 73) (v := .int (hI h 383 36)) (fun s => Std.k s (lc hn rfl) kq_383) rfl (Nat.le_of_ble_eq_true rfl) rfl w_1122 (fun _ => rfl) d_M_readKind_3 ?_
  refine r_cVv (pc := 6) (T := F_12) (N := 73) (st := []) (ok_M_newName hn (0 : Int32) (hI h 383 36) h) (fun s => Std.k s (lc hn rfl) kq_383) rfl w_1359 w_13 w_1356 w_1358 ws_53 hy_M_newName ⟨Nat.le_of_ble_eq_true rfl, Nat.le_of_ble_eq_true rfl⟩ ⟨Nat.le_of_ble_eq_true rfl, Nat.le_of_ble_eq_true rfl⟩ rfl (Nat.le_of_ble_eq_true rfl) d_M_readKind_6 (fun hq1 => ?_)
  refine r_aload_n (pc := 9) (i := 0) d_M_readKind_9 rfl rfl ?_
  refine r_getf (pc := 10) (ci := 12) (k := 2) (C := "CricketHayModel") (T := F_12) (N := 73) (v := .int (hI hq1 383 2)) (fun s => Std.k s (lc hn rfl) kq_383) rfl (Nat.le_of_ble_eq_true rfl) rfl w_1088 (fun _ => rfl) d_M_readKind_10 ?_
  refine r_if_ne (pc := 13) (tgt := 26) d_M_readKind_13 (by rfl) ?_ ?_
  · exact r_vret (pc := 26) rfl d_M_readKind_26
  · refine r_aload_n (pc := 16) (i := 0) d_M_readKind_16 rfl rfl ?_
    refine r_dup (pc := 17) d_M_readKind_17 rfl ?_
    refine r_getf (pc := 18) (ci := 12) (k := 36) (C := "CricketHayModel") (T := F_12) (N := 73) (v := .int (hI hq1 383 36)) (fun s => Std.k s (lc hn rfl) kq_383) rfl (Nat.le_of_ble_eq_true rfl) rfl w_1122 (fun _ => rfl) d_M_readKind_18 ?_
    refine r_iconst (pc := 21) (v := 1) d_M_readKind_21 (by rfl) ?_
    refine r_iadd (pc := 22) d_M_readKind_22 ?_
    refine r_putI (pc := 23) (ci := 12) (k := 36) (C := "CricketHayModel") (T := F_12) (N := 73) (fun s => Std.k s (lc hn rfl) kq_383) rfl (Nat.le_of_ble_eq_true rfl) rfl rfl w_1122 (fun _ _ => rfl) (fun _ => rfl) (fun _ => rfl) (fun s => Std.sI s _ _ _) d_M_readKind_23 ?_
    refine r_ltH (fun hq2 => ?_)
    exact r_vret (pc := 26) rfl d_M_readKind_26

def f_M_readDealer_b67    (x1 : Int32) (h : AH) : Option AH :=
  if (hI h 383 2) ≤ 0 then
    bI (f_M_find (0 : Int32) (hI h 383 36) h) fun rq1 hq2 =>
    gx x1 6 <|
    lt (sI hq2 396 (ix x1) rq1) fun hq4 =>
    bV (f_M_token hq4) fun hq5 =>
    bI (f_M_told (1936682599 : Int64) (0 : Int32) (9 : Int32) hq5) fun rq6 hq7 =>
    gx x1 6 <|
    lt (sI hq7 397 (ix x1) rq6) fun hq9 =>
    bI (f_M_option (6383461 : Int64) (99 : Int32) hq9) fun rq10 hq11 =>
    gx x1 6 <|
    lt (sI hq11 398 (ix x1) rq10) fun hq13 =>
    bI (f_M_option (1735355492 : Int64) (9999 : Int32) hq13) fun rq14 hq15 =>
    gx x1 6 <|
    lt (sI hq15 399 (ix x1) rq14) fun hq17 =>
    bI (f_M_option (465725121651 : Int64) (99 : Int32) hq17) fun rq18 hq19 =>
    gx x1 6 <|
    lt (sI hq19 400 (ix x1) rq18) fun hq21 =>
    bI (f_M_option (474147546227 : Int64) (9 : Int32) hq21) fun rq22 hq23 =>
    gx x1 6 <|
    lt (sI hq23 401 (ix x1) rq22) fun hq25 =>
    if ¬ (hI hq25 383 2) = 0 then
      some hq25
    else
      lt (sI hq25 383 37 ((hI hq25 383 37) + (1 : Int32))) fun hq26 =>
      some hq26
  else
    some h
set_option maxHeartbeats 2000000 in
theorem o_M_readDealer_b67 {G : AE} {n : Nat} (hn : NN ≤ n)     : ∀ (x1 : Int32) (h : AH), AJ G n y_M_readDealer (6) φV 67 [some (.ref 383), some (.int x1)] [] h (f_M_readDealer_b67 x1 h) := by
  intro x1 h
  rw [f_M_readDealer_b67]
  refine r_aload_n (pc := 67) (i := 0) d_M_readDealer_67 rfl rfl ?_
  refine r_getf (pc := 68) (ci := 12) (k := 2) (C := "CricketHayModel") (T := F_12) (N := 73) (v := .int (hI h 383 2)) (fun s => Std.k s (lc hn rfl) kq_383) rfl (Nat.le_of_ble_eq_true rfl) rfl w_1088 (fun _ => rfl) d_M_readDealer_68 ?_
  refine r_if_le (pc := 71) (tgt := 75) d_M_readDealer_71 (by rfl) ?_ ?_
  · refine r_aload_n (pc := 75) (i := 0) d_M_readDealer_75 rfl rfl ?_
    refine r_getf (pc := 76) (ci := 12) (k := 27) (C := "CricketHayModel") (T := F_12) (N := 73) (v := .ref 396) (fun s => Std.k s (lc hn rfl) kq_383) rfl (Nat.le_of_ble_eq_true rfl) rfl w_1113 (fun s => vr rfl (Std.r s (lc hn rfl) rq_383_27)) d_M_readDealer_76 ?_
    refine r_iload_n (pc := 79) (i := 1) d_M_readDealer_79 rfl rfl ?_
    refine r_aload_n (pc := 80) (i := 0) d_M_readDealer_80 rfl rfl ?_
    refine r_iconst (pc := 81) (v := 0) d_M_readDealer_81 (by rfl) ?_
    refine r_aload_n (pc := 82) (i := 0) d_M_readDealer_82 rfl rfl ?_
    refine r_getf (pc := 83) (ci := 12) (k := 36) (C := "CricketHayModel") (T := F_12) (N := 73) (v := .int (hI h 383 36)) (fun s => Std.k s (lc hn rfl) kq_383) rfl (Nat.le_of_ble_eq_true rfl) rfl w_1122 (fun _ => rfl) d_M_readDealer_83 ?_
    refine r_cVi (pc := 86) (T := F_12) (N := 73) (st := [.int x1, .ref 396]) (ok_M_find hn (0 : Int32) (hI h 383 36) h) (fun s => Std.k s (lc hn rfl) kq_383) rfl w_1393 w_13 w_1390 w_1392 ws_57 hy_M_find ⟨Nat.le_of_ble_eq_true rfl, Nat.le_of_ble_eq_true rfl⟩ ⟨Nat.le_of_ble_eq_true rfl, Nat.le_of_ble_eq_true rfl⟩ rfl (Nat.le_of_ble_eq_true rfl) d_M_readDealer_86 (fun rq1 hq2 => ?_)
    refine r_gx (fun zq3 => ?_)
    refine r_iast (pc := 89) (n := 6) (i0 := (ix x1)) (fun s => Std.k s (lc hn rfl) kq_396) zq3 rfl (fun s => Std.sI s _ _ _) d_M_readDealer_89 ?_
    refine r_ltH (fun hq4 => ?_)
    refine r_aload_n (pc := 90) (i := 0) d_M_readDealer_90 rfl rfl ?_
    refine r_cVv (pc := 91) (T := F_12) (N := 73) (st := []) (ok_M_token hn hq4) (fun s => Std.k s (lc hn rfl) kq_383) rfl w_1329 w_13 w_1326 w_1328 ws_48 hy_M_token ⟨Nat.le_of_ble_eq_true rfl, Nat.le_of_ble_eq_true rfl⟩ ⟨Nat.le_of_ble_eq_true rfl, Nat.le_of_ble_eq_true rfl⟩ rfl (Nat.le_of_ble_eq_true rfl) d_M_readDealer_91 (fun hq5 => ?_)
    refine r_aload_n (pc := 94) (i := 0) d_M_readDealer_94 rfl rfl ?_
    refine r_getf (pc := 95) (ci := 12) (k := 28) (C := "CricketHayModel") (T := F_12) (N := 73) (v := .ref 397) (fun s => Std.k s (lc hn rfl) kq_383) rfl (Nat.le_of_ble_eq_true rfl) rfl w_1114 (fun s => vr rfl (Std.r s (lc hn rfl) rq_383_28)) d_M_readDealer_95 ?_
    refine r_iload_n (pc := 98) (i := 1) d_M_readDealer_98 rfl rfl ?_
    refine r_aload_n (pc := 99) (i := 0) d_M_readDealer_99 rfl rfl ?_
    refine r_ldc2 (pc := 100) w_1370 d_M_readDealer_100 ?_
    refine r_iconst (pc := 103) (v := 0) d_M_readDealer_103 (by rfl) ?_
    refine r_bipush (pc := 104) (v := 9) d_M_readDealer_104 (by rfl) ?_
    refine r_cVi (pc := 106) (T := F_12) (N := 73) (st := [.int x1, .ref 397]) (ok_M_told hn (1936682599 : Int64) (0 : Int32) (9 : Int32) hq5) (fun s => Std.k s (lc hn rfl) kq_383) rfl w_1405 w_13 w_1402 w_1404 ws_60 hy_M_told ⟨Nat.le_of_ble_eq_true rfl, Nat.le_of_ble_eq_true rfl⟩ ⟨Nat.le_of_ble_eq_true rfl, Nat.le_of_ble_eq_true rfl⟩ rfl (Nat.le_of_ble_eq_true rfl) d_M_readDealer_106 (fun rq6 hq7 => ?_)
    refine r_gx (fun zq8 => ?_)
    refine r_iast (pc := 109) (n := 6) (i0 := (ix x1)) (fun s => Std.k s (lc hn rfl) kq_397) zq8 rfl (fun s => Std.sI s _ _ _) d_M_readDealer_109 ?_
    refine r_ltH (fun hq9 => ?_)
    refine r_aload_n (pc := 110) (i := 0) d_M_readDealer_110 rfl rfl ?_
    refine r_getf (pc := 111) (ci := 12) (k := 29) (C := "CricketHayModel") (T := F_12) (N := 73) (v := .ref 398) (fun s => Std.k s (lc hn rfl) kq_383) rfl (Nat.le_of_ble_eq_true rfl) rfl w_1115 (fun s => vr rfl (Std.r s (lc hn rfl) rq_383_29)) d_M_readDealer_111 ?_
    refine r_iload_n (pc := 114) (i := 1) d_M_readDealer_114 rfl rfl ?_
    refine r_aload_n (pc := 115) (i := 0) d_M_readDealer_115 rfl rfl ?_
    refine r_ldc2 (pc := 116) w_1371 d_M_readDealer_116 ?_
    refine r_bipush (pc := 119) (v := 99) d_M_readDealer_119 (by rfl) ?_
    refine r_cVi (pc := 121) (T := F_12) (N := 73) (st := [.int x1, .ref 398]) (ok_M_option hn (6383461 : Int64) (99 : Int32) hq9) (fun s => Std.k s (lc hn rfl) kq_383) rfl w_1413 w_13 w_1410 w_1412 ws_62 hy_M_option ⟨Nat.le_of_ble_eq_true rfl, Nat.le_of_ble_eq_true rfl⟩ ⟨Nat.le_of_ble_eq_true rfl, Nat.le_of_ble_eq_true rfl⟩ rfl (Nat.le_of_ble_eq_true rfl) d_M_readDealer_121 (fun rq10 hq11 => ?_)
    refine r_gx (fun zq12 => ?_)
    refine r_iast (pc := 124) (n := 6) (i0 := (ix x1)) (fun s => Std.k s (lc hn rfl) kq_398) zq12 rfl (fun s => Std.sI s _ _ _) d_M_readDealer_124 ?_
    refine r_ltH (fun hq13 => ?_)
    refine r_aload_n (pc := 125) (i := 0) d_M_readDealer_125 rfl rfl ?_
    refine r_getf (pc := 126) (ci := 12) (k := 30) (C := "CricketHayModel") (T := F_12) (N := 73) (v := .ref 399) (fun s => Std.k s (lc hn rfl) kq_383) rfl (Nat.le_of_ble_eq_true rfl) rfl w_1116 (fun s => vr rfl (Std.r s (lc hn rfl) rq_383_30)) d_M_readDealer_126 ?_
    refine r_iload_n (pc := 129) (i := 1) d_M_readDealer_129 rfl rfl ?_
    refine r_aload_n (pc := 130) (i := 0) d_M_readDealer_130 rfl rfl ?_
    refine r_ldc2 (pc := 131) w_1372 d_M_readDealer_131 ?_
    refine r_sipush (pc := 134) (v := 9999) d_M_readDealer_134 (by rfl) ?_
    refine r_cVi (pc := 137) (T := F_12) (N := 73) (st := [.int x1, .ref 399]) (ok_M_option hn (1735355492 : Int64) (9999 : Int32) hq13) (fun s => Std.k s (lc hn rfl) kq_383) rfl w_1413 w_13 w_1410 w_1412 ws_62 hy_M_option ⟨Nat.le_of_ble_eq_true rfl, Nat.le_of_ble_eq_true rfl⟩ ⟨Nat.le_of_ble_eq_true rfl, Nat.le_of_ble_eq_true rfl⟩ rfl (Nat.le_of_ble_eq_true rfl) d_M_readDealer_137 (fun rq14 hq15 => ?_)
    refine r_gx (fun zq16 => ?_)
    refine r_iast (pc := 140) (n := 6) (i0 := (ix x1)) (fun s => Std.k s (lc hn rfl) kq_399) zq16 rfl (fun s => Std.sI s _ _ _) d_M_readDealer_140 ?_
    refine r_ltH (fun hq17 => ?_)
    refine r_aload_n (pc := 141) (i := 0) d_M_readDealer_141 rfl rfl ?_
    refine r_getf (pc := 142) (ci := 12) (k := 31) (C := "CricketHayModel") (T := F_12) (N := 73) (v := .ref 400) (fun s => Std.k s (lc hn rfl) kq_383) rfl (Nat.le_of_ble_eq_true rfl) rfl w_1117 (fun s => vr rfl (Std.r s (lc hn rfl) rq_383_31)) d_M_readDealer_142 ?_
    refine r_iload_n (pc := 145) (i := 1) d_M_readDealer_145 rfl rfl ?_
    refine r_aload_n (pc := 146) (i := 0) d_M_readDealer_146 rfl rfl ?_
    refine r_ldc2 (pc := 147) w_1373 d_M_readDealer_147 ?_
    refine r_bipush (pc := 150) (v := 99) d_M_readDealer_150 (by rfl) ?_
    refine r_cVi (pc := 152) (T := F_12) (N := 73) (st := [.int x1, .ref 400]) (ok_M_option hn (465725121651 : Int64) (99 : Int32) hq17) (fun s => Std.k s (lc hn rfl) kq_383) rfl w_1413 w_13 w_1410 w_1412 ws_62 hy_M_option ⟨Nat.le_of_ble_eq_true rfl, Nat.le_of_ble_eq_true rfl⟩ ⟨Nat.le_of_ble_eq_true rfl, Nat.le_of_ble_eq_true rfl⟩ rfl (Nat.le_of_ble_eq_true rfl) d_M_readDealer_152 (fun rq18 hq19 => ?_)
    refine r_gx (fun zq20 => ?_)
    refine r_iast (pc := 155) (n := 6) (i0 := (ix x1)) (fun s => Std.k s (lc hn rfl) kq_400) zq20 rfl (fun s => Std.sI s _ _ _) d_M_readDealer_155 ?_
    refine r_ltH (fun hq21 => ?_)
    refine r_aload_n (pc := 156) (i := 0) d_M_readDealer_156 rfl rfl ?_
    refine r_getf (pc := 157) (ci := 12) (k := 32) (C := "CricketHayModel") (T := F_12) (N := 73) (v := .ref 401) (fun s => Std.k s (lc hn rfl) kq_383) rfl (Nat.le_of_ble_eq_true rfl) rfl w_1118 (fun s => vr rfl (Std.r s (lc hn rfl) rq_383_32)) d_M_readDealer_157 ?_
    refine r_iload_n (pc := 160) (i := 1) d_M_readDealer_160 rfl rfl ?_
    refine r_aload_n (pc := 161) (i := 0) d_M_readDealer_161 rfl rfl ?_
    refine r_ldc2 (pc := 162) w_1374 d_M_readDealer_162 ?_
    refine r_bipush (pc := 165) (v := 9) d_M_readDealer_165 (by rfl) ?_
    refine r_cVi (pc := 167) (T := F_12) (N := 73) (st := [.int x1, .ref 401]) (ok_M_option hn (474147546227 : Int64) (9 : Int32) hq21) (fun s => Std.k s (lc hn rfl) kq_383) rfl w_1413 w_13 w_1410 w_1412 ws_62 hy_M_option ⟨Nat.le_of_ble_eq_true rfl, Nat.le_of_ble_eq_true rfl⟩ ⟨Nat.le_of_ble_eq_true rfl, Nat.le_of_ble_eq_true rfl⟩ rfl (Nat.le_of_ble_eq_true rfl) d_M_readDealer_167 (fun rq22 hq23 => ?_)
    refine r_gx (fun zq24 => ?_)
    refine r_iast (pc := 170) (n := 6) (i0 := (ix x1)) (fun s => Std.k s (lc hn rfl) kq_401) zq24 rfl (fun s => Std.sI s _ _ _) d_M_readDealer_170 ?_
    refine r_ltH (fun hq25 => ?_)
    refine r_aload_n (pc := 171) (i := 0) d_M_readDealer_171 rfl rfl ?_
    refine r_getf (pc := 172) (ci := 12) (k := 2) (C := "CricketHayModel") (T := F_12) (N := 73) (v := .int (hI hq25 383 2)) (fun s => Std.k s (lc hn rfl) kq_383) rfl (Nat.le_of_ble_eq_true rfl) rfl w_1088 (fun _ => rfl) d_M_readDealer_172 ?_
    refine r_if_ne (pc := 175) (tgt := 188) d_M_readDealer_175 (by rfl) ?_ ?_
    · exact r_vret (pc := 188) rfl d_M_readDealer_188
    · refine r_aload_n (pc := 178) (i := 0) d_M_readDealer_178 rfl rfl ?_
      refine r_dup (pc := 179) d_M_readDealer_179 rfl ?_
      refine r_getf (pc := 180) (ci := 12) (k := 37) (C := "CricketHayModel") (T := F_12) (N := 73) (v := .int (hI hq25 383 37)) (fun s => Std.k s (lc hn rfl) kq_383) rfl (Nat.le_of_ble_eq_true rfl) rfl w_1123 (fun _ => rfl) d_M_readDealer_180 ?_
      refine r_iconst (pc := 183) (v := 1) d_M_readDealer_183 (by rfl) ?_
      refine r_iadd (pc := 184) d_M_readDealer_184 ?_
      refine r_putI (pc := 185) (ci := 12) (k := 37) (C := "CricketHayModel") (T := F_12) (N := 73) (fun s => Std.k s (lc hn rfl) kq_383) rfl (Nat.le_of_ble_eq_true rfl) rfl rfl w_1123 (fun _ _ => rfl) (fun _ => rfl) (fun _ => rfl) (fun s => Std.sI s _ _ _) d_M_readDealer_185 ?_
      refine r_ltH (fun hq26 => ?_)
      exact r_vret (pc := 188) rfl d_M_readDealer_188
  · exact r_vret (pc := 74) rfl d_M_readDealer_74
def f_M_readDealer_b43    (x1 : Int32) (h : AH) : Option AH :=
  if ¬ (hI h 383 2) = 0 then
    f_M_readDealer_b67 x1 h
  else
    bI (f_M_find (0 : Int32) (hI h 383 36) h) fun rq1 hq2 =>
    if 0 ≤ rq1 then
      f_M_readDealer_b67 x1 hq2
    else
      bV (f_M_wrong (5 : Int32) hq2) fun hq3 =>
      f_M_readDealer_b67 x1 hq3
set_option maxHeartbeats 2000000 in
theorem o_M_readDealer_b43 {G : AE} {n : Nat} (hn : NN ≤ n)     : ∀ (x1 : Int32) (h : AH), AJ G n y_M_readDealer (6) φV 43 [some (.ref 383), some (.int x1)] [] h (f_M_readDealer_b43 x1 h) := by
  intro x1 h
  rw [f_M_readDealer_b43]
  refine r_aload_n (pc := 43) (i := 0) d_M_readDealer_43 rfl rfl ?_
  refine r_getf (pc := 44) (ci := 12) (k := 2) (C := "CricketHayModel") (T := F_12) (N := 73) (v := .int (hI h 383 2)) (fun s => Std.k s (lc hn rfl) kq_383) rfl (Nat.le_of_ble_eq_true rfl) rfl w_1088 (fun _ => rfl) d_M_readDealer_44 ?_
  refine r_if_ne (pc := 47) (tgt := 67) d_M_readDealer_47 (by rfl) ?_ ?_
  · exact r_wk (o_M_readDealer_b67 hn x1 h) ⟨rfl, ⟨rfl, trivial⟩⟩
  · refine r_aload_n (pc := 50) (i := 0) d_M_readDealer_50 rfl rfl ?_
    refine r_iconst (pc := 51) (v := 0) d_M_readDealer_51 (by rfl) ?_
    refine r_aload_n (pc := 52) (i := 0) d_M_readDealer_52 rfl rfl ?_
    refine r_getf (pc := 53) (ci := 12) (k := 36) (C := "CricketHayModel") (T := F_12) (N := 73) (v := .int (hI h 383 36)) (fun s => Std.k s (lc hn rfl) kq_383) rfl (Nat.le_of_ble_eq_true rfl) rfl w_1122 (fun _ => rfl) d_M_readDealer_53 ?_
    refine r_cVi (pc := 56) (T := F_12) (N := 73) (st := []) (ok_M_find hn (0 : Int32) (hI h 383 36) h) (fun s => Std.k s (lc hn rfl) kq_383) rfl w_1393 w_13 w_1390 w_1392 ws_57 hy_M_find ⟨Nat.le_of_ble_eq_true rfl, Nat.le_of_ble_eq_true rfl⟩ ⟨Nat.le_of_ble_eq_true rfl, Nat.le_of_ble_eq_true rfl⟩ rfl (Nat.le_of_ble_eq_true rfl) d_M_readDealer_56 (fun rq1 hq2 => ?_)
    refine r_if_ge (pc := 59) (tgt := 67) d_M_readDealer_59 (by rfl) ?_ ?_
    · exact r_wk (o_M_readDealer_b67 hn x1 hq2) ⟨rfl, ⟨rfl, trivial⟩⟩
    · refine r_aload_n (pc := 62) (i := 0) d_M_readDealer_62 rfl rfl ?_
      refine r_iconst (pc := 63) (v := 5) d_M_readDealer_63 (by rfl) ?_
      refine r_cVv (pc := 64) (T := F_12) (N := 73) (st := []) (ok_M_wrong hn (5 : Int32) hq2) (fun s => Std.k s (lc hn rfl) kq_383) rfl w_1389 w_13 w_1386 w_1388 ws_56 hy_M_wrong ⟨Nat.le_of_ble_eq_true rfl, Nat.le_of_ble_eq_true rfl⟩ ⟨Nat.le_of_ble_eq_true rfl, Nat.le_of_ble_eq_true rfl⟩ rfl (Nat.le_of_ble_eq_true rfl) d_M_readDealer_64 (fun hq3 => ?_)
      exact r_wk (o_M_readDealer_b67 hn x1 hq3) ⟨rfl, ⟨rfl, trivial⟩⟩
def f_M_readDealer   (h : AH) : Option AH :=
  bV (f_M_newName (3 : Int32) (hI h 383 37) h) fun hq1 =>
  lt (hI hq1 383 37) fun xq2 =>
  bV (f_M_want (28518 : Int64) hq1) fun hq3 =>
  if ¬ (hI hq3 383 2) = 0 then
    f_M_readDealer_b43 xq2 hq3
  else
    bI (f_M_isName hq3) fun rq4 hq5 =>
    if ¬ rq4 = 0 then
      f_M_readDealer_b43 xq2 hq5
    else
      bV (f_M_wrong (2 : Int32) hq5) fun hq6 =>
      f_M_readDealer_b67 xq2 hq6
set_option maxHeartbeats 2000000 in
theorem ok_M_readDealer {G : AE} {n : Nat} (hn : NN ≤ n)   (h : AH) : OK G n y_M_readDealer (6) φV [.ref 383] h (f_M_readDealer h) := by
  refine ok_of (y := y_M_readDealer) (lv0 := [some (.ref 383), none]) (by decide +kernel) (Nat.le_of_ble_eq_true rfl) ⟨rfl, trivial⟩ ?_
  rw [f_M_readDealer]
  refine r_aload_n (pc := 0) (i := 0) d_M_readDealer_0 rfl rfl ?_
  refine r_iconst (pc := 1) (v := 3) d_M_readDealer_1 (by rfl) ?_
  refine r_aload_n (pc := 2) (i := 0) d_M_readDealer_2 rfl rfl ?_
  refine r_getf (pc := 3) (ci := 12) (k := 37) (C := "CricketHayModel") (T := F_12) (N := 73) (v := .int (hI h 383 37)) (fun s => Std.k s (lc hn rfl) kq_383) rfl (Nat.le_of_ble_eq_true rfl) rfl w_1123 (fun _ => rfl) d_M_readDealer_3 ?_
  refine r_cVv (pc := 6) (T := F_12) (N := 73) (st := []) (ok_M_newName hn (3 : Int32) (hI h 383 37) h) (fun s => Std.k s (lc hn rfl) kq_383) rfl w_1359 w_13 w_1356 w_1358 ws_53 hy_M_newName ⟨Nat.le_of_ble_eq_true rfl, Nat.le_of_ble_eq_true rfl⟩ ⟨Nat.le_of_ble_eq_true rfl, Nat.le_of_ble_eq_true rfl⟩ rfl (Nat.le_of_ble_eq_true rfl) d_M_readDealer_6 (fun hq1 => ?_)
  refine r_aload_n (pc := 9) (i := 0) d_M_readDealer_9 rfl rfl ?_
  refine r_getf (pc := 10) (ci := 12) (k := 37) (C := "CricketHayModel") (T := F_12) (N := 73) (v := .int (hI hq1 383 37)) (fun s => Std.k s (lc hn rfl) kq_383) rfl (Nat.le_of_ble_eq_true rfl) rfl w_1123 (fun _ => rfl) d_M_readDealer_10 ?_
  refine r_ltI (fun xq2 => ?_)
  refine r_istore_n (pc := 13) (i := 1) (lv1 := [some (.ref 383), some (.int xq2)]) d_M_readDealer_13 rfl (Nat.le_of_ble_eq_true rfl) rfl ?_
  refine r_aload_n (pc := 14) (i := 0) d_M_readDealer_14 rfl rfl ?_
  refine r_ldc2 (pc := 15) w_1369 d_M_readDealer_15 ?_
  refine r_cVv (pc := 18) (T := F_12) (N := 73) (st := []) (ok_M_want hn (28518 : Int64) hq1) (fun s => Std.k s (lc hn rfl) kq_383) rfl w_1401 w_13 w_1398 w_1400 ws_59 hy_M_want ⟨Nat.le_of_ble_eq_true rfl, Nat.le_of_ble_eq_true rfl⟩ ⟨Nat.le_of_ble_eq_true rfl, Nat.le_of_ble_eq_true rfl⟩ rfl (Nat.le_of_ble_eq_true rfl) d_M_readDealer_18 (fun hq3 => ?_)
  refine r_aload_n (pc := 21) (i := 0) d_M_readDealer_21 rfl rfl ?_
  refine r_getf (pc := 22) (ci := 12) (k := 2) (C := "CricketHayModel") (T := F_12) (N := 73) (v := .int (hI hq3 383 2)) (fun s => Std.k s (lc hn rfl) kq_383) rfl (Nat.le_of_ble_eq_true rfl) rfl w_1088 (fun _ => rfl) d_M_readDealer_22 ?_
  refine r_if_ne (pc := 25) (tgt := 43) d_M_readDealer_25 (by rfl) ?_ ?_
  · exact r_wk (o_M_readDealer_b43 hn xq2 hq3) ⟨rfl, ⟨rfl, trivial⟩⟩
  · refine r_aload_n (pc := 28) (i := 0) d_M_readDealer_28 rfl rfl ?_
    refine r_cVi (pc := 29) (T := F_12) (N := 73) (st := []) (ok_M_isName hn hq3) (fun s => Std.k s (lc hn rfl) kq_383) rfl w_1363 w_13 w_1360 w_1362 ws_54 hy_M_isName ⟨Nat.le_of_ble_eq_true rfl, Nat.le_of_ble_eq_true rfl⟩ ⟨Nat.le_of_ble_eq_true rfl, Nat.le_of_ble_eq_true rfl⟩ rfl (Nat.le_of_ble_eq_true rfl) d_M_readDealer_29 (fun rq4 hq5 => ?_)
    refine r_if_ne (pc := 32) (tgt := 43) d_M_readDealer_32 (by rfl) ?_ ?_
    · exact r_wk (o_M_readDealer_b43 hn xq2 hq5) ⟨rfl, ⟨rfl, trivial⟩⟩
    · refine r_aload_n (pc := 35) (i := 0) d_M_readDealer_35 rfl rfl ?_
      refine r_iconst (pc := 36) (v := 2) d_M_readDealer_36 (by rfl) ?_
      refine r_cVv (pc := 37) (T := F_12) (N := 73) (st := []) (ok_M_wrong hn (2 : Int32) hq5) (fun s => Std.k s (lc hn rfl) kq_383) rfl w_1389 w_13 w_1386 w_1388 ws_56 hy_M_wrong ⟨Nat.le_of_ble_eq_true rfl, Nat.le_of_ble_eq_true rfl⟩ ⟨Nat.le_of_ble_eq_true rfl, Nat.le_of_ble_eq_true rfl⟩ rfl (Nat.le_of_ble_eq_true rfl) d_M_readDealer_37 (fun hq6 => ?_)
      refine r_goto (pc := 40) (tgt := 67) d_M_readDealer_40 (by rfl) ?_
      exact r_wk (o_M_readDealer_b67 hn xq2 hq6) ⟨rfl, ⟨rfl, trivial⟩⟩

def f_M_readLine_b263     (h : AH) : Option AH :=
  if ¬ (hI h 383 2) = 0 then
    some h
  else
    bV (f_M_token h) fun hq1 =>
    some hq1
set_option maxHeartbeats 2000000 in
theorem o_M_readLine_b263 {G : AE} {n : Nat} (hn : NN ≤ n)     : ∀  (h : AH), AJ G n y_M_readLine (7) φV 263 [some (.ref 383)] [] h (f_M_readLine_b263 h) := by
  intro  h
  rw [f_M_readLine_b263]
  refine r_aload_n (pc := 263) (i := 0) d_M_readLine_263 rfl rfl ?_
  refine r_getf (pc := 264) (ci := 12) (k := 2) (C := "CricketHayModel") (T := F_12) (N := 73) (v := .int (hI h 383 2)) (fun s => Std.k s (lc hn rfl) kq_383) rfl (Nat.le_of_ble_eq_true rfl) rfl w_1088 (fun _ => rfl) d_M_readLine_264 ?_
  refine r_if_ne (pc := 267) (tgt := 274) d_M_readLine_267 (by rfl) ?_ ?_
  · exact r_vret (pc := 274) rfl d_M_readLine_274
  · refine r_aload_n (pc := 270) (i := 0) d_M_readLine_270 rfl rfl ?_
    refine r_cVv (pc := 271) (T := F_12) (N := 73) (st := []) (ok_M_token hn h) (fun s => Std.k s (lc hn rfl) kq_383) rfl w_1329 w_13 w_1326 w_1328 ws_48 hy_M_token ⟨Nat.le_of_ble_eq_true rfl, Nat.le_of_ble_eq_true rfl⟩ ⟨Nat.le_of_ble_eq_true rfl, Nat.le_of_ble_eq_true rfl⟩ rfl (Nat.le_of_ble_eq_true rfl) d_M_readLine_271 (fun hq1 => ?_)
    exact r_vret (pc := 274) rfl d_M_readLine_274
def f_M_readLine_b242     (h : AH) : Option AH :=
  if ¬ (hI h 383 2) = 0 then
    f_M_readLine_b263 h
  else
    if (hI h 383 6) = (59 : Int32) then
      f_M_readLine_b263 h
    else
      bV (f_M_wrong (2 : Int32) h) fun hq1 =>
      f_M_readLine_b263 hq1
set_option maxHeartbeats 2000000 in
theorem o_M_readLine_b242 {G : AE} {n : Nat} (hn : NN ≤ n)     : ∀  (h : AH), AJ G n y_M_readLine (7) φV 242 [some (.ref 383)] [] h (f_M_readLine_b242 h) := by
  intro  h
  rw [f_M_readLine_b242]
  refine r_aload_n (pc := 242) (i := 0) d_M_readLine_242 rfl rfl ?_
  refine r_getf (pc := 243) (ci := 12) (k := 2) (C := "CricketHayModel") (T := F_12) (N := 73) (v := .int (hI h 383 2)) (fun s => Std.k s (lc hn rfl) kq_383) rfl (Nat.le_of_ble_eq_true rfl) rfl w_1088 (fun _ => rfl) d_M_readLine_243 ?_
  refine r_if_ne (pc := 246) (tgt := 263) d_M_readLine_246 (by rfl) ?_ ?_
  · exact r_wk (o_M_readLine_b263 hn h) ⟨rfl, trivial⟩
  · refine r_aload_n (pc := 249) (i := 0) d_M_readLine_249 rfl rfl ?_
    refine r_getf (pc := 250) (ci := 12) (k := 6) (C := "CricketHayModel") (T := F_12) (N := 73) (v := .int (hI h 383 6)) (fun s => Std.k s (lc hn rfl) kq_383) rfl (Nat.le_of_ble_eq_true rfl) rfl w_1092 (fun _ => rfl) d_M_readLine_250 ?_
    refine r_bipush (pc := 253) (v := 59) d_M_readLine_253 (by rfl) ?_
    refine r_icmp_eq (pc := 255) (tgt := 263) d_M_readLine_255 (by rfl) ?_ ?_
    · exact r_wk (o_M_readLine_b263 hn h) ⟨rfl, trivial⟩
    · refine r_aload_n (pc := 258) (i := 0) d_M_readLine_258 rfl rfl ?_
      refine r_iconst (pc := 259) (v := 2) d_M_readLine_259 (by rfl) ?_
      refine r_cVv (pc := 260) (T := F_12) (N := 73) (st := []) (ok_M_wrong hn (2 : Int32) h) (fun s => Std.k s (lc hn rfl) kq_383) rfl w_1389 w_13 w_1386 w_1388 ws_56 hy_M_wrong ⟨Nat.le_of_ble_eq_true rfl, Nat.le_of_ble_eq_true rfl⟩ ⟨Nat.le_of_ble_eq_true rfl, Nat.le_of_ble_eq_true rfl⟩ rfl (Nat.le_of_ble_eq_true rfl) d_M_readLine_260 (fun hq1 => ?_)
      exact r_wk (o_M_readLine_b263 hn hq1) ⟨rfl, trivial⟩
def f_M_readLine_b237     (h : AH) : Option AH :=
  bV (f_M_wrong (2 : Int32) h) fun hq1 =>
  f_M_readLine_b242 hq1
set_option maxHeartbeats 2000000 in
theorem o_M_readLine_b237 {G : AE} {n : Nat} (hn : NN ≤ n)     : ∀  (h : AH), AJ G n y_M_readLine (7) φV 237 [some (.ref 383)] [] h (f_M_readLine_b237 h) := by
  intro  h
  rw [f_M_readLine_b237]
  refine r_aload_n (pc := 237) (i := 0) d_M_readLine_237 rfl rfl ?_
  refine r_iconst (pc := 238) (v := 2) d_M_readLine_238 (by rfl) ?_
  refine r_cVv (pc := 239) (T := F_12) (N := 73) (st := []) (ok_M_wrong hn (2 : Int32) h) (fun s => Std.k s (lc hn rfl) kq_383) rfl w_1389 w_13 w_1386 w_1388 ws_56 hy_M_wrong ⟨Nat.le_of_ble_eq_true rfl, Nat.le_of_ble_eq_true rfl⟩ ⟨Nat.le_of_ble_eq_true rfl, Nat.le_of_ble_eq_true rfl⟩ rfl (Nat.le_of_ble_eq_true rfl) d_M_readLine_239 (fun hq1 => ?_)
  exact r_wk (o_M_readLine_b242 hn hq1) ⟨rfl, trivial⟩
def f_M_readLine_b197     (h : AH) : Option AH :=
  bI (f_M_isWord (1685217655 : Int64) h) fun rq1 hq2 =>
  if rq1 = 0 then
    f_M_readLine_b237 hq2
  else
    if ¬ (hI hq2 383 49) = 0 then
      f_M_readLine_b237 hq2
    else
      lt (sI hq2 383 49 (1 : Int32)) fun hq3 =>
      bI (f_M_told (1685217655 : Int64) (0 : Int32) (999 : Int32) hq3) fun rq4 hq5 =>
      lt (sI hq5 383 41 rq4) fun hq6 =>
      f_M_readLine_b242 hq6
set_option maxHeartbeats 2000000 in
theorem o_M_readLine_b197 {G : AE} {n : Nat} (hn : NN ≤ n)     : ∀  (h : AH), AJ G n y_M_readLine (7) φV 197 [some (.ref 383)] [] h (f_M_readLine_b197 h) := by
  intro  h
  rw [f_M_readLine_b197]
  refine r_aload_n (pc := 197) (i := 0) d_M_readLine_197 rfl rfl ?_
  refine r_ldc2 (pc := 198) w_1379 d_M_readLine_198 ?_
  refine r_cVi (pc := 201) (T := F_12) (N := 73) (st := []) (ok_M_isWord hn (1685217655 : Int64) h) (fun s => Std.k s (lc hn rfl) kq_383) rfl w_1351 w_13 w_1348 w_1350 ws_51 hy_M_isWord ⟨Nat.le_of_ble_eq_true rfl, Nat.le_of_ble_eq_true rfl⟩ ⟨Nat.le_of_ble_eq_true rfl, Nat.le_of_ble_eq_true rfl⟩ rfl (Nat.le_of_ble_eq_true rfl) d_M_readLine_201 (fun rq1 hq2 => ?_)
  refine r_if_eq (pc := 204) (tgt := 237) d_M_readLine_204 (by rfl) ?_ ?_
  · exact r_wk (o_M_readLine_b237 hn hq2) ⟨rfl, trivial⟩
  · refine r_aload_n (pc := 207) (i := 0) d_M_readLine_207 rfl rfl ?_
    refine r_getf (pc := 208) (ci := 12) (k := 49) (C := "CricketHayModel") (T := F_12) (N := 73) (v := .int (hI hq2 383 49)) (fun s => Std.k s (lc hn rfl) kq_383) rfl (Nat.le_of_ble_eq_true rfl) rfl w_1135 (fun _ => rfl) d_M_readLine_208 ?_
    refine r_if_ne (pc := 211) (tgt := 237) d_M_readLine_211 (by rfl) ?_ ?_
    · exact r_wk (o_M_readLine_b237 hn hq2) ⟨rfl, trivial⟩
    · refine r_aload_n (pc := 214) (i := 0) d_M_readLine_214 rfl rfl ?_
      refine r_iconst (pc := 215) (v := 1) d_M_readLine_215 (by rfl) ?_
      refine r_putI (pc := 216) (ci := 12) (k := 49) (C := "CricketHayModel") (T := F_12) (N := 73) (fun s => Std.k s (lc hn rfl) kq_383) rfl (Nat.le_of_ble_eq_true rfl) rfl rfl w_1135 (fun _ _ => rfl) (fun _ => by decide) (fun _ => by decide) (fun s => Std.sI s _ _ _) d_M_readLine_216 ?_
      refine r_ltH (fun hq3 => ?_)
      refine r_aload_n (pc := 219) (i := 0) d_M_readLine_219 rfl rfl ?_
      refine r_aload_n (pc := 220) (i := 0) d_M_readLine_220 rfl rfl ?_
      refine r_ldc2 (pc := 221) w_1379 d_M_readLine_221 ?_
      refine r_iconst (pc := 224) (v := 0) d_M_readLine_224 (by rfl) ?_
      refine r_sipush (pc := 225) (v := 999) d_M_readLine_225 (by rfl) ?_
      refine r_cVi (pc := 228) (T := F_12) (N := 73) (st := [.ref 383]) (ok_M_told hn (1685217655 : Int64) (0 : Int32) (999 : Int32) hq3) (fun s => Std.k s (lc hn rfl) kq_383) rfl w_1405 w_13 w_1402 w_1404 ws_60 hy_M_told ⟨Nat.le_of_ble_eq_true rfl, Nat.le_of_ble_eq_true rfl⟩ ⟨Nat.le_of_ble_eq_true rfl, Nat.le_of_ble_eq_true rfl⟩ rfl (Nat.le_of_ble_eq_true rfl) d_M_readLine_228 (fun rq4 hq5 => ?_)
      refine r_putI (pc := 231) (ci := 12) (k := 41) (C := "CricketHayModel") (T := F_12) (N := 73) (fun s => Std.k s (lc hn rfl) kq_383) rfl (Nat.le_of_ble_eq_true rfl) rfl rfl w_1127 (fun _ _ => rfl) (fun _ => rfl) (fun _ => rfl) (fun s => Std.sI s _ _ _) d_M_readLine_231 ?_
      refine r_ltH (fun hq6 => ?_)
      refine r_goto (pc := 234) (tgt := 242) d_M_readLine_234 (by rfl) ?_
      exact r_wk (o_M_readLine_b242 hn hq6) ⟨rfl, trivial⟩
def f_M_readLine_b158     (h : AH) : Option AH :=
  bI (f_M_isWord (1667330676 : Int64) h) fun rq1 hq2 =>
  if rq1 = 0 then
    f_M_readLine_b197 hq2
  else
    if ¬ (hI hq2 383 48) = 0 then
      f_M_readLine_b197 hq2
    else
      lt (sI hq2 383 48 (1 : Int32)) fun hq3 =>
      bI (f_M_told (1667330676 : Int64) (1 : Int32) (9 : Int32) hq3) fun rq4 hq5 =>
      lt (sI hq5 383 40 rq4) fun hq6 =>
      f_M_readLine_b242 hq6
set_option maxHeartbeats 2000000 in
theorem o_M_readLine_b158 {G : AE} {n : Nat} (hn : NN ≤ n)     : ∀  (h : AH), AJ G n y_M_readLine (7) φV 158 [some (.ref 383)] [] h (f_M_readLine_b158 h) := by
  intro  h
  rw [f_M_readLine_b158]
  refine r_aload_n (pc := 158) (i := 0) d_M_readLine_158 rfl rfl ?_
  refine r_ldc2 (pc := 159) w_1378 d_M_readLine_159 ?_
  refine r_cVi (pc := 162) (T := F_12) (N := 73) (st := []) (ok_M_isWord hn (1667330676 : Int64) h) (fun s => Std.k s (lc hn rfl) kq_383) rfl w_1351 w_13 w_1348 w_1350 ws_51 hy_M_isWord ⟨Nat.le_of_ble_eq_true rfl, Nat.le_of_ble_eq_true rfl⟩ ⟨Nat.le_of_ble_eq_true rfl, Nat.le_of_ble_eq_true rfl⟩ rfl (Nat.le_of_ble_eq_true rfl) d_M_readLine_162 (fun rq1 hq2 => ?_)
  refine r_if_eq (pc := 165) (tgt := 197) d_M_readLine_165 (by rfl) ?_ ?_
  · exact r_wk (o_M_readLine_b197 hn hq2) ⟨rfl, trivial⟩
  · refine r_aload_n (pc := 168) (i := 0) d_M_readLine_168 rfl rfl ?_
    refine r_getf (pc := 169) (ci := 12) (k := 48) (C := "CricketHayModel") (T := F_12) (N := 73) (v := .int (hI hq2 383 48)) (fun s => Std.k s (lc hn rfl) kq_383) rfl (Nat.le_of_ble_eq_true rfl) rfl w_1134 (fun _ => rfl) d_M_readLine_169 ?_
    refine r_if_ne (pc := 172) (tgt := 197) d_M_readLine_172 (by rfl) ?_ ?_
    · exact r_wk (o_M_readLine_b197 hn hq2) ⟨rfl, trivial⟩
    · refine r_aload_n (pc := 175) (i := 0) d_M_readLine_175 rfl rfl ?_
      refine r_iconst (pc := 176) (v := 1) d_M_readLine_176 (by rfl) ?_
      refine r_putI (pc := 177) (ci := 12) (k := 48) (C := "CricketHayModel") (T := F_12) (N := 73) (fun s => Std.k s (lc hn rfl) kq_383) rfl (Nat.le_of_ble_eq_true rfl) rfl rfl w_1134 (fun _ _ => rfl) (fun _ => by decide) (fun _ => by decide) (fun s => Std.sI s _ _ _) d_M_readLine_177 ?_
      refine r_ltH (fun hq3 => ?_)
      refine r_aload_n (pc := 180) (i := 0) d_M_readLine_180 rfl rfl ?_
      refine r_aload_n (pc := 181) (i := 0) d_M_readLine_181 rfl rfl ?_
      refine r_ldc2 (pc := 182) w_1378 d_M_readLine_182 ?_
      refine r_iconst (pc := 185) (v := 1) d_M_readLine_185 (by rfl) ?_
      refine r_bipush (pc := 186) (v := 9) d_M_readLine_186 (by rfl) ?_
      refine r_cVi (pc := 188) (T := F_12) (N := 73) (st := [.ref 383]) (ok_M_told hn (1667330676 : Int64) (1 : Int32) (9 : Int32) hq3) (fun s => Std.k s (lc hn rfl) kq_383) rfl w_1405 w_13 w_1402 w_1404 ws_60 hy_M_told ⟨Nat.le_of_ble_eq_true rfl, Nat.le_of_ble_eq_true rfl⟩ ⟨Nat.le_of_ble_eq_true rfl, Nat.le_of_ble_eq_true rfl⟩ rfl (Nat.le_of_ble_eq_true rfl) d_M_readLine_188 (fun rq4 hq5 => ?_)
      refine r_putI (pc := 191) (ci := 12) (k := 40) (C := "CricketHayModel") (T := F_12) (N := 73) (fun s => Std.k s (lc hn rfl) kq_383) rfl (Nat.le_of_ble_eq_true rfl) rfl rfl w_1126 (fun _ _ => rfl) (fun _ => rfl) (fun _ => rfl) (fun s => Std.sI s _ _ _) d_M_readLine_191 ?_
      refine r_ltH (fun hq6 => ?_)
      refine r_goto (pc := 194) (tgt := 242) d_M_readLine_194 (by rfl) ?_
      exact r_wk (o_M_readLine_b242 hn hq6) ⟨rfl, trivial⟩
def f_M_readLine_b105     (h : AH) : Option AH :=
  bI (f_M_isWord (1936613744 : Int64) h) fun rq1 hq2 =>
  if rq1 = 0 then
    f_M_readLine_b158 hq2
  else
    if ¬ (hI hq2 383 47) = 0 then
      f_M_readLine_b158 hq2
    else
      lt (sI hq2 383 47 (1 : Int32)) fun hq3 =>
      bI (f_M_told (1936613744 : Int64) (0 : Int32) (100 : Int32) hq3) fun rq4 hq5 =>
      lt (sI hq5 383 38 rq4) fun hq6 =>
      bI (f_M_told (28518 : Int64) (1 : Int32) (20 : Int32) hq6) fun rq7 hq8 =>
      lt (sI hq8 383 39 rq7) fun hq9 =>
      f_M_readLine_b242 hq9
set_option maxHeartbeats 2000000 in
theorem o_M_readLine_b105 {G : AE} {n : Nat} (hn : NN ≤ n)     : ∀  (h : AH), AJ G n y_M_readLine (7) φV 105 [some (.ref 383)] [] h (f_M_readLine_b105 h) := by
  intro  h
  rw [f_M_readLine_b105]
  refine r_aload_n (pc := 105) (i := 0) d_M_readLine_105 rfl rfl ?_
  refine r_ldc2 (pc := 106) w_1377 d_M_readLine_106 ?_
  refine r_cVi (pc := 109) (T := F_12) (N := 73) (st := []) (ok_M_isWord hn (1936613744 : Int64) h) (fun s => Std.k s (lc hn rfl) kq_383) rfl w_1351 w_13 w_1348 w_1350 ws_51 hy_M_isWord ⟨Nat.le_of_ble_eq_true rfl, Nat.le_of_ble_eq_true rfl⟩ ⟨Nat.le_of_ble_eq_true rfl, Nat.le_of_ble_eq_true rfl⟩ rfl (Nat.le_of_ble_eq_true rfl) d_M_readLine_109 (fun rq1 hq2 => ?_)
  refine r_if_eq (pc := 112) (tgt := 158) d_M_readLine_112 (by rfl) ?_ ?_
  · exact r_wk (o_M_readLine_b158 hn hq2) ⟨rfl, trivial⟩
  · refine r_aload_n (pc := 115) (i := 0) d_M_readLine_115 rfl rfl ?_
    refine r_getf (pc := 116) (ci := 12) (k := 47) (C := "CricketHayModel") (T := F_12) (N := 73) (v := .int (hI hq2 383 47)) (fun s => Std.k s (lc hn rfl) kq_383) rfl (Nat.le_of_ble_eq_true rfl) rfl w_1133 (fun _ => rfl) d_M_readLine_116 ?_
    refine r_if_ne (pc := 119) (tgt := 158) d_M_readLine_119 (by rfl) ?_ ?_
    · exact r_wk (o_M_readLine_b158 hn hq2) ⟨rfl, trivial⟩
    · refine r_aload_n (pc := 122) (i := 0) d_M_readLine_122 rfl rfl ?_
      refine r_iconst (pc := 123) (v := 1) d_M_readLine_123 (by rfl) ?_
      refine r_putI (pc := 124) (ci := 12) (k := 47) (C := "CricketHayModel") (T := F_12) (N := 73) (fun s => Std.k s (lc hn rfl) kq_383) rfl (Nat.le_of_ble_eq_true rfl) rfl rfl w_1133 (fun _ _ => rfl) (fun _ => by decide) (fun _ => by decide) (fun s => Std.sI s _ _ _) d_M_readLine_124 ?_
      refine r_ltH (fun hq3 => ?_)
      refine r_aload_n (pc := 127) (i := 0) d_M_readLine_127 rfl rfl ?_
      refine r_aload_n (pc := 128) (i := 0) d_M_readLine_128 rfl rfl ?_
      refine r_ldc2 (pc := 129) w_1377 d_M_readLine_129 ?_
      refine r_iconst (pc := 132) (v := 0) d_M_readLine_132 (by rfl) ?_
      refine r_bipush (pc := 133) (v := 100) d_M_readLine_133 (by rfl) ?_
      refine r_cVi (pc := 135) (T := F_12) (N := 73) (st := [.ref 383]) (ok_M_told hn (1936613744 : Int64) (0 : Int32) (100 : Int32) hq3) (fun s => Std.k s (lc hn rfl) kq_383) rfl w_1405 w_13 w_1402 w_1404 ws_60 hy_M_told ⟨Nat.le_of_ble_eq_true rfl, Nat.le_of_ble_eq_true rfl⟩ ⟨Nat.le_of_ble_eq_true rfl, Nat.le_of_ble_eq_true rfl⟩ rfl (Nat.le_of_ble_eq_true rfl) d_M_readLine_135 (fun rq4 hq5 => ?_)
      refine r_putI (pc := 138) (ci := 12) (k := 38) (C := "CricketHayModel") (T := F_12) (N := 73) (fun s => Std.k s (lc hn rfl) kq_383) rfl (Nat.le_of_ble_eq_true rfl) rfl rfl w_1124 (fun _ _ => rfl) (fun _ => rfl) (fun _ => rfl) (fun s => Std.sI s _ _ _) d_M_readLine_138 ?_
      refine r_ltH (fun hq6 => ?_)
      refine r_aload_n (pc := 141) (i := 0) d_M_readLine_141 rfl rfl ?_
      refine r_aload_n (pc := 142) (i := 0) d_M_readLine_142 rfl rfl ?_
      refine r_ldc2 (pc := 143) w_1369 d_M_readLine_143 ?_
      refine r_iconst (pc := 146) (v := 1) d_M_readLine_146 (by rfl) ?_
      refine r_bipush (pc := 147) (v := 20) d_M_readLine_147 (by rfl) ?_
      refine r_cVi (pc := 149) (T := F_12) (N := 73) (st := [.ref 383]) (ok_M_told hn (28518 : Int64) (1 : Int32) (20 : Int32) hq6) (fun s => Std.k s (lc hn rfl) kq_383) rfl w_1405 w_13 w_1402 w_1404 ws_60 hy_M_told ⟨Nat.le_of_ble_eq_true rfl, Nat.le_of_ble_eq_true rfl⟩ ⟨Nat.le_of_ble_eq_true rfl, Nat.le_of_ble_eq_true rfl⟩ rfl (Nat.le_of_ble_eq_true rfl) d_M_readLine_149 (fun rq7 hq8 => ?_)
      refine r_putI (pc := 152) (ci := 12) (k := 39) (C := "CricketHayModel") (T := F_12) (N := 73) (fun s => Std.k s (lc hn rfl) kq_383) rfl (Nat.le_of_ble_eq_true rfl) rfl rfl w_1125 (fun _ _ => rfl) (fun _ => rfl) (fun _ => rfl) (fun s => Std.sI s _ _ _) d_M_readLine_152 ?_
      refine r_ltH (fun hq9 => ?_)
      refine r_goto (pc := 155) (tgt := 242) d_M_readLine_155 (by rfl) ?_
      exact r_wk (o_M_readLine_b242 hn hq9) ⟨rfl, trivial⟩
def f_M_readLine_b78     (h : AH) : Option AH :=
  bI (f_M_isWord (1751474548 : Int64) h) fun rq1 hq2 =>
  if rq1 = 0 then
    f_M_readLine_b105 hq2
  else
    if ¬ (hI hq2 394 1) = 0 then
      f_M_readLine_b105 hq2
    else
      bV (f_M_formula (1 : Int32) hq2) fun hq3 =>
      f_M_readLine_b242 hq3
set_option maxHeartbeats 2000000 in
theorem o_M_readLine_b78 {G : AE} {n : Nat} (hn : NN ≤ n)     : ∀  (h : AH), AJ G n y_M_readLine (7) φV 78 [some (.ref 383)] [] h (f_M_readLine_b78 h) := by
  intro  h
  rw [f_M_readLine_b78]
  refine r_aload_n (pc := 78) (i := 0) d_M_readLine_78 rfl rfl ?_
  refine r_ldc2 (pc := 79) w_1376 d_M_readLine_79 ?_
  refine r_cVi (pc := 82) (T := F_12) (N := 73) (st := []) (ok_M_isWord hn (1751474548 : Int64) h) (fun s => Std.k s (lc hn rfl) kq_383) rfl w_1351 w_13 w_1348 w_1350 ws_51 hy_M_isWord ⟨Nat.le_of_ble_eq_true rfl, Nat.le_of_ble_eq_true rfl⟩ ⟨Nat.le_of_ble_eq_true rfl, Nat.le_of_ble_eq_true rfl⟩ rfl (Nat.le_of_ble_eq_true rfl) d_M_readLine_82 (fun rq1 hq2 => ?_)
  refine r_if_eq (pc := 85) (tgt := 105) d_M_readLine_85 (by rfl) ?_ ?_
  · exact r_wk (o_M_readLine_b105 hn hq2) ⟨rfl, trivial⟩
  · refine r_aload_n (pc := 88) (i := 0) d_M_readLine_88 rfl rfl ?_
    refine r_getf (pc := 89) (ci := 12) (k := 19) (C := "CricketHayModel") (T := F_12) (N := 73) (v := .ref 394) (fun s => Std.k s (lc hn rfl) kq_383) rfl (Nat.le_of_ble_eq_true rfl) rfl w_1105 (fun s => vr rfl (Std.r s (lc hn rfl) rq_383_19)) d_M_readLine_89 ?_
    refine r_iconst (pc := 92) (v := 1) d_M_readLine_92 (by rfl) ?_
    refine r_zald (pc := 93) (n := 2) (i0 := 1) (fun s => Std.k s (lc hn rfl) kq_394) (vin (k := 1) rfl rfl) rfl d_M_readLine_93 ?_
    refine r_if_ne (pc := 94) (tgt := 105) d_M_readLine_94 (by rfl) ?_ ?_
    · exact r_wk (o_M_readLine_b105 hn hq2) ⟨rfl, trivial⟩
    · refine r_aload_n (pc := 97) (i := 0) d_M_readLine_97 rfl rfl ?_
      refine r_iconst (pc := 98) (v := 1) d_M_readLine_98 (by rfl) ?_
      refine r_cVv (pc := 99) (T := F_12) (N := 73) (st := []) (ok_M_formula hn (1 : Int32) hq2) (fun s => Std.k s (lc hn rfl) kq_383) rfl w_1417 w_13 w_1414 w_1416 ws_63 hy_M_formula ⟨Nat.le_of_ble_eq_true rfl, Nat.le_of_ble_eq_true rfl⟩ ⟨Nat.le_of_ble_eq_true rfl, Nat.le_of_ble_eq_true rfl⟩ rfl (Nat.le_of_ble_eq_true rfl) d_M_readLine_99 (fun hq3 => ?_)
      refine r_goto (pc := 102) (tgt := 242) d_M_readLine_102 (by rfl) ?_
      exact r_wk (o_M_readLine_b242 hn hq3) ⟨rfl, trivial⟩
def f_M_readLine_b51     (h : AH) : Option AH :=
  bI (f_M_isWord (109300096856179 : Int64) h) fun rq1 hq2 =>
  if rq1 = 0 then
    f_M_readLine_b78 hq2
  else
    if ¬ (hI hq2 394 0) = 0 then
      f_M_readLine_b78 hq2
    else
      bV (f_M_formula (0 : Int32) hq2) fun hq3 =>
      f_M_readLine_b242 hq3
set_option maxHeartbeats 2000000 in
theorem o_M_readLine_b51 {G : AE} {n : Nat} (hn : NN ≤ n)     : ∀  (h : AH), AJ G n y_M_readLine (7) φV 51 [some (.ref 383)] [] h (f_M_readLine_b51 h) := by
  intro  h
  rw [f_M_readLine_b51]
  refine r_aload_n (pc := 51) (i := 0) d_M_readLine_51 rfl rfl ?_
  refine r_ldc2 (pc := 52) w_1375 d_M_readLine_52 ?_
  refine r_cVi (pc := 55) (T := F_12) (N := 73) (st := []) (ok_M_isWord hn (109300096856179 : Int64) h) (fun s => Std.k s (lc hn rfl) kq_383) rfl w_1351 w_13 w_1348 w_1350 ws_51 hy_M_isWord ⟨Nat.le_of_ble_eq_true rfl, Nat.le_of_ble_eq_true rfl⟩ ⟨Nat.le_of_ble_eq_true rfl, Nat.le_of_ble_eq_true rfl⟩ rfl (Nat.le_of_ble_eq_true rfl) d_M_readLine_55 (fun rq1 hq2 => ?_)
  refine r_if_eq (pc := 58) (tgt := 78) d_M_readLine_58 (by rfl) ?_ ?_
  · exact r_wk (o_M_readLine_b78 hn hq2) ⟨rfl, trivial⟩
  · refine r_aload_n (pc := 61) (i := 0) d_M_readLine_61 rfl rfl ?_
    refine r_getf (pc := 62) (ci := 12) (k := 19) (C := "CricketHayModel") (T := F_12) (N := 73) (v := .ref 394) (fun s => Std.k s (lc hn rfl) kq_383) rfl (Nat.le_of_ble_eq_true rfl) rfl w_1105 (fun s => vr rfl (Std.r s (lc hn rfl) rq_383_19)) d_M_readLine_62 ?_
    refine r_iconst (pc := 65) (v := 0) d_M_readLine_65 (by rfl) ?_
    refine r_zald (pc := 66) (n := 2) (i0 := 0) (fun s => Std.k s (lc hn rfl) kq_394) (vin (k := 0) rfl rfl) rfl d_M_readLine_66 ?_
    refine r_if_ne (pc := 67) (tgt := 78) d_M_readLine_67 (by rfl) ?_ ?_
    · exact r_wk (o_M_readLine_b78 hn hq2) ⟨rfl, trivial⟩
    · refine r_aload_n (pc := 70) (i := 0) d_M_readLine_70 rfl rfl ?_
      refine r_iconst (pc := 71) (v := 0) d_M_readLine_71 (by rfl) ?_
      refine r_cVv (pc := 72) (T := F_12) (N := 73) (st := []) (ok_M_formula hn (0 : Int32) hq2) (fun s => Std.k s (lc hn rfl) kq_383) rfl w_1417 w_13 w_1414 w_1416 ws_63 hy_M_formula ⟨Nat.le_of_ble_eq_true rfl, Nat.le_of_ble_eq_true rfl⟩ ⟨Nat.le_of_ble_eq_true rfl, Nat.le_of_ble_eq_true rfl⟩ rfl (Nat.le_of_ble_eq_true rfl) d_M_readLine_72 (fun hq3 => ?_)
      refine r_goto (pc := 75) (tgt := 242) d_M_readLine_75 (by rfl) ?_
      exact r_wk (o_M_readLine_b242 hn hq3) ⟨rfl, trivial⟩
def f_M_readLine_b25     (h : AH) : Option AH :=
  bI (f_M_isWord (110386588968306 : Int64) h) fun rq1 hq2 =>
  if rq1 = 0 then
    f_M_readLine_b51 hq2
  else
    if (6 : Int32) ≤ (hI hq2 383 37) then
      f_M_readLine_b51 hq2
    else
      bV (f_M_readDealer hq2) fun hq3 =>
      f_M_readLine_b242 hq3
set_option maxHeartbeats 2000000 in
theorem o_M_readLine_b25 {G : AE} {n : Nat} (hn : NN ≤ n)     : ∀  (h : AH), AJ G n y_M_readLine (7) φV 25 [some (.ref 383)] [] h (f_M_readLine_b25 h) := by
  intro  h
  rw [f_M_readLine_b25]
  refine r_aload_n (pc := 25) (i := 0) d_M_readLine_25 rfl rfl ?_
  refine r_ldc2 (pc := 26) w_1368 d_M_readLine_26 ?_
  refine r_cVi (pc := 29) (T := F_12) (N := 73) (st := []) (ok_M_isWord hn (110386588968306 : Int64) h) (fun s => Std.k s (lc hn rfl) kq_383) rfl w_1351 w_13 w_1348 w_1350 ws_51 hy_M_isWord ⟨Nat.le_of_ble_eq_true rfl, Nat.le_of_ble_eq_true rfl⟩ ⟨Nat.le_of_ble_eq_true rfl, Nat.le_of_ble_eq_true rfl⟩ rfl (Nat.le_of_ble_eq_true rfl) d_M_readLine_29 (fun rq1 hq2 => ?_)
  refine r_if_eq (pc := 32) (tgt := 51) d_M_readLine_32 (by rfl) ?_ ?_
  · exact r_wk (o_M_readLine_b51 hn hq2) ⟨rfl, trivial⟩
  · refine r_aload_n (pc := 35) (i := 0) d_M_readLine_35 rfl rfl ?_
    refine r_getf (pc := 36) (ci := 12) (k := 37) (C := "CricketHayModel") (T := F_12) (N := 73) (v := .int (hI hq2 383 37)) (fun s => Std.k s (lc hn rfl) kq_383) rfl (Nat.le_of_ble_eq_true rfl) rfl w_1123 (fun _ => rfl) d_M_readLine_36 ?_
    refine r_bipush (pc := 39) (v := 6) d_M_readLine_39 (by rfl) ?_
    refine r_icmp_ge (pc := 41) (tgt := 51) d_M_readLine_41 (by rfl) ?_ ?_
    · exact r_wk (o_M_readLine_b51 hn hq2) ⟨rfl, trivial⟩
    · refine r_aload_n (pc := 44) (i := 0) d_M_readLine_44 rfl rfl ?_
      refine r_cVv (pc := 45) (T := F_12) (N := 73) (st := []) (ok_M_readDealer hn hq2) (fun s => Std.k s (lc hn rfl) kq_383) rfl w_1397 w_13 w_1394 w_1396 ws_58 hy_M_readDealer ⟨Nat.le_of_ble_eq_true rfl, Nat.le_of_ble_eq_true rfl⟩ ⟨Nat.le_of_ble_eq_true rfl, Nat.le_of_ble_eq_true rfl⟩ rfl (Nat.le_of_ble_eq_true rfl) d_M_readLine_45 (fun hq3 => ?_)
      refine r_goto (pc := 48) (tgt := 242) d_M_readLine_48 (by rfl) ?_
      exact r_wk (o_M_readLine_b242 hn hq3) ⟨rfl, trivial⟩
def f_M_readLine   (h : AH) : Option AH :=
  bI (f_M_isWord (1802071652 : Int64) h) fun rq1 hq2 =>
  if rq1 = 0 then
    f_M_readLine_b25 hq2
  else
    if (3 : Int32) ≤ (hI hq2 383 36) then
      f_M_readLine_b25 hq2
    else
      bV (f_M_readKind hq2) fun hq3 =>
      f_M_readLine_b242 hq3
set_option maxHeartbeats 2000000 in
theorem ok_M_readLine {G : AE} {n : Nat} (hn : NN ≤ n)   (h : AH) : OK G n y_M_readLine (7) φV [.ref 383] h (f_M_readLine h) := by
  refine ok_of (y := y_M_readLine) (lv0 := [some (.ref 383)]) (by decide +kernel) (Nat.le_of_ble_eq_true rfl) ⟨rfl, trivial⟩ ?_
  rw [f_M_readLine]
  refine r_aload_n (pc := 0) (i := 0) d_M_readLine_0 rfl rfl ?_
  refine r_ldc2 (pc := 1) w_1347 d_M_readLine_1 ?_
  refine r_cVi (pc := 4) (T := F_12) (N := 73) (st := []) (ok_M_isWord hn (1802071652 : Int64) h) (fun s => Std.k s (lc hn rfl) kq_383) rfl w_1351 w_13 w_1348 w_1350 ws_51 hy_M_isWord ⟨Nat.le_of_ble_eq_true rfl, Nat.le_of_ble_eq_true rfl⟩ ⟨Nat.le_of_ble_eq_true rfl, Nat.le_of_ble_eq_true rfl⟩ rfl (Nat.le_of_ble_eq_true rfl) d_M_readLine_4 (fun rq1 hq2 => ?_)
  refine r_if_eq (pc := 7) (tgt := 25) d_M_readLine_7 (by rfl) ?_ ?_
  · exact r_wk (o_M_readLine_b25 hn hq2) ⟨rfl, trivial⟩
  · refine r_aload_n (pc := 10) (i := 0) d_M_readLine_10 rfl rfl ?_
    refine r_getf (pc := 11) (ci := 12) (k := 36) (C := "CricketHayModel") (T := F_12) (N := 73) (v := .int (hI hq2 383 36)) (fun s => Std.k s (lc hn rfl) kq_383) rfl (Nat.le_of_ble_eq_true rfl) rfl w_1122 (fun _ => rfl) d_M_readLine_11 ?_
    refine r_iconst (pc := 14) (v := 3) d_M_readLine_14 (by rfl) ?_
    refine r_icmp_ge (pc := 15) (tgt := 25) d_M_readLine_15 (by rfl) ?_ ?_
    · exact r_wk (o_M_readLine_b25 hn hq2) ⟨rfl, trivial⟩
    · refine r_aload_n (pc := 18) (i := 0) d_M_readLine_18 rfl rfl ?_
      refine r_cVv (pc := 19) (T := F_12) (N := 73) (st := []) (ok_M_readKind hn hq2) (fun s => Std.k s (lc hn rfl) kq_383) rfl w_1355 w_13 w_1352 w_1354 ws_52 hy_M_readKind ⟨Nat.le_of_ble_eq_true rfl, Nat.le_of_ble_eq_true rfl⟩ ⟨Nat.le_of_ble_eq_true rfl, Nat.le_of_ble_eq_true rfl⟩ rfl (Nat.le_of_ble_eq_true rfl) d_M_readLine_19 (fun hq3 => ?_)
      refine r_goto (pc := 22) (tgt := 242) d_M_readLine_22 (by rfl) ?_
      exact r_wk (o_M_readLine_b242 hn hq3) ⟨rfl, trivial⟩

def f_M_readAll_l96    : Nat → AH → Option AH
  | 0, _ => none
  | n + 1, h =>
    if ¬ (hI h 383 2) = 0 then
      some h
    else
      if (hI h 383 6) = 0 then
        some h
      else
        bV (f_M_readLine h) fun hq1 =>
        f_M_readAll_l96 n hq1
set_option maxHeartbeats 2000000 in
theorem o_M_readAll_l96 {G : AE} {n : Nat} (hn : NN ≤ n)     : ∀ (n0 : Nat)  (h : AH), AJ G n y_M_readAll (8) φV 96 [some (.ref 383)] [] h (f_M_readAll_l96 n0 h) := by
  intro n0
  induction n0 with
  | zero => intros; exact r_none
  | succ n0 ih =>
    intro  h
    rw [f_M_readAll_l96]
    refine r_aload_n (pc := 96) (i := 0) d_M_readAll_96 rfl rfl ?_
    refine r_getf (pc := 97) (ci := 12) (k := 2) (C := "CricketHayModel") (T := F_12) (N := 73) (v := .int (hI h 383 2)) (fun s => Std.k s (lc hn rfl) kq_383) rfl (Nat.le_of_ble_eq_true rfl) rfl w_1088 (fun _ => rfl) d_M_readAll_97 ?_
    refine r_if_ne (pc := 100) (tgt := 117) d_M_readAll_100 (by rfl) ?_ ?_
    · exact r_vret (pc := 117) rfl d_M_readAll_117
    · refine r_aload_n (pc := 103) (i := 0) d_M_readAll_103 rfl rfl ?_
      refine r_getf (pc := 104) (ci := 12) (k := 6) (C := "CricketHayModel") (T := F_12) (N := 73) (v := .int (hI h 383 6)) (fun s => Std.k s (lc hn rfl) kq_383) rfl (Nat.le_of_ble_eq_true rfl) rfl w_1092 (fun _ => rfl) d_M_readAll_104 ?_
      refine r_if_eq (pc := 107) (tgt := 117) d_M_readAll_107 (by rfl) ?_ ?_
      · exact r_vret (pc := 117) rfl d_M_readAll_117
      · refine r_aload_n (pc := 110) (i := 0) d_M_readAll_110 rfl rfl ?_
        refine r_cVv (pc := 111) (T := F_12) (N := 73) (st := []) (ok_M_readLine hn h) (fun s => Std.k s (lc hn rfl) kq_383) rfl w_1346 w_13 w_1343 w_1345 ws_50 hy_M_readLine ⟨Nat.le_of_ble_eq_true rfl, Nat.le_of_ble_eq_true rfl⟩ ⟨Nat.le_of_ble_eq_true rfl, Nat.le_of_ble_eq_true rfl⟩ rfl (Nat.le_of_ble_eq_true rfl) d_M_readAll_111 (fun hq1 => ?_)
        refine r_goto (pc := 114) (tgt := 96) d_M_readAll_114 (by rfl) ?_
        exact r_wk (ih hq1) ⟨rfl, trivial⟩
def f_M_readAll   (h : AH) : Option AH :=
  lt (sI h 383 5 (hI h 383 1)) fun hq1 =>
  lt (sI hq1 383 1 (0 : Int32)) fun hq2 =>
  lt (sI hq2 383 4 (0 : Int32)) fun hq3 =>
  lt (sI hq3 383 2 (0 : Int32)) fun hq4 =>
  lt (sI hq4 383 3 (-1 : Int32)) fun hq5 =>
  lt (sI hq5 383 36 (0 : Int32)) fun hq6 =>
  lt (sI hq6 383 37 (0 : Int32)) fun hq7 =>
  lt (sI hq7 383 38 (0 : Int32)) fun hq8 =>
  lt (sI hq8 383 39 (1 : Int32)) fun hq9 =>
  lt (sI hq9 383 40 (3 : Int32)) fun hq10 =>
  lt (sI hq10 383 41 (0 : Int32)) fun hq11 =>
  lt (sI hq11 383 47 (0 : Int32)) fun hq12 =>
  lt (sI hq12 383 48 (0 : Int32)) fun hq13 =>
  lt (sI hq13 383 49 (0 : Int32)) fun hq14 =>
  lt (sI hq14 394 0 (vp_nar .boolean (0 : Int32))) fun hq15 =>
  lt (sI hq15 394 1 (vp_nar .boolean (0 : Int32))) fun hq16 =>
  lt (sI hq16 383 22 (0 : Int32)) fun hq17 =>
  bV (f_M_token hq17) fun hq18 =>
  f_M_readAll_l96 FU hq18
set_option maxHeartbeats 2000000 in
theorem ok_M_readAll {G : AE} {n : Nat} (hn : NN ≤ n)   (h : AH) : OK G n y_M_readAll (8) φV [.ref 383] h (f_M_readAll h) := by
  refine ok_of (y := y_M_readAll) (lv0 := [some (.ref 383)]) (by decide +kernel) (Nat.le_of_ble_eq_true rfl) ⟨rfl, trivial⟩ ?_
  rw [f_M_readAll]
  refine r_aload_n (pc := 0) (i := 0) d_M_readAll_0 rfl rfl ?_
  refine r_aload_n (pc := 1) (i := 0) d_M_readAll_1 rfl rfl ?_
  refine r_getf (pc := 2) (ci := 12) (k := 1) (C := "CricketHayModel") (T := F_12) (N := 73) (v := .int (hI h 383 1)) (fun s => Std.k s (lc hn rfl) kq_383) rfl (Nat.le_of_ble_eq_true rfl) rfl w_1087 (fun _ => rfl) d_M_readAll_2 ?_
  refine r_putI (pc := 5) (ci := 12) (k := 5) (C := "CricketHayModel") (T := F_12) (N := 73) (fun s => Std.k s (lc hn rfl) kq_383) rfl (Nat.le_of_ble_eq_true rfl) rfl rfl w_1091 (fun _ _ => rfl) (fun _ => rfl) (fun _ => rfl) (fun s => Std.sI s _ _ _) d_M_readAll_5 ?_
  refine r_ltH (fun hq1 => ?_)
  refine r_aload_n (pc := 8) (i := 0) d_M_readAll_8 rfl rfl ?_
  refine r_iconst (pc := 9) (v := 0) d_M_readAll_9 (by rfl) ?_
  refine r_putI (pc := 10) (ci := 12) (k := 1) (C := "CricketHayModel") (T := F_12) (N := 73) (fun s => Std.k s (lc hn rfl) kq_383) rfl (Nat.le_of_ble_eq_true rfl) rfl rfl w_1087 (fun _ _ => rfl) (fun _ => rfl) (fun _ => rfl) (fun s => Std.sI s _ _ _) d_M_readAll_10 ?_
  refine r_ltH (fun hq2 => ?_)
  refine r_aload_n (pc := 13) (i := 0) d_M_readAll_13 rfl rfl ?_
  refine r_iconst (pc := 14) (v := 0) d_M_readAll_14 (by rfl) ?_
  refine r_putI (pc := 15) (ci := 12) (k := 4) (C := "CricketHayModel") (T := F_12) (N := 73) (fun s => Std.k s (lc hn rfl) kq_383) rfl (Nat.le_of_ble_eq_true rfl) rfl rfl w_1090 (fun _ _ => rfl) (fun _ => rfl) (fun _ => rfl) (fun s => Std.sI s _ _ _) d_M_readAll_15 ?_
  refine r_ltH (fun hq3 => ?_)
  refine r_aload_n (pc := 18) (i := 0) d_M_readAll_18 rfl rfl ?_
  refine r_iconst (pc := 19) (v := 0) d_M_readAll_19 (by rfl) ?_
  refine r_putI (pc := 20) (ci := 12) (k := 2) (C := "CricketHayModel") (T := F_12) (N := 73) (fun s => Std.k s (lc hn rfl) kq_383) rfl (Nat.le_of_ble_eq_true rfl) rfl rfl w_1088 (fun _ _ => rfl) (fun _ => rfl) (fun _ => rfl) (fun s => Std.sI s _ _ _) d_M_readAll_20 ?_
  refine r_ltH (fun hq4 => ?_)
  refine r_aload_n (pc := 23) (i := 0) d_M_readAll_23 rfl rfl ?_
  refine r_iconst (pc := 24) (v := -1) d_M_readAll_24 (by rfl) ?_
  refine r_putI (pc := 25) (ci := 12) (k := 3) (C := "CricketHayModel") (T := F_12) (N := 73) (fun s => Std.k s (lc hn rfl) kq_383) rfl (Nat.le_of_ble_eq_true rfl) rfl rfl w_1089 (fun _ _ => rfl) (fun _ => rfl) (fun _ => rfl) (fun s => Std.sI s _ _ _) d_M_readAll_25 ?_
  refine r_ltH (fun hq5 => ?_)
  refine r_aload_n (pc := 28) (i := 0) d_M_readAll_28 rfl rfl ?_
  refine r_iconst (pc := 29) (v := 0) d_M_readAll_29 (by rfl) ?_
  refine r_putI (pc := 30) (ci := 12) (k := 36) (C := "CricketHayModel") (T := F_12) (N := 73) (fun s => Std.k s (lc hn rfl) kq_383) rfl (Nat.le_of_ble_eq_true rfl) rfl rfl w_1122 (fun _ _ => rfl) (fun _ => rfl) (fun _ => rfl) (fun s => Std.sI s _ _ _) d_M_readAll_30 ?_
  refine r_ltH (fun hq6 => ?_)
  refine r_aload_n (pc := 33) (i := 0) d_M_readAll_33 rfl rfl ?_
  refine r_iconst (pc := 34) (v := 0) d_M_readAll_34 (by rfl) ?_
  refine r_putI (pc := 35) (ci := 12) (k := 37) (C := "CricketHayModel") (T := F_12) (N := 73) (fun s => Std.k s (lc hn rfl) kq_383) rfl (Nat.le_of_ble_eq_true rfl) rfl rfl w_1123 (fun _ _ => rfl) (fun _ => rfl) (fun _ => rfl) (fun s => Std.sI s _ _ _) d_M_readAll_35 ?_
  refine r_ltH (fun hq7 => ?_)
  refine r_aload_n (pc := 38) (i := 0) d_M_readAll_38 rfl rfl ?_
  refine r_iconst (pc := 39) (v := 0) d_M_readAll_39 (by rfl) ?_
  refine r_putI (pc := 40) (ci := 12) (k := 38) (C := "CricketHayModel") (T := F_12) (N := 73) (fun s => Std.k s (lc hn rfl) kq_383) rfl (Nat.le_of_ble_eq_true rfl) rfl rfl w_1124 (fun _ _ => rfl) (fun _ => rfl) (fun _ => rfl) (fun s => Std.sI s _ _ _) d_M_readAll_40 ?_
  refine r_ltH (fun hq8 => ?_)
  refine r_aload_n (pc := 43) (i := 0) d_M_readAll_43 rfl rfl ?_
  refine r_iconst (pc := 44) (v := 1) d_M_readAll_44 (by rfl) ?_
  refine r_putI (pc := 45) (ci := 12) (k := 39) (C := "CricketHayModel") (T := F_12) (N := 73) (fun s => Std.k s (lc hn rfl) kq_383) rfl (Nat.le_of_ble_eq_true rfl) rfl rfl w_1125 (fun _ _ => rfl) (fun _ => rfl) (fun _ => rfl) (fun s => Std.sI s _ _ _) d_M_readAll_45 ?_
  refine r_ltH (fun hq9 => ?_)
  refine r_aload_n (pc := 48) (i := 0) d_M_readAll_48 rfl rfl ?_
  refine r_iconst (pc := 49) (v := 3) d_M_readAll_49 (by rfl) ?_
  refine r_putI (pc := 50) (ci := 12) (k := 40) (C := "CricketHayModel") (T := F_12) (N := 73) (fun s => Std.k s (lc hn rfl) kq_383) rfl (Nat.le_of_ble_eq_true rfl) rfl rfl w_1126 (fun _ _ => rfl) (fun _ => rfl) (fun _ => rfl) (fun s => Std.sI s _ _ _) d_M_readAll_50 ?_
  refine r_ltH (fun hq10 => ?_)
  refine r_aload_n (pc := 53) (i := 0) d_M_readAll_53 rfl rfl ?_
  refine r_iconst (pc := 54) (v := 0) d_M_readAll_54 (by rfl) ?_
  refine r_putI (pc := 55) (ci := 12) (k := 41) (C := "CricketHayModel") (T := F_12) (N := 73) (fun s => Std.k s (lc hn rfl) kq_383) rfl (Nat.le_of_ble_eq_true rfl) rfl rfl w_1127 (fun _ _ => rfl) (fun _ => rfl) (fun _ => rfl) (fun s => Std.sI s _ _ _) d_M_readAll_55 ?_
  refine r_ltH (fun hq11 => ?_)
  refine r_aload_n (pc := 58) (i := 0) d_M_readAll_58 rfl rfl ?_
  refine r_iconst (pc := 59) (v := 0) d_M_readAll_59 (by rfl) ?_
  refine r_putI (pc := 60) (ci := 12) (k := 47) (C := "CricketHayModel") (T := F_12) (N := 73) (fun s => Std.k s (lc hn rfl) kq_383) rfl (Nat.le_of_ble_eq_true rfl) rfl rfl w_1133 (fun _ _ => rfl) (fun _ => by decide) (fun _ => by decide) (fun s => Std.sI s _ _ _) d_M_readAll_60 ?_
  refine r_ltH (fun hq12 => ?_)
  refine r_aload_n (pc := 63) (i := 0) d_M_readAll_63 rfl rfl ?_
  refine r_iconst (pc := 64) (v := 0) d_M_readAll_64 (by rfl) ?_
  refine r_putI (pc := 65) (ci := 12) (k := 48) (C := "CricketHayModel") (T := F_12) (N := 73) (fun s => Std.k s (lc hn rfl) kq_383) rfl (Nat.le_of_ble_eq_true rfl) rfl rfl w_1134 (fun _ _ => rfl) (fun _ => by decide) (fun _ => by decide) (fun s => Std.sI s _ _ _) d_M_readAll_65 ?_
  refine r_ltH (fun hq13 => ?_)
  refine r_aload_n (pc := 68) (i := 0) d_M_readAll_68 rfl rfl ?_
  refine r_iconst (pc := 69) (v := 0) d_M_readAll_69 (by rfl) ?_
  refine r_putI (pc := 70) (ci := 12) (k := 49) (C := "CricketHayModel") (T := F_12) (N := 73) (fun s => Std.k s (lc hn rfl) kq_383) rfl (Nat.le_of_ble_eq_true rfl) rfl rfl w_1135 (fun _ _ => rfl) (fun _ => by decide) (fun _ => by decide) (fun s => Std.sI s _ _ _) d_M_readAll_70 ?_
  refine r_ltH (fun hq14 => ?_)
  refine r_aload_n (pc := 73) (i := 0) d_M_readAll_73 rfl rfl ?_
  refine r_getf (pc := 74) (ci := 12) (k := 19) (C := "CricketHayModel") (T := F_12) (N := 73) (v := .ref 394) (fun s => Std.k s (lc hn rfl) kq_383) rfl (Nat.le_of_ble_eq_true rfl) rfl w_1105 (fun s => vr rfl (Std.r s (lc hn rfl) rq_383_19)) d_M_readAll_74 ?_
  refine r_iconst (pc := 77) (v := 0) d_M_readAll_77 (by rfl) ?_
  refine r_iconst (pc := 78) (v := 0) d_M_readAll_78 (by rfl) ?_
  refine r_zast (pc := 79) (n := 2) (i0 := 0) (fun s => Std.k s (lc hn rfl) kq_394) (vin (k := 0) rfl rfl) rfl (fun s => Std.sI s _ _ _) d_M_readAll_79 ?_
  refine r_ltH (fun hq15 => ?_)
  refine r_aload_n (pc := 80) (i := 0) d_M_readAll_80 rfl rfl ?_
  refine r_getf (pc := 81) (ci := 12) (k := 19) (C := "CricketHayModel") (T := F_12) (N := 73) (v := .ref 394) (fun s => Std.k s (lc hn rfl) kq_383) rfl (Nat.le_of_ble_eq_true rfl) rfl w_1105 (fun s => vr rfl (Std.r s (lc hn rfl) rq_383_19)) d_M_readAll_81 ?_
  refine r_iconst (pc := 84) (v := 1) d_M_readAll_84 (by rfl) ?_
  refine r_iconst (pc := 85) (v := 0) d_M_readAll_85 (by rfl) ?_
  refine r_zast (pc := 86) (n := 2) (i0 := 1) (fun s => Std.k s (lc hn rfl) kq_394) (vin (k := 1) rfl rfl) rfl (fun s => Std.sI s _ _ _) d_M_readAll_86 ?_
  refine r_ltH (fun hq16 => ?_)
  refine r_aload_n (pc := 87) (i := 0) d_M_readAll_87 rfl rfl ?_
  refine r_iconst (pc := 88) (v := 0) d_M_readAll_88 (by rfl) ?_
  refine r_putI (pc := 89) (ci := 12) (k := 22) (C := "CricketHayModel") (T := F_12) (N := 73) (fun s => Std.k s (lc hn rfl) kq_383) rfl (Nat.le_of_ble_eq_true rfl) rfl rfl w_1108 (fun _ _ => rfl) (fun _ => rfl) (fun _ => rfl) (fun s => Std.sI s _ _ _) d_M_readAll_89 ?_
  refine r_ltH (fun hq17 => ?_)
  refine r_aload_n (pc := 92) (i := 0) d_M_readAll_92 rfl rfl ?_
  refine r_cVv (pc := 93) (T := F_12) (N := 73) (st := []) (ok_M_token hn hq17) (fun s => Std.k s (lc hn rfl) kq_383) rfl w_1329 w_13 w_1326 w_1328 ws_48 hy_M_token ⟨Nat.le_of_ble_eq_true rfl, Nat.le_of_ble_eq_true rfl⟩ ⟨Nat.le_of_ble_eq_true rfl, Nat.le_of_ble_eq_true rfl⟩ rfl (Nat.le_of_ble_eq_true rfl) d_M_readAll_93 (fun hq18 => ?_)
  exact r_wk (o_M_readAll_l96 hn FU hq18) ⟨rfl, trivial⟩

def f_M_market_l308    : Nat → Int32 → AH → Option (Int32 × AH)
  | 0, _, _ => none
  | n + 1, x1, h =>
    if (3 : Int32) ≤ x1 then
      some ((hI h 383 43), h)
    else
      gx x1 3 <|
      lt (sI h 419 (ix x1) (vp_nar .boolean (0 : Int32))) fun hq2 =>
      lt (x1 + (1 : Int32)) fun xq3 =>
      f_M_market_l308 n xq3 hq2
set_option maxHeartbeats 2000000 in
theorem o_M_market_l308 {G : AE} {n : Nat} (hn : NN ≤ n)     : ∀ (n0 : Nat) (x1 : Int32) (h : AH), AJ G n y_M_market (9) φI 308 [some (.ref 383), some (.int x1), none] [] h (f_M_market_l308 n0 x1 h) := by
  intro n0
  induction n0 with
  | zero => intros; exact r_none
  | succ n0 ih =>
    intro x1 h
    rw [f_M_market_l308]
    refine r_iload_n (pc := 308) (i := 1) d_M_market_308 rfl rfl ?_
    refine r_iconst (pc := 309) (v := 3) d_M_market_309 (by rfl) ?_
    refine r_icmp_ge (pc := 310) (tgt := 326) d_M_market_310 (by rfl) ?_ ?_
    · refine r_aload_n (pc := 326) (i := 0) d_M_market_326 rfl rfl ?_
      refine r_getf (pc := 327) (ci := 12) (k := 43) (C := "CricketHayModel") (T := F_12) (N := 73) (v := .int (hI h 383 43)) (fun s => Std.k s (lc hn rfl) kq_383) rfl (Nat.le_of_ble_eq_true rfl) rfl w_1129 (fun _ => rfl) d_M_market_327 ?_
      exact r_iret (pc := 330) rfl d_M_market_330
    · refine r_aload_n (pc := 313) (i := 0) d_M_market_313 rfl rfl ?_
      refine r_getf (pc := 314) (ci := 12) (k := 71) (C := "CricketHayModel") (T := F_12) (N := 73) (v := .ref 419) (fun s => Std.k s (lc hn rfl) kq_383) rfl (Nat.le_of_ble_eq_true rfl) rfl w_1157 (fun s => vr rfl (Std.r s (lc hn rfl) rq_383_71)) d_M_market_314 ?_
      refine r_iload_n (pc := 317) (i := 1) d_M_market_317 rfl rfl ?_
      refine r_iconst (pc := 318) (v := 0) d_M_market_318 (by rfl) ?_
      refine r_gx (fun zq1 => ?_)
      refine r_zast (pc := 319) (n := 3) (i0 := (ix x1)) (fun s => Std.k s (lc hn rfl) kq_419) zq1 rfl (fun s => Std.sI s _ _ _) d_M_market_319 ?_
      refine r_ltH (fun hq2 => ?_)
      refine r_ltE (fun xq3 exq3 => ?_)
      refine r_iinc (pc := 320) (v := xq3) (lv1 := [some (.ref 383), some (.int xq3), none]) d_M_market_320 rfl exq3.symm (Nat.le_of_ble_eq_true rfl) rfl ?_
      refine r_goto (pc := 323) (tgt := 308) d_M_market_323 (by rfl) ?_
      exact r_wk (ih xq3 hq2) ⟨rfl, ⟨rfl, trivial⟩⟩
def f_M_market_l174    : Nat → Int32 → AH → Option (Int32 × AH)
  | 0, _, _ => none
  | n + 1, x1, h =>
    if (6 : Int32) ≤ x1 then
      lt (sI h 405 34 (hI h 383 41)) fun hq1 =>
      lt (sI hq1 383 53 (0 : Int32)) fun hq2 =>
      lt (sI hq2 383 54 (0 : Int32)) fun hq3 =>
      lt (sI hq3 383 68 (0 : Int32)) fun hq4 =>
      lt (sI hq4 383 57 (0 : Int32)) fun hq5 =>
      f_M_market_l308 FU (0 : Int32) hq5
    else
      gx x1 6 <|
      gx x1 6 <|
      lt (sI h 402 (ix x1) (hI h 396 (ix x1))) fun hq8 =>
      gx x1 6 <|
      gx x1 6 <|
      lt (sI hq8 403 (ix x1) (hI hq8 397 (ix x1))) fun hq11 =>
      gx x1 6 <|
      gx x1 6 <|
      lt (sI hq11 404 (ix x1) (hI hq11 401 (ix x1))) fun hq14 =>
      if x1 < (hI hq14 383 43) then
        gx x1 6 <|
        gx x1 35 <|
        lt (sI hq14 405 (ix x1) (hI hq14 399 (ix x1))) fun hq17 =>
        gx x1 6 <|
        gx ((6 : Int32) + x1) 35 <|
        lt (sI hq17 405 (ix ((6 : Int32) + x1)) (hI hq17 400 (ix x1))) fun hq20 =>
        gx x1 6 <|
        gx ((18 : Int32) + x1) 35 <|
        lt (sI hq20 405 (ix ((18 : Int32) + x1)) (hI hq20 398 (ix x1))) fun hq23 =>
        lt (x1 + (1 : Int32)) fun xq24 =>
        f_M_market_l174 n xq24 hq23
      else
        lt (x1 + (1 : Int32)) fun xq25 =>
        f_M_market_l174 n xq25 hq14
set_option maxHeartbeats 2000000 in
theorem o_M_market_l174 {G : AE} {n : Nat} (hn : NN ≤ n)     : ∀ (n0 : Nat) (x1 : Int32) (h : AH), AJ G n y_M_market (9) φI 174 [some (.ref 383), some (.int x1), none] [] h (f_M_market_l174 n0 x1 h) := by
  intro n0
  induction n0 with
  | zero => intros; exact r_none
  | succ n0 ih =>
    intro x1 h
    rw [f_M_market_l174]
    refine r_iload_n (pc := 174) (i := 1) d_M_market_174 rfl rfl ?_
    refine r_bipush (pc := 175) (v := 6) d_M_market_175 (by rfl) ?_
    refine r_icmp_ge (pc := 177) (tgt := 275) d_M_market_177 (by rfl) ?_ ?_
    · refine r_aload_n (pc := 275) (i := 0) d_M_market_275 rfl rfl ?_
      refine r_getf (pc := 276) (ci := 12) (k := 50) (C := "CricketHayModel") (T := F_12) (N := 73) (v := .ref 405) (fun s => Std.k s (lc hn rfl) kq_383) rfl (Nat.le_of_ble_eq_true rfl) rfl w_1136 (fun s => vr rfl (Std.r s (lc hn rfl) rq_383_50)) d_M_market_276 ?_
      refine r_bipush (pc := 279) (v := 34) d_M_market_279 (by rfl) ?_
      refine r_aload_n (pc := 281) (i := 0) d_M_market_281 rfl rfl ?_
      refine r_getf (pc := 282) (ci := 12) (k := 41) (C := "CricketHayModel") (T := F_12) (N := 73) (v := .int (hI h 383 41)) (fun s => Std.k s (lc hn rfl) kq_383) rfl (Nat.le_of_ble_eq_true rfl) rfl w_1127 (fun _ => rfl) d_M_market_282 ?_
      refine r_iast (pc := 285) (n := 35) (i0 := 34) (fun s => Std.k s (lc hn rfl) kq_405) (vin (k := 34) rfl rfl) rfl (fun s => Std.sI s _ _ _) d_M_market_285 ?_
      refine r_ltH (fun hq1 => ?_)
      refine r_aload_n (pc := 286) (i := 0) d_M_market_286 rfl rfl ?_
      refine r_iconst (pc := 287) (v := 0) d_M_market_287 (by rfl) ?_
      refine r_putI (pc := 288) (ci := 12) (k := 53) (C := "CricketHayModel") (T := F_12) (N := 73) (fun s => Std.k s (lc hn rfl) kq_383) rfl (Nat.le_of_ble_eq_true rfl) rfl rfl w_1139 (fun _ _ => rfl) (fun _ => rfl) (fun _ => rfl) (fun s => Std.sI s _ _ _) d_M_market_288 ?_
      refine r_ltH (fun hq2 => ?_)
      refine r_aload_n (pc := 291) (i := 0) d_M_market_291 rfl rfl ?_
      refine r_iconst (pc := 292) (v := 0) d_M_market_292 (by rfl) ?_
      refine r_putI (pc := 293) (ci := 12) (k := 54) (C := "CricketHayModel") (T := F_12) (N := 73) (fun s => Std.k s (lc hn rfl) kq_383) rfl (Nat.le_of_ble_eq_true rfl) rfl rfl w_1140 (fun _ _ => rfl) (fun _ => rfl) (fun _ => rfl) (fun s => Std.sI s _ _ _) d_M_market_293 ?_
      refine r_ltH (fun hq3 => ?_)
      refine r_aload_n (pc := 296) (i := 0) d_M_market_296 rfl rfl ?_
      refine r_iconst (pc := 297) (v := 0) d_M_market_297 (by rfl) ?_
      refine r_putI (pc := 298) (ci := 12) (k := 68) (C := "CricketHayModel") (T := F_12) (N := 73) (fun s => Std.k s (lc hn rfl) kq_383) rfl (Nat.le_of_ble_eq_true rfl) rfl rfl w_1154 (fun _ _ => rfl) (fun _ => rfl) (fun _ => rfl) (fun s => Std.sI s _ _ _) d_M_market_298 ?_
      refine r_ltH (fun hq4 => ?_)
      refine r_aload_n (pc := 301) (i := 0) d_M_market_301 rfl rfl ?_
      refine r_iconst (pc := 302) (v := 0) d_M_market_302 (by rfl) ?_
      refine r_putI (pc := 303) (ci := 12) (k := 57) (C := "CricketHayModel") (T := F_12) (N := 73) (fun s => Std.k s (lc hn rfl) kq_383) rfl (Nat.le_of_ble_eq_true rfl) rfl rfl w_1143 (fun _ _ => rfl) (fun _ => rfl) (fun _ => rfl) (fun s => Std.sI s _ _ _) d_M_market_303 ?_
      refine r_ltH (fun hq5 => ?_)
      refine r_iconst (pc := 306) (v := 0) d_M_market_306 (by rfl) ?_
      refine r_istore_n (pc := 307) (i := 1) (lv1 := [some (.ref 383), some (.int (0 : Int32)), none]) d_M_market_307 rfl (Nat.le_of_ble_eq_true rfl) rfl ?_
      exact r_wk (o_M_market_l308 hn FU (0 : Int32) hq5) ⟨rfl, ⟨rfl, trivial⟩⟩
    · refine r_aload_n (pc := 180) (i := 0) d_M_market_180 rfl rfl ?_
      refine r_getf (pc := 181) (ci := 12) (k := 33) (C := "CricketHayModel") (T := F_12) (N := 73) (v := .ref 402) (fun s => Std.k s (lc hn rfl) kq_383) rfl (Nat.le_of_ble_eq_true rfl) rfl w_1119 (fun s => vr rfl (Std.r s (lc hn rfl) rq_383_33)) d_M_market_181 ?_
      refine r_iload_n (pc := 184) (i := 1) d_M_market_184 rfl rfl ?_
      refine r_aload_n (pc := 185) (i := 0) d_M_market_185 rfl rfl ?_
      refine r_getf (pc := 186) (ci := 12) (k := 27) (C := "CricketHayModel") (T := F_12) (N := 73) (v := .ref 396) (fun s => Std.k s (lc hn rfl) kq_383) rfl (Nat.le_of_ble_eq_true rfl) rfl w_1113 (fun s => vr rfl (Std.r s (lc hn rfl) rq_383_27)) d_M_market_186 ?_
      refine r_iload_n (pc := 189) (i := 1) d_M_market_189 rfl rfl ?_
      refine r_gx (fun zq6 => ?_)
      refine r_iald (pc := 190) (n := 6) (i0 := (ix x1)) (fun s => Std.k s (lc hn rfl) kq_396) zq6 rfl d_M_market_190 ?_
      refine r_gx (fun zq7 => ?_)
      refine r_iast (pc := 191) (n := 6) (i0 := (ix x1)) (fun s => Std.k s (lc hn rfl) kq_402) zq7 rfl (fun s => Std.sI s _ _ _) d_M_market_191 ?_
      refine r_ltH (fun hq8 => ?_)
      refine r_aload_n (pc := 192) (i := 0) d_M_market_192 rfl rfl ?_
      refine r_getf (pc := 193) (ci := 12) (k := 34) (C := "CricketHayModel") (T := F_12) (N := 73) (v := .ref 403) (fun s => Std.k s (lc hn rfl) kq_383) rfl (Nat.le_of_ble_eq_true rfl) rfl w_1120 (fun s => vr rfl (Std.r s (lc hn rfl) rq_383_34)) d_M_market_193 ?_
      refine r_iload_n (pc := 196) (i := 1) d_M_market_196 rfl rfl ?_
      refine r_aload_n (pc := 197) (i := 0) d_M_market_197 rfl rfl ?_
      refine r_getf (pc := 198) (ci := 12) (k := 28) (C := "CricketHayModel") (T := F_12) (N := 73) (v := .ref 397) (fun s => Std.k s (lc hn rfl) kq_383) rfl (Nat.le_of_ble_eq_true rfl) rfl w_1114 (fun s => vr rfl (Std.r s (lc hn rfl) rq_383_28)) d_M_market_198 ?_
      refine r_iload_n (pc := 201) (i := 1) d_M_market_201 rfl rfl ?_
      refine r_gx (fun zq9 => ?_)
      refine r_iald (pc := 202) (n := 6) (i0 := (ix x1)) (fun s => Std.k s (lc hn rfl) kq_397) zq9 rfl d_M_market_202 ?_
      refine r_gx (fun zq10 => ?_)
      refine r_iast (pc := 203) (n := 6) (i0 := (ix x1)) (fun s => Std.k s (lc hn rfl) kq_403) zq10 rfl (fun s => Std.sI s _ _ _) d_M_market_203 ?_
      refine r_ltH (fun hq11 => ?_)
      refine r_aload_n (pc := 204) (i := 0) d_M_market_204 rfl rfl ?_
      refine r_getf (pc := 205) (ci := 12) (k := 35) (C := "CricketHayModel") (T := F_12) (N := 73) (v := .ref 404) (fun s => Std.k s (lc hn rfl) kq_383) rfl (Nat.le_of_ble_eq_true rfl) rfl w_1121 (fun s => vr rfl (Std.r s (lc hn rfl) rq_383_35)) d_M_market_205 ?_
      refine r_iload_n (pc := 208) (i := 1) d_M_market_208 rfl rfl ?_
      refine r_aload_n (pc := 209) (i := 0) d_M_market_209 rfl rfl ?_
      refine r_getf (pc := 210) (ci := 12) (k := 32) (C := "CricketHayModel") (T := F_12) (N := 73) (v := .ref 401) (fun s => Std.k s (lc hn rfl) kq_383) rfl (Nat.le_of_ble_eq_true rfl) rfl w_1118 (fun s => vr rfl (Std.r s (lc hn rfl) rq_383_32)) d_M_market_210 ?_
      refine r_iload_n (pc := 213) (i := 1) d_M_market_213 rfl rfl ?_
      refine r_gx (fun zq12 => ?_)
      refine r_iald (pc := 214) (n := 6) (i0 := (ix x1)) (fun s => Std.k s (lc hn rfl) kq_401) zq12 rfl d_M_market_214 ?_
      refine r_gx (fun zq13 => ?_)
      refine r_iast (pc := 215) (n := 6) (i0 := (ix x1)) (fun s => Std.k s (lc hn rfl) kq_404) zq13 rfl (fun s => Std.sI s _ _ _) d_M_market_215 ?_
      refine r_ltH (fun hq14 => ?_)
      refine r_iload_n (pc := 216) (i := 1) d_M_market_216 rfl rfl ?_
      refine r_aload_n (pc := 217) (i := 0) d_M_market_217 rfl rfl ?_
      refine r_getf (pc := 218) (ci := 12) (k := 43) (C := "CricketHayModel") (T := F_12) (N := 73) (v := .int (hI hq14 383 43)) (fun s => Std.k s (lc hn rfl) kq_383) rfl (Nat.le_of_ble_eq_true rfl) rfl w_1129 (fun _ => rfl) d_M_market_218 ?_
      refine r_icmp_lt (pc := 221) (tgt := 227) d_M_market_221 (by rfl) ?_ ?_
      · refine r_aload_n (pc := 227) (i := 0) d_M_market_227 rfl rfl ?_
        refine r_getf (pc := 228) (ci := 12) (k := 50) (C := "CricketHayModel") (T := F_12) (N := 73) (v := .ref 405) (fun s => Std.k s (lc hn rfl) kq_383) rfl (Nat.le_of_ble_eq_true rfl) rfl w_1136 (fun s => vr rfl (Std.r s (lc hn rfl) rq_383_50)) d_M_market_228 ?_
        refine r_iload_n (pc := 231) (i := 1) d_M_market_231 rfl rfl ?_
        refine r_aload_n (pc := 232) (i := 0) d_M_market_232 rfl rfl ?_
        refine r_getf (pc := 233) (ci := 12) (k := 30) (C := "CricketHayModel") (T := F_12) (N := 73) (v := .ref 399) (fun s => Std.k s (lc hn rfl) kq_383) rfl (Nat.le_of_ble_eq_true rfl) rfl w_1116 (fun s => vr rfl (Std.r s (lc hn rfl) rq_383_30)) d_M_market_233 ?_
        refine r_iload_n (pc := 236) (i := 1) d_M_market_236 rfl rfl ?_
        refine r_gx (fun zq15 => ?_)
        refine r_iald (pc := 237) (n := 6) (i0 := (ix x1)) (fun s => Std.k s (lc hn rfl) kq_399) zq15 rfl d_M_market_237 ?_
        refine r_gx (fun zq16 => ?_)
        refine r_iast (pc := 238) (n := 35) (i0 := (ix x1)) (fun s => Std.k s (lc hn rfl) kq_405) zq16 rfl (fun s => Std.sI s _ _ _) d_M_market_238 ?_
        refine r_ltH (fun hq17 => ?_)
        refine r_aload_n (pc := 239) (i := 0) d_M_market_239 rfl rfl ?_
        refine r_getf (pc := 240) (ci := 12) (k := 50) (C := "CricketHayModel") (T := F_12) (N := 73) (v := .ref 405) (fun s => Std.k s (lc hn rfl) kq_383) rfl (Nat.le_of_ble_eq_true rfl) rfl w_1136 (fun s => vr rfl (Std.r s (lc hn rfl) rq_383_50)) d_M_market_240 ?_
        refine r_bipush (pc := 243) (v := 6) d_M_market_243 (by rfl) ?_
        refine r_iload_n (pc := 245) (i := 1) d_M_market_245 rfl rfl ?_
        refine r_iadd (pc := 246) d_M_market_246 ?_
        refine r_aload_n (pc := 247) (i := 0) d_M_market_247 rfl rfl ?_
        refine r_getf (pc := 248) (ci := 12) (k := 31) (C := "CricketHayModel") (T := F_12) (N := 73) (v := .ref 400) (fun s => Std.k s (lc hn rfl) kq_383) rfl (Nat.le_of_ble_eq_true rfl) rfl w_1117 (fun s => vr rfl (Std.r s (lc hn rfl) rq_383_31)) d_M_market_248 ?_
        refine r_iload_n (pc := 251) (i := 1) d_M_market_251 rfl rfl ?_
        refine r_gx (fun zq18 => ?_)
        refine r_iald (pc := 252) (n := 6) (i0 := (ix x1)) (fun s => Std.k s (lc hn rfl) kq_400) zq18 rfl d_M_market_252 ?_
        refine r_gx (fun zq19 => ?_)
        refine r_iast (pc := 253) (n := 35) (i0 := (ix ((6 : Int32) + x1))) (fun s => Std.k s (lc hn rfl) kq_405) zq19 rfl (fun s => Std.sI s _ _ _) d_M_market_253 ?_
        refine r_ltH (fun hq20 => ?_)
        refine r_aload_n (pc := 254) (i := 0) d_M_market_254 rfl rfl ?_
        refine r_getf (pc := 255) (ci := 12) (k := 50) (C := "CricketHayModel") (T := F_12) (N := 73) (v := .ref 405) (fun s => Std.k s (lc hn rfl) kq_383) rfl (Nat.le_of_ble_eq_true rfl) rfl w_1136 (fun s => vr rfl (Std.r s (lc hn rfl) rq_383_50)) d_M_market_255 ?_
        refine r_bipush (pc := 258) (v := 18) d_M_market_258 (by rfl) ?_
        refine r_iload_n (pc := 260) (i := 1) d_M_market_260 rfl rfl ?_
        refine r_iadd (pc := 261) d_M_market_261 ?_
        refine r_aload_n (pc := 262) (i := 0) d_M_market_262 rfl rfl ?_
        refine r_getf (pc := 263) (ci := 12) (k := 29) (C := "CricketHayModel") (T := F_12) (N := 73) (v := .ref 398) (fun s => Std.k s (lc hn rfl) kq_383) rfl (Nat.le_of_ble_eq_true rfl) rfl w_1115 (fun s => vr rfl (Std.r s (lc hn rfl) rq_383_29)) d_M_market_263 ?_
        refine r_iload_n (pc := 266) (i := 1) d_M_market_266 rfl rfl ?_
        refine r_gx (fun zq21 => ?_)
        refine r_iald (pc := 267) (n := 6) (i0 := (ix x1)) (fun s => Std.k s (lc hn rfl) kq_398) zq21 rfl d_M_market_267 ?_
        refine r_gx (fun zq22 => ?_)
        refine r_iast (pc := 268) (n := 35) (i0 := (ix ((18 : Int32) + x1))) (fun s => Std.k s (lc hn rfl) kq_405) zq22 rfl (fun s => Std.sI s _ _ _) d_M_market_268 ?_
        refine r_ltH (fun hq23 => ?_)
        refine r_ltE (fun xq24 exq24 => ?_)
        refine r_iinc (pc := 269) (v := xq24) (lv1 := [some (.ref 383), some (.int xq24), none]) d_M_market_269 rfl exq24.symm (Nat.le_of_ble_eq_true rfl) rfl ?_
        refine r_goto (pc := 272) (tgt := 174) d_M_market_272 (by rfl) ?_
        exact r_wk (ih xq24 hq23) ⟨rfl, ⟨rfl, trivial⟩⟩
      · refine r_goto (pc := 224) (tgt := 269) d_M_market_224 (by rfl) ?_
        refine r_ltE (fun xq25 exq25 => ?_)
        refine r_iinc (pc := 269) (v := xq25) (lv1 := [some (.ref 383), some (.int xq25), none]) d_M_market_269 rfl exq25.symm (Nat.le_of_ble_eq_true rfl) rfl ?_
        refine r_goto (pc := 272) (tgt := 174) d_M_market_272 (by rfl) ?_
        exact r_wk (ih xq25 hq14) ⟨rfl, ⟨rfl, trivial⟩⟩
def f_M_market_l153    : Nat → Int32 → AH → Option (Int32 × AH)
  | 0, _, _ => none
  | n + 1, x1, h =>
    if (35 : Int32) ≤ x1 then
      f_M_market_l174 FU (0 : Int32) h
    else
      gx x1 35 <|
      lt (sI h 405 (ix x1) (0 : Int32)) fun hq2 =>
      lt (x1 + (1 : Int32)) fun xq3 =>
      f_M_market_l153 n xq3 hq2
set_option maxHeartbeats 2000000 in
theorem o_M_market_l153 {G : AE} {n : Nat} (hn : NN ≤ n)     : ∀ (n0 : Nat) (x1 : Int32) (h : AH), AJ G n y_M_market (9) φI 153 [some (.ref 383), some (.int x1), none] [] h (f_M_market_l153 n0 x1 h) := by
  intro n0
  induction n0 with
  | zero => intros; exact r_none
  | succ n0 ih =>
    intro x1 h
    rw [f_M_market_l153]
    refine r_iload_n (pc := 153) (i := 1) d_M_market_153 rfl rfl ?_
    refine r_bipush (pc := 154) (v := 35) d_M_market_154 (by rfl) ?_
    refine r_icmp_ge (pc := 156) (tgt := 172) d_M_market_156 (by rfl) ?_ ?_
    · refine r_iconst (pc := 172) (v := 0) d_M_market_172 (by rfl) ?_
      refine r_istore_n (pc := 173) (i := 1) (lv1 := [some (.ref 383), some (.int (0 : Int32)), none]) d_M_market_173 rfl (Nat.le_of_ble_eq_true rfl) rfl ?_
      exact r_wk (o_M_market_l174 hn FU (0 : Int32) h) ⟨rfl, ⟨rfl, trivial⟩⟩
    · refine r_aload_n (pc := 159) (i := 0) d_M_market_159 rfl rfl ?_
      refine r_getf (pc := 160) (ci := 12) (k := 50) (C := "CricketHayModel") (T := F_12) (N := 73) (v := .ref 405) (fun s => Std.k s (lc hn rfl) kq_383) rfl (Nat.le_of_ble_eq_true rfl) rfl w_1136 (fun s => vr rfl (Std.r s (lc hn rfl) rq_383_50)) d_M_market_160 ?_
      refine r_iload_n (pc := 163) (i := 1) d_M_market_163 rfl rfl ?_
      refine r_iconst (pc := 164) (v := 0) d_M_market_164 (by rfl) ?_
      refine r_gx (fun zq1 => ?_)
      refine r_iast (pc := 165) (n := 35) (i0 := (ix x1)) (fun s => Std.k s (lc hn rfl) kq_405) zq1 rfl (fun s => Std.sI s _ _ _) d_M_market_165 ?_
      refine r_ltH (fun hq2 => ?_)
      refine r_ltE (fun xq3 exq3 => ?_)
      refine r_iinc (pc := 166) (v := xq3) (lv1 := [some (.ref 383), some (.int xq3), none]) d_M_market_166 rfl exq3.symm (Nat.le_of_ble_eq_true rfl) rfl ?_
      refine r_goto (pc := 169) (tgt := 153) d_M_market_169 (by rfl) ?_
      exact r_wk (ih xq3 hq2) ⟨rfl, ⟨rfl, trivial⟩⟩
def f_M_market_l99   (k63 : Int32 → AH → Option (Int32 × AH)) : Nat → Int32 → Int32 → AH → Option (Int32 × AH)
  | 0, _, _, _ => none
  | n + 1, x1, x2, h =>
    gx x1 2 <|
    if (((320 : Int32) * x1) + (hI h 391 (ix x1))) ≤ x2 then
      lt (x1 + (1 : Int32)) fun xq2 =>
      k63 xq2 h
    else
      gx x2 640 <|
      gx x2 640 <|
      lt (sI h 389 (ix x2) (hI h 386 (ix x2))) fun hq5 =>
      gx x2 640 <|
      gx x2 640 <|
      lt (sI hq5 390 (ix x2) (hI hq5 387 (ix x2))) fun hq8 =>
      lt (x2 + (1 : Int32)) fun xq9 =>
      f_M_market_l99 k63 n x1 xq9 hq8
set_option maxHeartbeats 2000000 in
theorem o_M_market_l99 {G : AE} {n : Nat} (hn : NN ≤ n)    {k63 : Int32 → AH → Option (Int32 × AH)} (hk63 : ∀ (x1 : Int32) (h : AH), AJ G n y_M_market (9) φI 63 [some (.ref 383), some (.int x1), none] [] h (k63 x1 h)) : ∀ (n0 : Nat) (x1 : Int32) (x2 : Int32) (h : AH), AJ G n y_M_market (9) φI 99 [some (.ref 383), some (.int x1), some (.int x2)] [] h (f_M_market_l99 k63 n0 x1 x2 h) := by
  intro n0
  induction n0 with
  | zero => intros; exact r_none
  | succ n0 ih =>
    intro x1 x2 h
    rw [f_M_market_l99]
    refine r_iload_n (pc := 99) (i := 2) d_M_market_99 rfl rfl ?_
    refine r_sipush (pc := 100) (v := 320) d_M_market_100 (by rfl) ?_
    refine r_iload_n (pc := 103) (i := 1) d_M_market_103 rfl rfl ?_
    refine r_imul (pc := 104) d_M_market_104 ?_
    refine r_aload_n (pc := 105) (i := 0) d_M_market_105 rfl rfl ?_
    refine r_getf (pc := 106) (ci := 12) (k := 16) (C := "CricketHayModel") (T := F_12) (N := 73) (v := .ref 391) (fun s => Std.k s (lc hn rfl) kq_383) rfl (Nat.le_of_ble_eq_true rfl) rfl w_1102 (fun s => vr rfl (Std.r s (lc hn rfl) rq_383_16)) d_M_market_106 ?_
    refine r_iload_n (pc := 109) (i := 1) d_M_market_109 rfl rfl ?_
    refine r_gx (fun zq1 => ?_)
    refine r_iald (pc := 110) (n := 2) (i0 := (ix x1)) (fun s => Std.k s (lc hn rfl) kq_391) zq1 rfl d_M_market_110 ?_
    refine r_iadd (pc := 111) d_M_market_111 ?_
    refine r_icmp_ge (pc := 112) (tgt := 145) d_M_market_112 (by rfl) ?_ ?_
    · refine r_ltE (fun xq2 exq2 => ?_)
      refine r_iinc (pc := 145) (v := xq2) (lv1 := [some (.ref 383), some (.int xq2), some (.int x2)]) d_M_market_145 rfl exq2.symm (Nat.le_of_ble_eq_true rfl) rfl ?_
      refine r_goto (pc := 148) (tgt := 63) d_M_market_148 (by rfl) ?_
      exact r_wk (hk63 xq2 h) ⟨rfl, ⟨rfl, trivial⟩⟩
    · refine r_aload_n (pc := 115) (i := 0) d_M_market_115 rfl rfl ?_
      refine r_getf (pc := 116) (ci := 12) (k := 14) (C := "CricketHayModel") (T := F_12) (N := 73) (v := .ref 389) (fun s => Std.k s (lc hn rfl) kq_383) rfl (Nat.le_of_ble_eq_true rfl) rfl w_1100 (fun s => vr rfl (Std.r s (lc hn rfl) rq_383_14)) d_M_market_116 ?_
      refine r_iload_n (pc := 119) (i := 2) d_M_market_119 rfl rfl ?_
      refine r_aload_n (pc := 120) (i := 0) d_M_market_120 rfl rfl ?_
      refine r_getf (pc := 121) (ci := 12) (k := 11) (C := "CricketHayModel") (T := F_12) (N := 73) (v := .ref 386) (fun s => Std.k s (lc hn rfl) kq_383) rfl (Nat.le_of_ble_eq_true rfl) rfl w_1097 (fun s => vr rfl (Std.r s (lc hn rfl) rq_383_11)) d_M_market_121 ?_
      refine r_iload_n (pc := 124) (i := 2) d_M_market_124 rfl rfl ?_
      refine r_gx (fun zq3 => ?_)
      refine r_iald (pc := 125) (n := 640) (i0 := (ix x2)) (fun s => Std.k s (lc hn rfl) kq_386) zq3 rfl d_M_market_125 ?_
      refine r_gx (fun zq4 => ?_)
      refine r_iast (pc := 126) (n := 640) (i0 := (ix x2)) (fun s => Std.k s (lc hn rfl) kq_389) zq4 rfl (fun s => Std.sI s _ _ _) d_M_market_126 ?_
      refine r_ltH (fun hq5 => ?_)
      refine r_aload_n (pc := 127) (i := 0) d_M_market_127 rfl rfl ?_
      refine r_getf (pc := 128) (ci := 12) (k := 15) (C := "CricketHayModel") (T := F_12) (N := 73) (v := .ref 390) (fun s => Std.k s (lc hn rfl) kq_383) rfl (Nat.le_of_ble_eq_true rfl) rfl w_1101 (fun s => vr rfl (Std.r s (lc hn rfl) rq_383_15)) d_M_market_128 ?_
      refine r_iload_n (pc := 131) (i := 2) d_M_market_131 rfl rfl ?_
      refine r_aload_n (pc := 132) (i := 0) d_M_market_132 rfl rfl ?_
      refine r_getf (pc := 133) (ci := 12) (k := 12) (C := "CricketHayModel") (T := F_12) (N := 73) (v := .ref 387) (fun s => Std.k s (lc hn rfl) kq_383) rfl (Nat.le_of_ble_eq_true rfl) rfl w_1098 (fun s => vr rfl (Std.r s (lc hn rfl) rq_383_12)) d_M_market_133 ?_
      refine r_iload_n (pc := 136) (i := 2) d_M_market_136 rfl rfl ?_
      refine r_gx (fun zq6 => ?_)
      refine r_iald (pc := 137) (n := 640) (i0 := (ix x2)) (fun s => Std.k s (lc hn rfl) kq_387) zq6 rfl d_M_market_137 ?_
      refine r_gx (fun zq7 => ?_)
      refine r_iast (pc := 138) (n := 640) (i0 := (ix x2)) (fun s => Std.k s (lc hn rfl) kq_390) zq7 rfl (fun s => Std.sI s _ _ _) d_M_market_138 ?_
      refine r_ltH (fun hq8 => ?_)
      refine r_ltE (fun xq9 exq9 => ?_)
      refine r_iinc (pc := 139) (v := xq9) (lv1 := [some (.ref 383), some (.int x1), some (.int xq9)]) d_M_market_139 rfl exq9.symm (Nat.le_of_ble_eq_true rfl) rfl ?_
      refine r_goto (pc := 142) (tgt := 99) d_M_market_142 (by rfl) ?_
      exact r_wk (ih x1 xq9 hq8) ⟨rfl, ⟨rfl, ⟨rfl, trivial⟩⟩⟩
def f_M_market_b92   (k63 : Int32 → AH → Option (Int32 × AH)) (x1 : Int32) (v1 : Int32) (v2 : Int32) (h : AH) : Option (Int32 × AH) :=
  gx v1 2 <|
  lt (sI h 391 (ix v1) v2) fun hq2 =>
  lt ((320 : Int32) * x1) fun xq3 =>
  f_M_market_l99 k63 FU x1 xq3 hq2
set_option maxHeartbeats 2000000 in
theorem o_M_market_b92 {G : AE} {n : Nat} (hn : NN ≤ n)    {k63 : Int32 → AH → Option (Int32 × AH)} (hk63 : ∀ (x1 : Int32) (h : AH), AJ G n y_M_market (9) φI 63 [some (.ref 383), some (.int x1), none] [] h (k63 x1 h)) : ∀ (x1 : Int32) (v1 : Int32) (v2 : Int32) (h : AH), AJ G n y_M_market (9) φI 92 [some (.ref 383), some (.int x1), none] [.int v2, .int v1, .ref 391] h (f_M_market_b92 k63 x1 v1 v2 h) := by
  intro x1 v1 v2 h
  rw [f_M_market_b92]
  refine r_gx (fun zq1 => ?_)
  refine r_iast (pc := 92) (n := 2) (i0 := (ix v1)) (fun s => Std.k s (lc hn rfl) kq_391) zq1 rfl (fun s => Std.sI s _ _ _) d_M_market_92 ?_
  refine r_ltH (fun hq2 => ?_)
  refine r_sipush (pc := 93) (v := 320) d_M_market_93 (by rfl) ?_
  refine r_iload_n (pc := 96) (i := 1) d_M_market_96 rfl rfl ?_
  refine r_imul (pc := 97) d_M_market_97 ?_
  refine r_ltI (fun xq3 => ?_)
  refine r_istore_n (pc := 98) (i := 2) (lv1 := [some (.ref 383), some (.int x1), some (.int xq3)]) d_M_market_98 rfl (Nat.le_of_ble_eq_true rfl) rfl ?_
  exact r_wk (o_M_market_l99 hn hk63 FU x1 xq3 hq2) ⟨rfl, ⟨rfl, ⟨rfl, trivial⟩⟩⟩
def f_M_market_l63    : Nat → Int32 → AH → Option (Int32 × AH)
  | 0, _, _ => none
  | n + 1, x1, h =>
    if (2 : Int32) ≤ x1 then
      f_M_market_l153 FU (0 : Int32) h
    else
      gx x1 2 <|
      if (hI h 394 (ix x1)) = 0 then
        f_M_market_b92 (f_M_market_l63 n) x1 x1 (0 : Int32) h
      else
        gx x1 2 <|
        f_M_market_b92 (f_M_market_l63 n) x1 x1 (hI h 388 (ix x1)) h
set_option maxHeartbeats 2000000 in
theorem o_M_market_l63 {G : AE} {n : Nat} (hn : NN ≤ n)     : ∀ (n0 : Nat) (x1 : Int32) (h : AH), AJ G n y_M_market (9) φI 63 [some (.ref 383), some (.int x1), none] [] h (f_M_market_l63 n0 x1 h) := by
  intro n0
  induction n0 with
  | zero => intros; exact r_none
  | succ n0 ih =>
    intro x1 h
    rw [f_M_market_l63]
    refine r_iload_n (pc := 63) (i := 1) d_M_market_63 rfl rfl ?_
    refine r_iconst (pc := 64) (v := 2) d_M_market_64 (by rfl) ?_
    refine r_icmp_ge (pc := 65) (tgt := 151) d_M_market_65 (by rfl) ?_ ?_
    · refine r_iconst (pc := 151) (v := 0) d_M_market_151 (by rfl) ?_
      refine r_istore_n (pc := 152) (i := 1) (lv1 := [some (.ref 383), some (.int (0 : Int32)), none]) d_M_market_152 rfl (Nat.le_of_ble_eq_true rfl) rfl ?_
      exact r_wk (o_M_market_l153 hn FU (0 : Int32) h) ⟨rfl, ⟨rfl, trivial⟩⟩
    · refine r_aload_n (pc := 68) (i := 0) d_M_market_68 rfl rfl ?_
      refine r_getf (pc := 69) (ci := 12) (k := 16) (C := "CricketHayModel") (T := F_12) (N := 73) (v := .ref 391) (fun s => Std.k s (lc hn rfl) kq_383) rfl (Nat.le_of_ble_eq_true rfl) rfl w_1102 (fun s => vr rfl (Std.r s (lc hn rfl) rq_383_16)) d_M_market_69 ?_
      refine r_iload_n (pc := 72) (i := 1) d_M_market_72 rfl rfl ?_
      refine r_aload_n (pc := 73) (i := 0) d_M_market_73 rfl rfl ?_
      refine r_getf (pc := 74) (ci := 12) (k := 19) (C := "CricketHayModel") (T := F_12) (N := 73) (v := .ref 394) (fun s => Std.k s (lc hn rfl) kq_383) rfl (Nat.le_of_ble_eq_true rfl) rfl w_1105 (fun s => vr rfl (Std.r s (lc hn rfl) rq_383_19)) d_M_market_74 ?_
      refine r_iload_n (pc := 77) (i := 1) d_M_market_77 rfl rfl ?_
      refine r_gx (fun zq1 => ?_)
      refine r_zald (pc := 78) (n := 2) (i0 := (ix x1)) (fun s => Std.k s (lc hn rfl) kq_394) zq1 rfl d_M_market_78 ?_
      refine r_if_eq (pc := 79) (tgt := 91) d_M_market_79 (by rfl) ?_ ?_
      · refine r_iconst (pc := 91) (v := 0) d_M_market_91 (by rfl) ?_
        exact r_wk (o_M_market_b92 hn ih x1 x1 (0 : Int32) h) ⟨rfl, ⟨rfl, trivial⟩⟩
      · refine r_aload_n (pc := 82) (i := 0) d_M_market_82 rfl rfl ?_
        refine r_getf (pc := 83) (ci := 12) (k := 13) (C := "CricketHayModel") (T := F_12) (N := 73) (v := .ref 388) (fun s => Std.k s (lc hn rfl) kq_383) rfl (Nat.le_of_ble_eq_true rfl) rfl w_1099 (fun s => vr rfl (Std.r s (lc hn rfl) rq_383_13)) d_M_market_83 ?_
        refine r_iload_n (pc := 86) (i := 1) d_M_market_86 rfl rfl ?_
        refine r_gx (fun zq2 => ?_)
        refine r_iald (pc := 87) (n := 2) (i0 := (ix x1)) (fun s => Std.k s (lc hn rfl) kq_388) zq2 rfl d_M_market_87 ?_
        refine r_goto (pc := 88) (tgt := 92) d_M_market_88 (by rfl) ?_
        exact r_wk (o_M_market_b92 hn ih x1 x1 (hI h 388 (ix x1)) h) ⟨rfl, ⟨rfl, trivial⟩⟩
def f_M_market   (h : AH) : Option (Int32 × AH) :=
  bV (f_M_readAll h) fun hq1 =>
  if (hI hq1 383 2) ≤ 0 then
    lt (sI hq1 383 42 (hI hq1 383 36)) fun hq2 =>
    lt (sI hq2 383 43 (hI hq2 383 37)) fun hq3 =>
    lt (sI hq3 383 44 (hI hq3 383 38)) fun hq4 =>
    lt (sI hq4 383 45 (hI hq4 383 39)) fun hq5 =>
    lt (sI hq5 383 46 (hI hq5 383 40)) fun hq6 =>
    lt (sI hq6 383 23 (hI hq6 383 22)) fun hq7 =>
    f_M_market_l63 FU (0 : Int32) hq7
  else
    some ((-1 : Int32), hq1)
set_option maxHeartbeats 2000000 in
theorem ok_M_market {G : AE} {n : Nat} (hn : NN ≤ n)   (h : AH) : OK G n y_M_market (9) φI [.ref 383] h (f_M_market h) := by
  refine ok_of (y := y_M_market) (lv0 := [some (.ref 383), none, none]) (by decide +kernel) (Nat.le_of_ble_eq_true rfl) ⟨rfl, trivial⟩ ?_
  rw [f_M_market]
  refine r_aload_n (pc := 0) (i := 0) d_M_market_0 rfl rfl ?_
  refine r_cVv (pc := 1) (T := F_12) (N := 73) (st := []) (ok_M_readAll hn h) (fun s => Std.k s (lc hn rfl) kq_383) rfl w_1325 w_13 w_1322 w_1324 ws_47 hy_M_readAll ⟨Nat.le_of_ble_eq_true rfl, Nat.le_of_ble_eq_true rfl⟩ ⟨Nat.le_of_ble_eq_true rfl, Nat.le_of_ble_eq_true rfl⟩ rfl (Nat.le_of_ble_eq_true rfl) d_M_market_1 (fun hq1 => ?_)
  refine r_aload_n (pc := 4) (i := 0) d_M_market_4 rfl rfl ?_
  refine r_getf (pc := 5) (ci := 12) (k := 2) (C := "CricketHayModel") (T := F_12) (N := 73) (v := .int (hI hq1 383 2)) (fun s => Std.k s (lc hn rfl) kq_383) rfl (Nat.le_of_ble_eq_true rfl) rfl w_1088 (fun _ => rfl) d_M_market_5 ?_
  refine r_if_le (pc := 8) (tgt := 13) d_M_market_8 (by rfl) ?_ ?_
  · refine r_aload_n (pc := 13) (i := 0) d_M_market_13 rfl rfl ?_
    refine r_aload_n (pc := 14) (i := 0) d_M_market_14 rfl rfl ?_
    refine r_getf (pc := 15) (ci := 12) (k := 36) (C := "CricketHayModel") (T := F_12) (N := 73) (v := .int (hI hq1 383 36)) (fun s => Std.k s (lc hn rfl) kq_383) rfl (Nat.le_of_ble_eq_true rfl) rfl w_1122 (fun _ => rfl) d_M_market_15 ?_
    refine r_putI (pc := 18) (ci := 12) (k := 42) (C := "CricketHayModel") (T := F_12) (N := 73) (fun s => Std.k s (lc hn rfl) kq_383) rfl (Nat.le_of_ble_eq_true rfl) rfl rfl w_1128 (fun _ _ => rfl) (fun _ => rfl) (fun _ => rfl) (fun s => Std.sI s _ _ _) d_M_market_18 ?_
    refine r_ltH (fun hq2 => ?_)
    refine r_aload_n (pc := 21) (i := 0) d_M_market_21 rfl rfl ?_
    refine r_aload_n (pc := 22) (i := 0) d_M_market_22 rfl rfl ?_
    refine r_getf (pc := 23) (ci := 12) (k := 37) (C := "CricketHayModel") (T := F_12) (N := 73) (v := .int (hI hq2 383 37)) (fun s => Std.k s (lc hn rfl) kq_383) rfl (Nat.le_of_ble_eq_true rfl) rfl w_1123 (fun _ => rfl) d_M_market_23 ?_
    refine r_putI (pc := 26) (ci := 12) (k := 43) (C := "CricketHayModel") (T := F_12) (N := 73) (fun s => Std.k s (lc hn rfl) kq_383) rfl (Nat.le_of_ble_eq_true rfl) rfl rfl w_1129 (fun _ _ => rfl) (fun _ => rfl) (fun _ => rfl) (fun s => Std.sI s _ _ _) d_M_market_26 ?_
    refine r_ltH (fun hq3 => ?_)
    refine r_aload_n (pc := 29) (i := 0) d_M_market_29 rfl rfl ?_
    refine r_aload_n (pc := 30) (i := 0) d_M_market_30 rfl rfl ?_
    refine r_getf (pc := 31) (ci := 12) (k := 38) (C := "CricketHayModel") (T := F_12) (N := 73) (v := .int (hI hq3 383 38)) (fun s => Std.k s (lc hn rfl) kq_383) rfl (Nat.le_of_ble_eq_true rfl) rfl w_1124 (fun _ => rfl) d_M_market_31 ?_
    refine r_putI (pc := 34) (ci := 12) (k := 44) (C := "CricketHayModel") (T := F_12) (N := 73) (fun s => Std.k s (lc hn rfl) kq_383) rfl (Nat.le_of_ble_eq_true rfl) rfl rfl w_1130 (fun _ _ => rfl) (fun _ => rfl) (fun _ => rfl) (fun s => Std.sI s _ _ _) d_M_market_34 ?_
    refine r_ltH (fun hq4 => ?_)
    refine r_aload_n (pc := 37) (i := 0) d_M_market_37 rfl rfl ?_
    refine r_aload_n (pc := 38) (i := 0) d_M_market_38 rfl rfl ?_
    refine r_getf (pc := 39) (ci := 12) (k := 39) (C := "CricketHayModel") (T := F_12) (N := 73) (v := .int (hI hq4 383 39)) (fun s => Std.k s (lc hn rfl) kq_383) rfl (Nat.le_of_ble_eq_true rfl) rfl w_1125 (fun _ => rfl) d_M_market_39 ?_
    refine r_putI (pc := 42) (ci := 12) (k := 45) (C := "CricketHayModel") (T := F_12) (N := 73) (fun s => Std.k s (lc hn rfl) kq_383) rfl (Nat.le_of_ble_eq_true rfl) rfl rfl w_1131 (fun _ _ => rfl) (fun _ => rfl) (fun _ => rfl) (fun s => Std.sI s _ _ _) d_M_market_42 ?_
    refine r_ltH (fun hq5 => ?_)
    refine r_aload_n (pc := 45) (i := 0) d_M_market_45 rfl rfl ?_
    refine r_aload_n (pc := 46) (i := 0) d_M_market_46 rfl rfl ?_
    refine r_getf (pc := 47) (ci := 12) (k := 40) (C := "CricketHayModel") (T := F_12) (N := 73) (v := .int (hI hq5 383 40)) (fun s => Std.k s (lc hn rfl) kq_383) rfl (Nat.le_of_ble_eq_true rfl) rfl w_1126 (fun _ => rfl) d_M_market_47 ?_
    refine r_putI (pc := 50) (ci := 12) (k := 46) (C := "CricketHayModel") (T := F_12) (N := 73) (fun s => Std.k s (lc hn rfl) kq_383) rfl (Nat.le_of_ble_eq_true rfl) rfl rfl w_1132 (fun _ _ => rfl) (fun _ => rfl) (fun _ => rfl) (fun s => Std.sI s _ _ _) d_M_market_50 ?_
    refine r_ltH (fun hq6 => ?_)
    refine r_aload_n (pc := 53) (i := 0) d_M_market_53 rfl rfl ?_
    refine r_aload_n (pc := 54) (i := 0) d_M_market_54 rfl rfl ?_
    refine r_getf (pc := 55) (ci := 12) (k := 22) (C := "CricketHayModel") (T := F_12) (N := 73) (v := .int (hI hq6 383 22)) (fun s => Std.k s (lc hn rfl) kq_383) rfl (Nat.le_of_ble_eq_true rfl) rfl w_1108 (fun _ => rfl) d_M_market_55 ?_
    refine r_putI (pc := 58) (ci := 12) (k := 23) (C := "CricketHayModel") (T := F_12) (N := 73) (fun s => Std.k s (lc hn rfl) kq_383) rfl (Nat.le_of_ble_eq_true rfl) rfl rfl w_1109 (fun _ _ => rfl) (fun _ => rfl) (fun _ => rfl) (fun s => Std.sI s _ _ _) d_M_market_58 ?_
    refine r_ltH (fun hq7 => ?_)
    refine r_iconst (pc := 61) (v := 0) d_M_market_61 (by rfl) ?_
    refine r_istore_n (pc := 62) (i := 1) (lv1 := [some (.ref 383), some (.int (0 : Int32)), none]) d_M_market_62 rfl (Nat.le_of_ble_eq_true rfl) rfl ?_
    exact r_wk (o_M_market_l63 hn FU (0 : Int32) hq7) ⟨rfl, ⟨rfl, trivial⟩⟩
  · refine r_iconst (pc := 11) (v := -1) d_M_market_11 (by rfl) ?_
    exact r_iret (pc := 12) rfl d_M_market_12

def f_M_fault  (a1 : Int32) (h : AH) : Option (Int32 × AH) :=
  if ¬ a1 = 0 then
    if ¬ a1 = (1 : Int32) then
      some ((-1 : Int32), h)
    else
      some ((hI h 383 3), h)
  else
    some ((hI h 383 2), h)
set_option maxHeartbeats 2000000 in
theorem ok_M_fault {G : AE} {n : Nat} (hn : NN ≤ n)  (a1 : Int32) (h : AH) : OK G n y_M_fault (1) φI [.ref 383, .int a1] h (f_M_fault a1 h) := by
  refine ok_of (y := y_M_fault) (lv0 := [some (.ref 383), some (.int a1)]) (by decide +kernel) (Nat.le_of_ble_eq_true rfl) ⟨rfl, ⟨rfl, trivial⟩⟩ ?_
  rw [f_M_fault]
  refine r_iload_n (pc := 0) (i := 1) d_M_fault_0 rfl rfl ?_
  refine r_if_ne (pc := 1) (tgt := 11) d_M_fault_1 (by rfl) ?_ ?_
  · refine r_iload_n (pc := 11) (i := 1) d_M_fault_11 rfl rfl ?_
    refine r_iconst (pc := 12) (v := 1) d_M_fault_12 (by rfl) ?_
    refine r_icmp_ne (pc := 13) (tgt := 23) d_M_fault_13 (by rfl) ?_ ?_
    · refine r_iconst (pc := 23) (v := -1) d_M_fault_23 (by rfl) ?_
      exact r_iret (pc := 24) rfl d_M_fault_24
    · refine r_aload_n (pc := 16) (i := 0) d_M_fault_16 rfl rfl ?_
      refine r_getf (pc := 17) (ci := 12) (k := 3) (C := "CricketHayModel") (T := F_12) (N := 73) (v := .int (hI h 383 3)) (fun s => Std.k s (lc hn rfl) kq_383) rfl (Nat.le_of_ble_eq_true rfl) rfl w_1089 (fun _ => rfl) d_M_fault_17 ?_
      refine r_goto (pc := 20) (tgt := 24) d_M_fault_20 (by rfl) ?_
      exact r_iret (pc := 24) rfl d_M_fault_24
  · refine r_aload_n (pc := 4) (i := 0) d_M_fault_4 rfl rfl ?_
    refine r_getf (pc := 5) (ci := 12) (k := 2) (C := "CricketHayModel") (T := F_12) (N := 73) (v := .int (hI h 383 2)) (fun s => Std.k s (lc hn rfl) kq_383) rfl (Nat.le_of_ble_eq_true rfl) rfl w_1088 (fun _ => rfl) d_M_fault_5 ?_
    refine r_goto (pc := 8) (tgt := 24) d_M_fault_8 (by rfl) ?_
    exact r_iret (pc := 24) rfl d_M_fault_24

def f_M_isIn  (a0 : Int32) (a1 : Int32) (a2 : Int32) (h : AH) : Option (Int32 × AH) :=
  if a0 < a1 then
    some ((0 : Int32), h)
  else
    if a2 < a0 then
      some ((0 : Int32), h)
    else
      some ((1 : Int32), h)
set_option maxHeartbeats 2000000 in
theorem ok_M_isIn {G : AE} {n : Nat} (hn : NN ≤ n)  (a0 : Int32) (a1 : Int32) (a2 : Int32) (h : AH) : OK G n y_M_isIn (1) φI [.int a0, .int a1, .int a2] h (f_M_isIn a0 a1 a2 h) := by
  refine ok_of (y := y_M_isIn) (lv0 := [some (.int a0), some (.int a1), some (.int a2)]) (by decide +kernel) (Nat.le_of_ble_eq_true rfl) ⟨rfl, ⟨rfl, ⟨rfl, trivial⟩⟩⟩ ?_
  rw [f_M_isIn]
  refine r_iload_n (pc := 0) (i := 0) d_M_isIn_0 rfl rfl ?_
  refine r_iload_n (pc := 1) (i := 1) d_M_isIn_1 rfl rfl ?_
  refine r_icmp_lt (pc := 2) (tgt := 14) d_M_isIn_2 (by rfl) ?_ ?_
  · refine r_iconst (pc := 14) (v := 0) d_M_isIn_14 (by rfl) ?_
    exact r_zret (pc := 15) rfl rfl d_M_isIn_15
  · refine r_iload_n (pc := 5) (i := 0) d_M_isIn_5 rfl rfl ?_
    refine r_iload_n (pc := 6) (i := 2) d_M_isIn_6 rfl rfl ?_
    refine r_icmp_gt (pc := 7) (tgt := 14) d_M_isIn_7 (by rfl) ?_ ?_
    · refine r_iconst (pc := 14) (v := 0) d_M_isIn_14 (by rfl) ?_
      exact r_zret (pc := 15) rfl rfl d_M_isIn_15
    · refine r_iconst (pc := 10) (v := 1) d_M_isIn_10 (by rfl) ?_
      refine r_goto (pc := 11) (tgt := 15) d_M_isIn_11 (by rfl) ?_
      exact r_zret (pc := 15) rfl rfl d_M_isIn_15

def f_M_isDealer  (a1 : Int32) (h : AH) : Option (Int32 × AH) :=
  bI (f_M_isIn a1 (0 : Int32) ((hI h 383 43) - (1 : Int32)) h) fun rq1 hq2 =>
  gb rq1 <|
  some (rq1, hq2)
set_option maxHeartbeats 2000000 in
theorem ok_M_isDealer {G : AE} {n : Nat} (hn : NN ≤ n)  (a1 : Int32) (h : AH) : OK G n y_M_isDealer (2) φI [.ref 383, .int a1] h (f_M_isDealer a1 h) := by
  refine ok_of (y := y_M_isDealer) (lv0 := [some (.ref 383), some (.int a1)]) (by decide +kernel) (Nat.le_of_ble_eq_true rfl) ⟨rfl, ⟨rfl, trivial⟩⟩ ?_
  rw [f_M_isDealer]
  refine r_iload_n (pc := 0) (i := 1) d_M_isDealer_0 rfl rfl ?_
  refine r_iconst (pc := 1) (v := 0) d_M_isDealer_1 (by rfl) ?_
  refine r_aload_n (pc := 2) (i := 0) d_M_isDealer_2 rfl rfl ?_
  refine r_getf (pc := 3) (ci := 12) (k := 43) (C := "CricketHayModel") (T := F_12) (N := 73) (v := .int (hI h 383 43)) (fun s => Std.k s (lc hn rfl) kq_383) rfl (Nat.le_of_ble_eq_true rfl) rfl w_1129 (fun _ => rfl) d_M_isDealer_3 ?_
  refine r_iconst (pc := 6) (v := 1) d_M_isDealer_6 (by rfl) ?_
  refine r_isub (pc := 7) d_M_isDealer_7 ?_
  refine r_cSi (pc := 8) (st := []) (ok_M_isIn hn a1 (0 : Int32) ((hI h 383 43) - (1 : Int32)) h) w_1479 w_13 w_1477 w_1478 hy_M_isIn ⟨Nat.le_of_ble_eq_true rfl, Nat.le_of_ble_eq_true rfl⟩ ⟨Nat.le_of_ble_eq_true rfl, Nat.le_of_ble_eq_true rfl⟩ rfl (Nat.le_of_ble_eq_true rfl) d_M_isDealer_8 (fun rq1 hq2 => ?_)
  refine r_gb (fun zq3 => ?_)
  exact r_zret (pc := 11) rfl zq3 d_M_isDealer_11

def f_M_areTwo  (a1 : Int32) (a2 : Int32) (h : AH) : Option (Int32 × AH) :=
  bI (f_M_isDealer a1 h) fun rq1 hq2 =>
  if rq1 = 0 then
    some ((0 : Int32), hq2)
  else
    bI (f_M_isDealer a2 hq2) fun rq3 hq4 =>
    if rq3 = 0 then
      some ((0 : Int32), hq4)
    else
      if a1 = a2 then
        some ((0 : Int32), hq4)
      else
        some ((1 : Int32), hq4)
set_option maxHeartbeats 2000000 in
theorem ok_M_areTwo {G : AE} {n : Nat} (hn : NN ≤ n)  (a1 : Int32) (a2 : Int32) (h : AH) : OK G n y_M_areTwo (3) φI [.ref 383, .int a1, .int a2] h (f_M_areTwo a1 a2 h) := by
  refine ok_of (y := y_M_areTwo) (lv0 := [some (.ref 383), some (.int a1), some (.int a2)]) (by decide +kernel) (Nat.le_of_ble_eq_true rfl) ⟨rfl, ⟨rfl, ⟨rfl, trivial⟩⟩⟩ ?_
  rw [f_M_areTwo]
  refine r_aload_n (pc := 0) (i := 0) d_M_areTwo_0 rfl rfl ?_
  refine r_iload_n (pc := 1) (i := 1) d_M_areTwo_1 rfl rfl ?_
  refine r_cVi (pc := 2) (T := F_12) (N := 73) (st := []) (ok_M_isDealer hn a1 h) (fun s => Std.k s (lc hn rfl) kq_383) rfl w_1476 w_13 w_1473 w_1475 ws_75 hy_M_isDealer ⟨Nat.le_of_ble_eq_true rfl, Nat.le_of_ble_eq_true rfl⟩ ⟨Nat.le_of_ble_eq_true rfl, Nat.le_of_ble_eq_true rfl⟩ rfl (Nat.le_of_ble_eq_true rfl) d_M_areTwo_2 (fun rq1 hq2 => ?_)
  refine r_if_eq (pc := 5) (tgt := 25) d_M_areTwo_5 (by rfl) ?_ ?_
  · refine r_iconst (pc := 25) (v := 0) d_M_areTwo_25 (by rfl) ?_
    exact r_zret (pc := 26) rfl rfl d_M_areTwo_26
  · refine r_aload_n (pc := 8) (i := 0) d_M_areTwo_8 rfl rfl ?_
    refine r_iload_n (pc := 9) (i := 2) d_M_areTwo_9 rfl rfl ?_
    refine r_cVi (pc := 10) (T := F_12) (N := 73) (st := []) (ok_M_isDealer hn a2 hq2) (fun s => Std.k s (lc hn rfl) kq_383) rfl w_1476 w_13 w_1473 w_1475 ws_75 hy_M_isDealer ⟨Nat.le_of_ble_eq_true rfl, Nat.le_of_ble_eq_true rfl⟩ ⟨Nat.le_of_ble_eq_true rfl, Nat.le_of_ble_eq_true rfl⟩ rfl (Nat.le_of_ble_eq_true rfl) d_M_areTwo_10 (fun rq3 hq4 => ?_)
    refine r_if_eq (pc := 13) (tgt := 25) d_M_areTwo_13 (by rfl) ?_ ?_
    · refine r_iconst (pc := 25) (v := 0) d_M_areTwo_25 (by rfl) ?_
      exact r_zret (pc := 26) rfl rfl d_M_areTwo_26
    · refine r_iload_n (pc := 16) (i := 1) d_M_areTwo_16 rfl rfl ?_
      refine r_iload_n (pc := 17) (i := 2) d_M_areTwo_17 rfl rfl ?_
      refine r_icmp_eq (pc := 18) (tgt := 25) d_M_areTwo_18 (by rfl) ?_ ?_
      · refine r_iconst (pc := 25) (v := 0) d_M_areTwo_25 (by rfl) ?_
        exact r_zret (pc := 26) rfl rfl d_M_areTwo_26
      · refine r_iconst (pc := 21) (v := 1) d_M_areTwo_21 (by rfl) ?_
        refine r_goto (pc := 22) (tgt := 26) d_M_areTwo_22 (by rfl) ?_
        exact r_zret (pc := 26) rfl rfl d_M_areTwo_26

def f_M_load_l2    : Nat → Int32 → AH → Option AH
  | 0, _, _ => none
  | n + 1, x1, h =>
    if (35 : Int32) ≤ x1 then
      some h
    else
      gx x1 35 <|
      gx x1 35 <|
      lt (sI h 406 (ix x1) (hI h 405 (ix x1))) fun hq3 =>
      lt (x1 + (1 : Int32)) fun xq4 =>
      f_M_load_l2 n xq4 hq3
set_option maxHeartbeats 2000000 in
theorem o_M_load_l2 {G : AE} {n : Nat} (hn : NN ≤ n)     : ∀ (n0 : Nat) (x1 : Int32) (h : AH), AJ G n y_M_load (1) φV 2 [some (.ref 383), some (.int x1)] [] h (f_M_load_l2 n0 x1 h) := by
  intro n0
  induction n0 with
  | zero => intros; exact r_none
  | succ n0 ih =>
    intro x1 h
    rw [f_M_load_l2]
    refine r_iload_n (pc := 2) (i := 1) d_M_load_2 rfl rfl ?_
    refine r_bipush (pc := 3) (v := 35) d_M_load_3 (by rfl) ?_
    refine r_icmp_ge (pc := 5) (tgt := 26) d_M_load_5 (by rfl) ?_ ?_
    · exact r_vret (pc := 26) rfl d_M_load_26
    · refine r_aload_n (pc := 8) (i := 0) d_M_load_8 rfl rfl ?_
      refine r_getf (pc := 9) (ci := 12) (k := 51) (C := "CricketHayModel") (T := F_12) (N := 73) (v := .ref 406) (fun s => Std.k s (lc hn rfl) kq_383) rfl (Nat.le_of_ble_eq_true rfl) rfl w_1137 (fun s => vr rfl (Std.r s (lc hn rfl) rq_383_51)) d_M_load_9 ?_
      refine r_iload_n (pc := 12) (i := 1) d_M_load_12 rfl rfl ?_
      refine r_aload_n (pc := 13) (i := 0) d_M_load_13 rfl rfl ?_
      refine r_getf (pc := 14) (ci := 12) (k := 50) (C := "CricketHayModel") (T := F_12) (N := 73) (v := .ref 405) (fun s => Std.k s (lc hn rfl) kq_383) rfl (Nat.le_of_ble_eq_true rfl) rfl w_1136 (fun s => vr rfl (Std.r s (lc hn rfl) rq_383_50)) d_M_load_14 ?_
      refine r_iload_n (pc := 17) (i := 1) d_M_load_17 rfl rfl ?_
      refine r_gx (fun zq1 => ?_)
      refine r_iald (pc := 18) (n := 35) (i0 := (ix x1)) (fun s => Std.k s (lc hn rfl) kq_405) zq1 rfl d_M_load_18 ?_
      refine r_gx (fun zq2 => ?_)
      refine r_iast (pc := 19) (n := 35) (i0 := (ix x1)) (fun s => Std.k s (lc hn rfl) kq_406) zq2 rfl (fun s => Std.sI s _ _ _) d_M_load_19 ?_
      refine r_ltH (fun hq3 => ?_)
      refine r_ltE (fun xq4 exq4 => ?_)
      refine r_iinc (pc := 20) (v := xq4) (lv1 := [some (.ref 383), some (.int xq4)]) d_M_load_20 rfl exq4.symm (Nat.le_of_ble_eq_true rfl) rfl ?_
      refine r_goto (pc := 23) (tgt := 2) d_M_load_23 (by rfl) ?_
      exact r_wk (ih xq4 hq3) ⟨rfl, ⟨rfl, trivial⟩⟩
def f_M_load   (h : AH) : Option AH :=
  f_M_load_l2 FU (0 : Int32) h
set_option maxHeartbeats 2000000 in
theorem ok_M_load {G : AE} {n : Nat} (hn : NN ≤ n)   (h : AH) : OK G n y_M_load (1) φV [.ref 383] h (f_M_load h) := by
  refine ok_of (y := y_M_load) (lv0 := [some (.ref 383), none]) (by decide +kernel) (Nat.le_of_ble_eq_true rfl) ⟨rfl, trivial⟩ ?_
  rw [f_M_load]
  refine r_iconst (pc := 0) (v := 0) d_M_load_0 (by rfl) ?_
  refine r_istore_n (pc := 1) (i := 1) (lv1 := [some (.ref 383), some (.int (0 : Int32))]) d_M_load_1 rfl (Nat.le_of_ble_eq_true rfl) rfl ?_
  exact r_wk (o_M_load_l2 hn FU (0 : Int32) h) ⟨rfl, ⟨rfl, trivial⟩⟩

def f_M_askOf  (a1 : Int32) (a2 : Int32) (a3 : Int32) (a4 : Int32) (h : AH) : Option AH :=
  lt (sI h 395 0 a1) fun hq1 =>
  lt (sI hq1 395 1 a2) fun hq2 =>
  lt (sI hq2 395 2 a3) fun hq3 =>
  lt (sI hq3 395 3 a4) fun hq4 =>
  lt (sI hq4 395 4 (hI hq4 406 32)) fun hq5 =>
  lt (sI hq5 395 5 (hI hq5 406 33)) fun hq6 =>
  some hq6
set_option maxHeartbeats 2000000 in
theorem ok_M_askOf {G : AE} {n : Nat} (hn : NN ≤ n)  (a1 : Int32) (a2 : Int32) (a3 : Int32) (a4 : Int32) (h : AH) : OK G n y_M_askOf (1) φV [.ref 383, .int a1, .int a2, .int a3, .int a4] h (f_M_askOf a1 a2 a3 a4 h) := by
  refine ok_of (y := y_M_askOf) (lv0 := [some (.ref 383), some (.int a1), some (.int a2), some (.int a3), some (.int a4)]) (by decide +kernel) (Nat.le_of_ble_eq_true rfl) ⟨rfl, ⟨rfl, ⟨rfl, ⟨rfl, ⟨rfl, trivial⟩⟩⟩⟩⟩ ?_
  rw [f_M_askOf]
  refine r_aload_n (pc := 0) (i := 0) d_M_askOf_0 rfl rfl ?_
  refine r_getf (pc := 1) (ci := 12) (k := 26) (C := "CricketHayModel") (T := F_12) (N := 73) (v := .ref 395) (fun s => Std.k s (lc hn rfl) kq_383) rfl (Nat.le_of_ble_eq_true rfl) rfl w_1112 (fun s => vr rfl (Std.r s (lc hn rfl) rq_383_26)) d_M_askOf_1 ?_
  refine r_iconst (pc := 4) (v := 0) d_M_askOf_4 (by rfl) ?_
  refine r_iload_n (pc := 5) (i := 1) d_M_askOf_5 rfl rfl ?_
  refine r_iast (pc := 6) (n := 6) (i0 := 0) (fun s => Std.k s (lc hn rfl) kq_395) (vin (k := 0) rfl rfl) rfl (fun s => Std.sI s _ _ _) d_M_askOf_6 ?_
  refine r_ltH (fun hq1 => ?_)
  refine r_aload_n (pc := 7) (i := 0) d_M_askOf_7 rfl rfl ?_
  refine r_getf (pc := 8) (ci := 12) (k := 26) (C := "CricketHayModel") (T := F_12) (N := 73) (v := .ref 395) (fun s => Std.k s (lc hn rfl) kq_383) rfl (Nat.le_of_ble_eq_true rfl) rfl w_1112 (fun s => vr rfl (Std.r s (lc hn rfl) rq_383_26)) d_M_askOf_8 ?_
  refine r_iconst (pc := 11) (v := 1) d_M_askOf_11 (by rfl) ?_
  refine r_iload_n (pc := 12) (i := 2) d_M_askOf_12 rfl rfl ?_
  refine r_iast (pc := 13) (n := 6) (i0 := 1) (fun s => Std.k s (lc hn rfl) kq_395) (vin (k := 1) rfl rfl) rfl (fun s => Std.sI s _ _ _) d_M_askOf_13 ?_
  refine r_ltH (fun hq2 => ?_)
  refine r_aload_n (pc := 14) (i := 0) d_M_askOf_14 rfl rfl ?_
  refine r_getf (pc := 15) (ci := 12) (k := 26) (C := "CricketHayModel") (T := F_12) (N := 73) (v := .ref 395) (fun s => Std.k s (lc hn rfl) kq_383) rfl (Nat.le_of_ble_eq_true rfl) rfl w_1112 (fun s => vr rfl (Std.r s (lc hn rfl) rq_383_26)) d_M_askOf_15 ?_
  refine r_iconst (pc := 18) (v := 2) d_M_askOf_18 (by rfl) ?_
  refine r_iload_n (pc := 19) (i := 3) d_M_askOf_19 rfl rfl ?_
  refine r_iast (pc := 20) (n := 6) (i0 := 2) (fun s => Std.k s (lc hn rfl) kq_395) (vin (k := 2) rfl rfl) rfl (fun s => Std.sI s _ _ _) d_M_askOf_20 ?_
  refine r_ltH (fun hq3 => ?_)
  refine r_aload_n (pc := 21) (i := 0) d_M_askOf_21 rfl rfl ?_
  refine r_getf (pc := 22) (ci := 12) (k := 26) (C := "CricketHayModel") (T := F_12) (N := 73) (v := .ref 395) (fun s => Std.k s (lc hn rfl) kq_383) rfl (Nat.le_of_ble_eq_true rfl) rfl w_1112 (fun s => vr rfl (Std.r s (lc hn rfl) rq_383_26)) d_M_askOf_22 ?_
  refine r_iconst (pc := 25) (v := 3) d_M_askOf_25 (by rfl) ?_
  refine r_iload (pc := 26) d_M_askOf_26 rfl ?_
  refine r_iast (pc := 28) (n := 6) (i0 := 3) (fun s => Std.k s (lc hn rfl) kq_395) (vin (k := 3) rfl rfl) rfl (fun s => Std.sI s _ _ _) d_M_askOf_28 ?_
  refine r_ltH (fun hq4 => ?_)
  refine r_aload_n (pc := 29) (i := 0) d_M_askOf_29 rfl rfl ?_
  refine r_getf (pc := 30) (ci := 12) (k := 26) (C := "CricketHayModel") (T := F_12) (N := 73) (v := .ref 395) (fun s => Std.k s (lc hn rfl) kq_383) rfl (Nat.le_of_ble_eq_true rfl) rfl w_1112 (fun s => vr rfl (Std.r s (lc hn rfl) rq_383_26)) d_M_askOf_30 ?_
  refine r_iconst (pc := 33) (v := 4) d_M_askOf_33 (by rfl) ?_
  refine r_aload_n (pc := 34) (i := 0) d_M_askOf_34 rfl rfl ?_
  refine r_getf (pc := 35) (ci := 12) (k := 51) (C := "CricketHayModel") (T := F_12) (N := 73) (v := .ref 406) (fun s => Std.k s (lc hn rfl) kq_383) rfl (Nat.le_of_ble_eq_true rfl) rfl w_1137 (fun s => vr rfl (Std.r s (lc hn rfl) rq_383_51)) d_M_askOf_35 ?_
  refine r_bipush (pc := 38) (v := 32) d_M_askOf_38 (by rfl) ?_
  refine r_iald (pc := 40) (n := 35) (i0 := 32) (fun s => Std.k s (lc hn rfl) kq_406) (vin (k := 32) rfl rfl) rfl d_M_askOf_40 ?_
  refine r_iast (pc := 41) (n := 6) (i0 := 4) (fun s => Std.k s (lc hn rfl) kq_395) (vin (k := 4) rfl rfl) rfl (fun s => Std.sI s _ _ _) d_M_askOf_41 ?_
  refine r_ltH (fun hq5 => ?_)
  refine r_aload_n (pc := 42) (i := 0) d_M_askOf_42 rfl rfl ?_
  refine r_getf (pc := 43) (ci := 12) (k := 26) (C := "CricketHayModel") (T := F_12) (N := 73) (v := .ref 395) (fun s => Std.k s (lc hn rfl) kq_383) rfl (Nat.le_of_ble_eq_true rfl) rfl w_1112 (fun s => vr rfl (Std.r s (lc hn rfl) rq_383_26)) d_M_askOf_43 ?_
  refine r_iconst (pc := 46) (v := 5) d_M_askOf_46 (by rfl) ?_
  refine r_aload_n (pc := 47) (i := 0) d_M_askOf_47 rfl rfl ?_
  refine r_getf (pc := 48) (ci := 12) (k := 51) (C := "CricketHayModel") (T := F_12) (N := 73) (v := .ref 406) (fun s => Std.k s (lc hn rfl) kq_383) rfl (Nat.le_of_ble_eq_true rfl) rfl w_1137 (fun s => vr rfl (Std.r s (lc hn rfl) rq_383_51)) d_M_askOf_48 ?_
  refine r_bipush (pc := 51) (v := 33) d_M_askOf_51 (by rfl) ?_
  refine r_iald (pc := 53) (n := 35) (i0 := 33) (fun s => Std.k s (lc hn rfl) kq_406) (vin (k := 33) rfl rfl) rfl d_M_askOf_53 ?_
  refine r_iast (pc := 54) (n := 6) (i0 := 5) (fun s => Std.k s (lc hn rfl) kq_395) (vin (k := 5) rfl rfl) rfl (fun s => Std.sI s _ _ _) d_M_askOf_54 ?_
  refine r_ltH (fun hq6 => ?_)
  exact r_vret (pc := 55) rfl d_M_askOf_55

def f_M_heatHere   (h : AH) : Option (Int32 × AH) :=
  bV (f_M_askOf (0 : Int32) (0 : Int32) (0 : Int32) (0 : Int32) h) fun hq1 =>
  bI (f_M_worked (1 : Int32) (20 : Int32) hq1) fun rq2 hq3 =>
  bI (f_M_within (rq2 - (hI hq3 406 31)) (40 : Int32) hq3) fun rq4 hq5 =>
  some (rq4, hq5)
set_option maxHeartbeats 2000000 in
theorem ok_M_heatHere {G : AE} {n : Nat} (hn : NN ≤ n)   (h : AH) : OK G n y_M_heatHere (4) φI [.ref 383] h (f_M_heatHere h) := by
  refine ok_of (y := y_M_heatHere) (lv0 := [some (.ref 383)]) (by decide +kernel) (Nat.le_of_ble_eq_true rfl) ⟨rfl, trivial⟩ ?_
  rw [f_M_heatHere]
  refine r_aload_n (pc := 0) (i := 0) d_M_heatHere_0 rfl rfl ?_
  refine r_iconst (pc := 1) (v := 0) d_M_heatHere_1 (by rfl) ?_
  refine r_iconst (pc := 2) (v := 0) d_M_heatHere_2 (by rfl) ?_
  refine r_iconst (pc := 3) (v := 0) d_M_heatHere_3 (by rfl) ?_
  refine r_iconst (pc := 4) (v := 0) d_M_heatHere_4 (by rfl) ?_
  refine r_cVv (pc := 5) (T := F_12) (N := 73) (st := []) (ok_M_askOf hn (0 : Int32) (0 : Int32) (0 : Int32) (0 : Int32) h) (fun s => Std.k s (lc hn rfl) kq_383) rfl w_1502 w_13 w_1499 w_1501 ws_80 hy_M_askOf ⟨Nat.le_of_ble_eq_true rfl, Nat.le_of_ble_eq_true rfl⟩ ⟨Nat.le_of_ble_eq_true rfl, Nat.le_of_ble_eq_true rfl⟩ rfl (Nat.le_of_ble_eq_true rfl) d_M_heatHere_5 (fun hq1 => ?_)
  refine r_aload_n (pc := 8) (i := 0) d_M_heatHere_8 rfl rfl ?_
  refine r_iconst (pc := 9) (v := 1) d_M_heatHere_9 (by rfl) ?_
  refine r_bipush (pc := 10) (v := 20) d_M_heatHere_10 (by rfl) ?_
  refine r_cVi (pc := 12) (T := F_12) (N := 73) (st := []) (ok_M_worked hn (1 : Int32) (20 : Int32) hq1) (fun s => Std.k s (lc hn rfl) kq_383) rfl w_1506 w_13 w_1503 w_1505 ws_81 hy_M_worked ⟨Nat.le_of_ble_eq_true rfl, Nat.le_of_ble_eq_true rfl⟩ ⟨Nat.le_of_ble_eq_true rfl, Nat.le_of_ble_eq_true rfl⟩ rfl (Nat.le_of_ble_eq_true rfl) d_M_heatHere_12 (fun rq2 hq3 => ?_)
  refine r_aload_n (pc := 15) (i := 0) d_M_heatHere_15 rfl rfl ?_
  refine r_getf (pc := 16) (ci := 12) (k := 51) (C := "CricketHayModel") (T := F_12) (N := 73) (v := .ref 406) (fun s => Std.k s (lc hn rfl) kq_383) rfl (Nat.le_of_ble_eq_true rfl) rfl w_1137 (fun s => vr rfl (Std.r s (lc hn rfl) rq_383_51)) d_M_heatHere_16 ?_
  refine r_bipush (pc := 19) (v := 31) d_M_heatHere_19 (by rfl) ?_
  refine r_iald (pc := 21) (n := 35) (i0 := 31) (fun s => Std.k s (lc hn rfl) kq_406) (vin (k := 31) rfl rfl) rfl d_M_heatHere_21 ?_
  refine r_isub (pc := 22) d_M_heatHere_22 ?_
  refine r_bipush (pc := 23) (v := 40) d_M_heatHere_23 (by rfl) ?_
  refine r_cSi (pc := 25) (st := []) (ok_M_within hn (rq2 - (hI hq3 406 31)) (40 : Int32) hq3) w_1512 w_13 w_1510 w_1511 hy_M_within ⟨Nat.le_of_ble_eq_true rfl, Nat.le_of_ble_eq_true rfl⟩ ⟨Nat.le_of_ble_eq_true rfl, Nat.le_of_ble_eq_true rfl⟩ rfl (Nat.le_of_ble_eq_true rfl) d_M_heatHere_25 (fun rq4 hq5 => ?_)
  exact r_iret (pc := 28) rfl d_M_heatHere_28

def f_M_isFree  (a1 : Int32) (h : AH) : Option (Int32 × AH) :=
  if ¬ (((hI h 406 30) >>> (a1 &&& 31)) &&& (1 : Int32)) = (1 : Int32) then
    some ((0 : Int32), h)
  else
    some ((1 : Int32), h)
set_option maxHeartbeats 2000000 in
theorem ok_M_isFree {G : AE} {n : Nat} (hn : NN ≤ n)  (a1 : Int32) (h : AH) : OK G n y_M_isFree (1) φI [.ref 383, .int a1] h (f_M_isFree a1 h) := by
  refine ok_of (y := y_M_isFree) (lv0 := [some (.ref 383), some (.int a1)]) (by decide +kernel) (Nat.le_of_ble_eq_true rfl) ⟨rfl, ⟨rfl, trivial⟩⟩ ?_
  rw [f_M_isFree]
  refine r_aload_n (pc := 0) (i := 0) d_M_isFree_0 rfl rfl ?_
  refine r_getf (pc := 1) (ci := 12) (k := 51) (C := "CricketHayModel") (T := F_12) (N := 73) (v := .ref 406) (fun s => Std.k s (lc hn rfl) kq_383) rfl (Nat.le_of_ble_eq_true rfl) rfl w_1137 (fun s => vr rfl (Std.r s (lc hn rfl) rq_383_51)) d_M_isFree_1 ?_
  refine r_bipush (pc := 4) (v := 30) d_M_isFree_4 (by rfl) ?_
  refine r_iald (pc := 6) (n := 35) (i0 := 30) (fun s => Std.k s (lc hn rfl) kq_406) (vin (k := 30) rfl rfl) rfl d_M_isFree_6 ?_
  refine r_iload_n (pc := 7) (i := 1) d_M_isFree_7 rfl rfl ?_
  refine r_ishr (pc := 8) d_M_isFree_8 ?_
  refine r_iconst (pc := 9) (v := 1) d_M_isFree_9 (by rfl) ?_
  refine r_iand (pc := 10) d_M_isFree_10 ?_
  refine r_iconst (pc := 11) (v := 1) d_M_isFree_11 (by rfl) ?_
  refine r_icmp_ne (pc := 12) (tgt := 19) d_M_isFree_12 (by rfl) ?_ ?_
  · refine r_iconst (pc := 19) (v := 0) d_M_isFree_19 (by rfl) ?_
    exact r_zret (pc := 20) rfl rfl d_M_isFree_20
  · refine r_iconst (pc := 15) (v := 1) d_M_isFree_15 (by rfl) ?_
    refine r_goto (pc := 16) (tgt := 20) d_M_isFree_16 (by rfl) ?_
    exact r_zret (pc := 20) rfl rfl d_M_isFree_20

def f_M_matesOf_b46  (a1 : Int32) (k4 : Int32 → Int32 → AH → Option (Int32 × AH)) (x3 : Int32) (v0 : Int32) (v1 : Int32) (h : AH) : Option (Int32 × AH) :=
  bI (f_M_truth v1 h) fun rq1 hq2 =>
  lt (v0 + rq1) fun xq3 =>
  lt (x3 + (1 : Int32)) fun xq4 =>
  k4 xq3 xq4 hq2
set_option maxHeartbeats 2000000 in
theorem o_M_matesOf_b46 {G : AE} {n : Nat} (hn : NN ≤ n)  {a1 : Int32}  {k4 : Int32 → Int32 → AH → Option (Int32 × AH)} (hk4 : ∀ (x2 : Int32) (x3 : Int32) (h : AH), AJ G n y_M_matesOf (2) φI 4 [some (.ref 383), some (.int a1), some (.int x2), some (.int x3)] [] h (k4 x2 x3 h)) : ∀ (x3 : Int32) (v0 : Int32) (v1 : Int32) (h : AH), AJ G n y_M_matesOf (2) φI 46 [some (.ref 383), some (.int a1), none, some (.int x3)] [.int v1, .int v0] h (f_M_matesOf_b46 a1 k4 x3 v0 v1 h) := by
  intro x3 v0 v1 h
  rw [f_M_matesOf_b46]
  refine r_cSi (pc := 46) (st := [.int v0]) (ok_M_truth hn v1 h) w_1490 w_13 w_1488 w_1489 hy_M_truth ⟨Nat.le_of_ble_eq_true rfl, Nat.le_of_ble_eq_true rfl⟩ ⟨Nat.le_of_ble_eq_true rfl, Nat.le_of_ble_eq_true rfl⟩ rfl (Nat.le_of_ble_eq_true rfl) d_M_matesOf_46 (fun rq1 hq2 => ?_)
  refine r_iadd (pc := 49) d_M_matesOf_49 ?_
  refine r_ltI (fun xq3 => ?_)
  refine r_istore_n (pc := 50) (i := 2) (lv1 := [some (.ref 383), some (.int a1), some (.int xq3), some (.int x3)]) d_M_matesOf_50 rfl (Nat.le_of_ble_eq_true rfl) rfl ?_
  refine r_ltE (fun xq4 exq4 => ?_)
  refine r_iinc (pc := 51) (v := xq4) (lv1 := [some (.ref 383), some (.int a1), some (.int xq3), some (.int xq4)]) d_M_matesOf_51 rfl exq4.symm (Nat.le_of_ble_eq_true rfl) rfl ?_
  refine r_goto (pc := 54) (tgt := 4) d_M_matesOf_54 (by rfl) ?_
  exact r_wk (hk4 xq3 xq4 hq2) ⟨rfl, ⟨rfl, ⟨rfl, ⟨rfl, trivial⟩⟩⟩⟩
def f_M_matesOf_b45  (a1 : Int32) (k4 : Int32 → Int32 → AH → Option (Int32 × AH)) (x3 : Int32) (v0 : Int32) (h : AH) : Option (Int32 × AH) :=
  f_M_matesOf_b46 a1 k4 x3 v0 (0 : Int32) h
set_option maxHeartbeats 2000000 in
theorem o_M_matesOf_b45 {G : AE} {n : Nat} (hn : NN ≤ n)  {a1 : Int32}  {k4 : Int32 → Int32 → AH → Option (Int32 × AH)} (hk4 : ∀ (x2 : Int32) (x3 : Int32) (h : AH), AJ G n y_M_matesOf (2) φI 4 [some (.ref 383), some (.int a1), some (.int x2), some (.int x3)] [] h (k4 x2 x3 h)) : ∀ (x3 : Int32) (v0 : Int32) (h : AH), AJ G n y_M_matesOf (2) φI 45 [some (.ref 383), some (.int a1), none, some (.int x3)] [.int v0] h (f_M_matesOf_b45 a1 k4 x3 v0 h) := by
  intro x3 v0 h
  rw [f_M_matesOf_b45]
  refine r_iconst (pc := 45) (v := 0) d_M_matesOf_45 (by rfl) ?_
  exact r_wk (o_M_matesOf_b46 hn hk4 x3 v0 (0 : Int32) h) ⟨rfl, ⟨rfl, ⟨rfl, trivial⟩⟩⟩
def f_M_matesOf_l4  (a1 : Int32)  : Nat → Int32 → Int32 → AH → Option (Int32 × AH)
  | 0, _, _, _ => none
  | n + 1, x2, x3, h =>
    if (hI h 383 43) ≤ x3 then
      some (x2, h)
    else
      if x3 = a1 then
        f_M_matesOf_b45 a1 (f_M_matesOf_l4 a1 n) x3 x2 h
      else
        gx x3 6 <|
        gx a1 6 <|
        if ¬ (hI h 402 (ix x3)) = (hI h 402 (ix a1)) then
          f_M_matesOf_b45 a1 (f_M_matesOf_l4 a1 n) x3 x2 h
        else
          bI (f_M_isFree x3 h) fun rq3 hq4 =>
          if ¬ rq3 = 0 then
            f_M_matesOf_b45 a1 (f_M_matesOf_l4 a1 n) x3 x2 hq4
          else
            f_M_matesOf_b46 a1 (f_M_matesOf_l4 a1 n) x3 x2 (1 : Int32) hq4
set_option maxHeartbeats 2000000 in
theorem o_M_matesOf_l4 {G : AE} {n : Nat} (hn : NN ≤ n)  {a1 : Int32}   : ∀ (n0 : Nat) (x2 : Int32) (x3 : Int32) (h : AH), AJ G n y_M_matesOf (2) φI 4 [some (.ref 383), some (.int a1), some (.int x2), some (.int x3)] [] h (f_M_matesOf_l4 a1 n0 x2 x3 h) := by
  intro n0
  induction n0 with
  | zero => intros; exact r_none
  | succ n0 ih =>
    intro x2 x3 h
    rw [f_M_matesOf_l4]
    refine r_iload_n (pc := 4) (i := 3) d_M_matesOf_4 rfl rfl ?_
    refine r_aload_n (pc := 5) (i := 0) d_M_matesOf_5 rfl rfl ?_
    refine r_getf (pc := 6) (ci := 12) (k := 43) (C := "CricketHayModel") (T := F_12) (N := 73) (v := .int (hI h 383 43)) (fun s => Std.k s (lc hn rfl) kq_383) rfl (Nat.le_of_ble_eq_true rfl) rfl w_1129 (fun _ => rfl) d_M_matesOf_6 ?_
    refine r_icmp_ge (pc := 9) (tgt := 57) d_M_matesOf_9 (by rfl) ?_ ?_
    · refine r_iload_n (pc := 57) (i := 2) d_M_matesOf_57 rfl rfl ?_
      exact r_iret (pc := 58) rfl d_M_matesOf_58
    · refine r_iload_n (pc := 12) (i := 2) d_M_matesOf_12 rfl rfl ?_
      refine r_iload_n (pc := 13) (i := 3) d_M_matesOf_13 rfl rfl ?_
      refine r_iload_n (pc := 14) (i := 1) d_M_matesOf_14 rfl rfl ?_
      refine r_icmp_eq (pc := 15) (tgt := 45) d_M_matesOf_15 (by rfl) ?_ ?_
      · exact r_wk (o_M_matesOf_b45 hn ih x3 x2 h) ⟨rfl, ⟨rfl, ⟨rfl, trivial⟩⟩⟩
      · refine r_aload_n (pc := 18) (i := 0) d_M_matesOf_18 rfl rfl ?_
        refine r_getf (pc := 19) (ci := 12) (k := 33) (C := "CricketHayModel") (T := F_12) (N := 73) (v := .ref 402) (fun s => Std.k s (lc hn rfl) kq_383) rfl (Nat.le_of_ble_eq_true rfl) rfl w_1119 (fun s => vr rfl (Std.r s (lc hn rfl) rq_383_33)) d_M_matesOf_19 ?_
        refine r_iload_n (pc := 22) (i := 3) d_M_matesOf_22 rfl rfl ?_
        refine r_gx (fun zq1 => ?_)
        refine r_iald (pc := 23) (n := 6) (i0 := (ix x3)) (fun s => Std.k s (lc hn rfl) kq_402) zq1 rfl d_M_matesOf_23 ?_
        refine r_aload_n (pc := 24) (i := 0) d_M_matesOf_24 rfl rfl ?_
        refine r_getf (pc := 25) (ci := 12) (k := 33) (C := "CricketHayModel") (T := F_12) (N := 73) (v := .ref 402) (fun s => Std.k s (lc hn rfl) kq_383) rfl (Nat.le_of_ble_eq_true rfl) rfl w_1119 (fun s => vr rfl (Std.r s (lc hn rfl) rq_383_33)) d_M_matesOf_25 ?_
        refine r_iload_n (pc := 28) (i := 1) d_M_matesOf_28 rfl rfl ?_
        refine r_gx (fun zq2 => ?_)
        refine r_iald (pc := 29) (n := 6) (i0 := (ix a1)) (fun s => Std.k s (lc hn rfl) kq_402) zq2 rfl d_M_matesOf_29 ?_
        refine r_icmp_ne (pc := 30) (tgt := 45) d_M_matesOf_30 (by rfl) ?_ ?_
        · exact r_wk (o_M_matesOf_b45 hn ih x3 x2 h) ⟨rfl, ⟨rfl, ⟨rfl, trivial⟩⟩⟩
        · refine r_aload_n (pc := 33) (i := 0) d_M_matesOf_33 rfl rfl ?_
          refine r_iload_n (pc := 34) (i := 3) d_M_matesOf_34 rfl rfl ?_
          refine r_cVi (pc := 35) (T := F_12) (N := 73) (st := [.int x2]) (ok_M_isFree hn x3 h) (fun s => Std.k s (lc hn rfl) kq_383) rfl w_1487 w_13 w_1484 w_1486 ws_77 hy_M_isFree ⟨Nat.le_of_ble_eq_true rfl, Nat.le_of_ble_eq_true rfl⟩ ⟨Nat.le_of_ble_eq_true rfl, Nat.le_of_ble_eq_true rfl⟩ rfl (Nat.le_of_ble_eq_true rfl) d_M_matesOf_35 (fun rq3 hq4 => ?_)
          refine r_if_ne (pc := 38) (tgt := 45) d_M_matesOf_38 (by rfl) ?_ ?_
          · exact r_wk (o_M_matesOf_b45 hn ih x3 x2 hq4) ⟨rfl, ⟨rfl, ⟨rfl, trivial⟩⟩⟩
          · refine r_iconst (pc := 41) (v := 1) d_M_matesOf_41 (by rfl) ?_
            refine r_goto (pc := 42) (tgt := 46) d_M_matesOf_42 (by rfl) ?_
            exact r_wk (o_M_matesOf_b46 hn ih x3 x2 (1 : Int32) hq4) ⟨rfl, ⟨rfl, ⟨rfl, trivial⟩⟩⟩
def f_M_matesOf  (a1 : Int32) (h : AH) : Option (Int32 × AH) :=
  f_M_matesOf_l4 a1 FU (0 : Int32) (0 : Int32) h
set_option maxHeartbeats 2000000 in
theorem ok_M_matesOf {G : AE} {n : Nat} (hn : NN ≤ n)  (a1 : Int32) (h : AH) : OK G n y_M_matesOf (2) φI [.ref 383, .int a1] h (f_M_matesOf a1 h) := by
  refine ok_of (y := y_M_matesOf) (lv0 := [some (.ref 383), some (.int a1), none, none]) (by decide +kernel) (Nat.le_of_ble_eq_true rfl) ⟨rfl, ⟨rfl, trivial⟩⟩ ?_
  rw [f_M_matesOf]
  refine r_iconst (pc := 0) (v := 0) d_M_matesOf_0 (by rfl) ?_
  refine r_istore_n (pc := 1) (i := 2) (lv1 := [some (.ref 383), some (.int a1), some (.int (0 : Int32)), none]) d_M_matesOf_1 rfl (Nat.le_of_ble_eq_true rfl) rfl ?_
  refine r_iconst (pc := 2) (v := 0) d_M_matesOf_2 (by rfl) ?_
  refine r_istore_n (pc := 3) (i := 3) (lv1 := [some (.ref 383), some (.int a1), some (.int (0 : Int32)), some (.int (0 : Int32))]) d_M_matesOf_3 rfl (Nat.le_of_ble_eq_true rfl) rfl ?_
  exact r_wk (o_M_matesOf_l4 hn FU (0 : Int32) (0 : Int32) h) ⟨rfl, ⟨rfl, ⟨rfl, ⟨rfl, trivial⟩⟩⟩⟩

def f_M_chirpsAt  (a1 : Int32) (a2 : Int32) (a3 : Int32) (a4 : Int32) (h : AH) : Option (Int32 × AH) :=
  bV (f_M_askOf a1 a2 a3 a4 h) fun hq1 =>
  bI (f_M_worked (0 : Int32) (a1 + a2) hq1) fun rq2 hq3 =>
  bI (f_M_within rq2 (99 : Int32) hq3) fun rq4 hq5 =>
  some (rq4, hq5)
set_option maxHeartbeats 2000000 in
theorem ok_M_chirpsAt {G : AE} {n : Nat} (hn : NN ≤ n)  (a1 : Int32) (a2 : Int32) (a3 : Int32) (a4 : Int32) (h : AH) : OK G n y_M_chirpsAt (4) φI [.ref 383, .int a1, .int a2, .int a3, .int a4] h (f_M_chirpsAt a1 a2 a3 a4 h) := by
  refine ok_of (y := y_M_chirpsAt) (lv0 := [some (.ref 383), some (.int a1), some (.int a2), some (.int a3), some (.int a4)]) (by decide +kernel) (Nat.le_of_ble_eq_true rfl) ⟨rfl, ⟨rfl, ⟨rfl, ⟨rfl, ⟨rfl, trivial⟩⟩⟩⟩⟩ ?_
  rw [f_M_chirpsAt]
  refine r_aload_n (pc := 0) (i := 0) d_M_chirpsAt_0 rfl rfl ?_
  refine r_iload_n (pc := 1) (i := 1) d_M_chirpsAt_1 rfl rfl ?_
  refine r_iload_n (pc := 2) (i := 2) d_M_chirpsAt_2 rfl rfl ?_
  refine r_iload_n (pc := 3) (i := 3) d_M_chirpsAt_3 rfl rfl ?_
  refine r_iload (pc := 4) d_M_chirpsAt_4 rfl ?_
  refine r_cVv (pc := 6) (T := F_12) (N := 73) (st := []) (ok_M_askOf hn a1 a2 a3 a4 h) (fun s => Std.k s (lc hn rfl) kq_383) rfl w_1502 w_13 w_1499 w_1501 ws_80 hy_M_askOf ⟨Nat.le_of_ble_eq_true rfl, Nat.le_of_ble_eq_true rfl⟩ ⟨Nat.le_of_ble_eq_true rfl, Nat.le_of_ble_eq_true rfl⟩ rfl (Nat.le_of_ble_eq_true rfl) d_M_chirpsAt_6 (fun hq1 => ?_)
  refine r_aload_n (pc := 9) (i := 0) d_M_chirpsAt_9 rfl rfl ?_
  refine r_iconst (pc := 10) (v := 0) d_M_chirpsAt_10 (by rfl) ?_
  refine r_iload_n (pc := 11) (i := 1) d_M_chirpsAt_11 rfl rfl ?_
  refine r_iload_n (pc := 12) (i := 2) d_M_chirpsAt_12 rfl rfl ?_
  refine r_iadd (pc := 13) d_M_chirpsAt_13 ?_
  refine r_cVi (pc := 14) (T := F_12) (N := 73) (st := []) (ok_M_worked hn (0 : Int32) (a1 + a2) hq1) (fun s => Std.k s (lc hn rfl) kq_383) rfl w_1506 w_13 w_1503 w_1505 ws_81 hy_M_worked ⟨Nat.le_of_ble_eq_true rfl, Nat.le_of_ble_eq_true rfl⟩ ⟨Nat.le_of_ble_eq_true rfl, Nat.le_of_ble_eq_true rfl⟩ rfl (Nat.le_of_ble_eq_true rfl) d_M_chirpsAt_14 (fun rq2 hq3 => ?_)
  refine r_bipush (pc := 17) (v := 99) d_M_chirpsAt_17 (by rfl) ?_
  refine r_cSi (pc := 19) (st := []) (ok_M_within hn rq2 (99 : Int32) hq3) w_1512 w_13 w_1510 w_1511 hy_M_within ⟨Nat.le_of_ble_eq_true rfl, Nat.le_of_ble_eq_true rfl⟩ ⟨Nat.le_of_ble_eq_true rfl, Nat.le_of_ble_eq_true rfl⟩ rfl (Nat.le_of_ble_eq_true rfl) d_M_chirpsAt_19 (fun rq4 hq5 => ?_)
  exact r_iret (pc := 22) rfl d_M_chirpsAt_22

def f_M_chirpsOf  (a1 : Int32) (h : AH) : Option (Int32 × AH) :=
  bI (f_M_isFree a1 h) fun rq1 hq2 =>
  if rq1 = 0 then
    bI (f_M_heatHere hq2) fun rq3 hq4 =>
    gx ((24 : Int32) + a1) 35 <|
    bI (f_M_within (rq3 + (hI hq4 406 (ix ((24 : Int32) + a1)))) (40 : Int32) hq4) fun rq6 hq7 =>
    gx a1 6 <|
    gx ((18 : Int32) + a1) 35 <|
    bI (f_M_matesOf a1 hq7) fun rq10 hq11 =>
    bI (f_M_chirpsAt rq6 (hI hq7 403 (ix a1)) (hI hq7 406 (ix ((18 : Int32) + a1))) rq10 hq11) fun rq12 hq13 =>
    some (rq12, hq13)
  else
    some ((0 : Int32), hq2)
set_option maxHeartbeats 2000000 in
theorem ok_M_chirpsOf {G : AE} {n : Nat} (hn : NN ≤ n)  (a1 : Int32) (h : AH) : OK G n y_M_chirpsOf (5) φI [.ref 383, .int a1] h (f_M_chirpsOf a1 h) := by
  refine ok_of (y := y_M_chirpsOf) (lv0 := [some (.ref 383), some (.int a1), none]) (by decide +kernel) (Nat.le_of_ble_eq_true rfl) ⟨rfl, ⟨rfl, trivial⟩⟩ ?_
  rw [f_M_chirpsOf]
  refine r_aload_n (pc := 0) (i := 0) d_M_chirpsOf_0 rfl rfl ?_
  refine r_iload_n (pc := 1) (i := 1) d_M_chirpsOf_1 rfl rfl ?_
  refine r_cVi (pc := 2) (T := F_12) (N := 73) (st := []) (ok_M_isFree hn a1 h) (fun s => Std.k s (lc hn rfl) kq_383) rfl w_1487 w_13 w_1484 w_1486 ws_77 hy_M_isFree ⟨Nat.le_of_ble_eq_true rfl, Nat.le_of_ble_eq_true rfl⟩ ⟨Nat.le_of_ble_eq_true rfl, Nat.le_of_ble_eq_true rfl⟩ rfl (Nat.le_of_ble_eq_true rfl) d_M_chirpsOf_2 (fun rq1 hq2 => ?_)
  refine r_if_eq (pc := 5) (tgt := 10) d_M_chirpsOf_5 (by rfl) ?_ ?_
  · refine r_aload_n (pc := 10) (i := 0) d_M_chirpsOf_10 rfl rfl ?_
    refine r_cVi (pc := 11) (T := F_12) (N := 73) (st := []) (ok_M_heatHere hn hq2) (fun s => Std.k s (lc hn rfl) kq_383) rfl w_1498 w_13 w_1495 w_1497 ws_79 hy_M_heatHere ⟨Nat.le_of_ble_eq_true rfl, Nat.le_of_ble_eq_true rfl⟩ ⟨Nat.le_of_ble_eq_true rfl, Nat.le_of_ble_eq_true rfl⟩ rfl (Nat.le_of_ble_eq_true rfl) d_M_chirpsOf_11 (fun rq3 hq4 => ?_)
    refine r_aload_n (pc := 14) (i := 0) d_M_chirpsOf_14 rfl rfl ?_
    refine r_getf (pc := 15) (ci := 12) (k := 51) (C := "CricketHayModel") (T := F_12) (N := 73) (v := .ref 406) (fun s => Std.k s (lc hn rfl) kq_383) rfl (Nat.le_of_ble_eq_true rfl) rfl w_1137 (fun s => vr rfl (Std.r s (lc hn rfl) rq_383_51)) d_M_chirpsOf_15 ?_
    refine r_bipush (pc := 18) (v := 24) d_M_chirpsOf_18 (by rfl) ?_
    refine r_iload_n (pc := 20) (i := 1) d_M_chirpsOf_20 rfl rfl ?_
    refine r_iadd (pc := 21) d_M_chirpsOf_21 ?_
    refine r_gx (fun zq5 => ?_)
    refine r_iald (pc := 22) (n := 35) (i0 := (ix ((24 : Int32) + a1))) (fun s => Std.k s (lc hn rfl) kq_406) zq5 rfl d_M_chirpsOf_22 ?_
    refine r_iadd (pc := 23) d_M_chirpsOf_23 ?_
    refine r_bipush (pc := 24) (v := 40) d_M_chirpsOf_24 (by rfl) ?_
    refine r_cSi (pc := 26) (st := []) (ok_M_within hn (rq3 + (hI hq4 406 (ix ((24 : Int32) + a1)))) (40 : Int32) hq4) w_1512 w_13 w_1510 w_1511 hy_M_within ⟨Nat.le_of_ble_eq_true rfl, Nat.le_of_ble_eq_true rfl⟩ ⟨Nat.le_of_ble_eq_true rfl, Nat.le_of_ble_eq_true rfl⟩ rfl (Nat.le_of_ble_eq_true rfl) d_M_chirpsOf_26 (fun rq6 hq7 => ?_)
    refine r_istore_n (pc := 29) (i := 2) (lv1 := [some (.ref 383), some (.int a1), some (.int rq6)]) d_M_chirpsOf_29 rfl (Nat.le_of_ble_eq_true rfl) rfl ?_
    refine r_aload_n (pc := 30) (i := 0) d_M_chirpsOf_30 rfl rfl ?_
    refine r_iload_n (pc := 31) (i := 2) d_M_chirpsOf_31 rfl rfl ?_
    refine r_aload_n (pc := 32) (i := 0) d_M_chirpsOf_32 rfl rfl ?_
    refine r_getf (pc := 33) (ci := 12) (k := 34) (C := "CricketHayModel") (T := F_12) (N := 73) (v := .ref 403) (fun s => Std.k s (lc hn rfl) kq_383) rfl (Nat.le_of_ble_eq_true rfl) rfl w_1120 (fun s => vr rfl (Std.r s (lc hn rfl) rq_383_34)) d_M_chirpsOf_33 ?_
    refine r_iload_n (pc := 36) (i := 1) d_M_chirpsOf_36 rfl rfl ?_
    refine r_gx (fun zq8 => ?_)
    refine r_iald (pc := 37) (n := 6) (i0 := (ix a1)) (fun s => Std.k s (lc hn rfl) kq_403) zq8 rfl d_M_chirpsOf_37 ?_
    refine r_aload_n (pc := 38) (i := 0) d_M_chirpsOf_38 rfl rfl ?_
    refine r_getf (pc := 39) (ci := 12) (k := 51) (C := "CricketHayModel") (T := F_12) (N := 73) (v := .ref 406) (fun s => Std.k s (lc hn rfl) kq_383) rfl (Nat.le_of_ble_eq_true rfl) rfl w_1137 (fun s => vr rfl (Std.r s (lc hn rfl) rq_383_51)) d_M_chirpsOf_39 ?_
    refine r_bipush (pc := 42) (v := 18) d_M_chirpsOf_42 (by rfl) ?_
    refine r_iload_n (pc := 44) (i := 1) d_M_chirpsOf_44 rfl rfl ?_
    refine r_iadd (pc := 45) d_M_chirpsOf_45 ?_
    refine r_gx (fun zq9 => ?_)
    refine r_iald (pc := 46) (n := 35) (i0 := (ix ((18 : Int32) + a1))) (fun s => Std.k s (lc hn rfl) kq_406) zq9 rfl d_M_chirpsOf_46 ?_
    refine r_aload_n (pc := 47) (i := 0) d_M_chirpsOf_47 rfl rfl ?_
    refine r_iload_n (pc := 48) (i := 1) d_M_chirpsOf_48 rfl rfl ?_
    refine r_cVi (pc := 49) (T := F_12) (N := 73) (st := [.int (hI hq7 406 (ix ((18 : Int32) + a1))), .int (hI hq7 403 (ix a1)), .int rq6, .ref 383]) (ok_M_matesOf hn a1 hq7) (fun s => Std.k s (lc hn rfl) kq_383) rfl w_1516 w_13 w_1513 w_1515 ws_82 hy_M_matesOf ⟨Nat.le_of_ble_eq_true rfl, Nat.le_of_ble_eq_true rfl⟩ ⟨Nat.le_of_ble_eq_true rfl, Nat.le_of_ble_eq_true rfl⟩ rfl (Nat.le_of_ble_eq_true rfl) d_M_chirpsOf_49 (fun rq10 hq11 => ?_)
    refine r_cVi (pc := 52) (T := F_12) (N := 73) (st := []) (ok_M_chirpsAt hn rq6 (hI hq7 403 (ix a1)) (hI hq7 406 (ix ((18 : Int32) + a1))) rq10 hq11) (fun s => Std.k s (lc hn rfl) kq_383) rfl w_1520 w_13 w_1517 w_1519 ws_83 hy_M_chirpsAt ⟨Nat.le_of_ble_eq_true rfl, Nat.le_of_ble_eq_true rfl⟩ ⟨Nat.le_of_ble_eq_true rfl, Nat.le_of_ble_eq_true rfl⟩ rfl (Nat.le_of_ble_eq_true rfl) d_M_chirpsOf_52 (fun rq12 hq13 => ?_)
    exact r_iret (pc := 55) rfl d_M_chirpsOf_55
  · refine r_iconst (pc := 8) (v := 0) d_M_chirpsOf_8 (by rfl) ?_
    exact r_iret (pc := 9) rfl d_M_chirpsOf_9

def f_M_priceOf  (a1 : Int32) (a2 : Int32) (h : AH) : Option (Int32 × AH) :=
  bI (f_M_chirpsOf a1 h) fun rq1 hq2 =>
  bI (f_M_chirpsOf a2 hq2) fun rq3 hq4 =>
  some (((rq1 + rq3) / (2 : Int32)), hq4)
set_option maxHeartbeats 2000000 in
theorem ok_M_priceOf {G : AE} {n : Nat} (hn : NN ≤ n)  (a1 : Int32) (a2 : Int32) (h : AH) : OK G n y_M_priceOf (6) φI [.ref 383, .int a1, .int a2] h (f_M_priceOf a1 a2 h) := by
  refine ok_of (y := y_M_priceOf) (lv0 := [some (.ref 383), some (.int a1), some (.int a2)]) (by decide +kernel) (Nat.le_of_ble_eq_true rfl) ⟨rfl, ⟨rfl, ⟨rfl, trivial⟩⟩⟩ ?_
  rw [f_M_priceOf]
  refine r_aload_n (pc := 0) (i := 0) d_M_priceOf_0 rfl rfl ?_
  refine r_iload_n (pc := 1) (i := 1) d_M_priceOf_1 rfl rfl ?_
  refine r_cVi (pc := 2) (T := F_12) (N := 73) (st := []) (ok_M_chirpsOf hn a1 h) (fun s => Std.k s (lc hn rfl) kq_383) rfl w_1494 w_13 w_1491 w_1493 ws_78 hy_M_chirpsOf ⟨Nat.le_of_ble_eq_true rfl, Nat.le_of_ble_eq_true rfl⟩ ⟨Nat.le_of_ble_eq_true rfl, Nat.le_of_ble_eq_true rfl⟩ rfl (Nat.le_of_ble_eq_true rfl) d_M_priceOf_2 (fun rq1 hq2 => ?_)
  refine r_aload_n (pc := 5) (i := 0) d_M_priceOf_5 rfl rfl ?_
  refine r_iload_n (pc := 6) (i := 2) d_M_priceOf_6 rfl rfl ?_
  refine r_cVi (pc := 7) (T := F_12) (N := 73) (st := [.int rq1]) (ok_M_chirpsOf hn a2 hq2) (fun s => Std.k s (lc hn rfl) kq_383) rfl w_1494 w_13 w_1491 w_1493 ws_78 hy_M_chirpsOf ⟨Nat.le_of_ble_eq_true rfl, Nat.le_of_ble_eq_true rfl⟩ ⟨Nat.le_of_ble_eq_true rfl, Nat.le_of_ble_eq_true rfl⟩ rfl (Nat.le_of_ble_eq_true rfl) d_M_priceOf_7 (fun rq3 hq4 => ?_)
  refine r_iadd (pc := 10) d_M_priceOf_10 ?_
  refine r_iconst (pc := 11) (v := 2) d_M_priceOf_11 (by rfl) ?_
  refine r_idivC (pc := 12) (by decide) d_M_priceOf_12 ?_
  exact r_iret (pc := 13) rfl d_M_priceOf_13

def f_M_eat_b70  (a1 : Int32)  (v1 : Int32) (v2 : Int32) (v3 : Int32) (h : AH) : Option AH :=
  gx v1 35 <|
  lt (sI h 406 (ix v1) (v2 + v3)) fun hq2 =>
  gx ((18 : Int32) + a1) 35 <|
  if (99 : Int32) ≤ (hI hq2 406 (ix ((18 : Int32) + a1))) then
    some hq2
  else
    lt ((18 : Int32) + a1) fun xq4 =>
    gx xq4 35 <|
    gx xq4 35 <|
    lt (sI hq2 406 (ix xq4) ((hI hq2 406 (ix xq4)) + (1 : Int32))) fun hq7 =>
    some hq7
set_option maxHeartbeats 2000000 in
theorem o_M_eat_b70 {G : AE} {n : Nat} (hn : NN ≤ n)  {a1 : Int32}   : ∀ (v1 : Int32) (v2 : Int32) (v3 : Int32) (h : AH), AJ G n y_M_eat (1) φV 70 [some (.ref 383), some (.int a1), none] [.int v3, .int v2, .int v1, .ref 406] h (f_M_eat_b70 a1 v1 v2 v3 h) := by
  intro v1 v2 v3 h
  rw [f_M_eat_b70]
  refine r_iadd (pc := 70) d_M_eat_70 ?_
  refine r_gx (fun zq1 => ?_)
  refine r_iast (pc := 71) (n := 35) (i0 := (ix v1)) (fun s => Std.k s (lc hn rfl) kq_406) zq1 rfl (fun s => Std.sI s _ _ _) d_M_eat_71 ?_
  refine r_ltH (fun hq2 => ?_)
  refine r_aload_n (pc := 72) (i := 0) d_M_eat_72 rfl rfl ?_
  refine r_getf (pc := 73) (ci := 12) (k := 51) (C := "CricketHayModel") (T := F_12) (N := 73) (v := .ref 406) (fun s => Std.k s (lc hn rfl) kq_383) rfl (Nat.le_of_ble_eq_true rfl) rfl w_1137 (fun s => vr rfl (Std.r s (lc hn rfl) rq_383_51)) d_M_eat_73 ?_
  refine r_bipush (pc := 76) (v := 18) d_M_eat_76 (by rfl) ?_
  refine r_iload_n (pc := 78) (i := 1) d_M_eat_78 rfl rfl ?_
  refine r_iadd (pc := 79) d_M_eat_79 ?_
  refine r_gx (fun zq3 => ?_)
  refine r_iald (pc := 80) (n := 35) (i0 := (ix ((18 : Int32) + a1))) (fun s => Std.k s (lc hn rfl) kq_406) zq3 rfl d_M_eat_80 ?_
  refine r_bipush (pc := 81) (v := 99) d_M_eat_81 (by rfl) ?_
  refine r_icmp_ge (pc := 83) (tgt := 99) d_M_eat_83 (by rfl) ?_ ?_
  · exact r_vret (pc := 99) rfl d_M_eat_99
  · refine r_aload_n (pc := 86) (i := 0) d_M_eat_86 rfl rfl ?_
    refine r_getf (pc := 87) (ci := 12) (k := 51) (C := "CricketHayModel") (T := F_12) (N := 73) (v := .ref 406) (fun s => Std.k s (lc hn rfl) kq_383) rfl (Nat.le_of_ble_eq_true rfl) rfl w_1137 (fun s => vr rfl (Std.r s (lc hn rfl) rq_383_51)) d_M_eat_87 ?_
    refine r_bipush (pc := 90) (v := 18) d_M_eat_90 (by rfl) ?_
    refine r_iload_n (pc := 92) (i := 1) d_M_eat_92 rfl rfl ?_
    refine r_iadd (pc := 93) d_M_eat_93 ?_
    refine r_ltI (fun xq4 => ?_)
    refine r_dup2 (pc := 94) d_M_eat_94 rfl rfl ?_
    refine r_gx (fun zq5 => ?_)
    refine r_iald (pc := 95) (n := 35) (i0 := (ix xq4)) (fun s => Std.k s (lc hn rfl) kq_406) zq5 rfl d_M_eat_95 ?_
    refine r_iconst (pc := 96) (v := 1) d_M_eat_96 (by rfl) ?_
    refine r_iadd (pc := 97) d_M_eat_97 ?_
    refine r_gx (fun zq6 => ?_)
    refine r_iast (pc := 98) (n := 35) (i0 := (ix xq4)) (fun s => Std.k s (lc hn rfl) kq_406) zq6 rfl (fun s => Std.sI s _ _ _) d_M_eat_98 ?_
    refine r_ltH (fun hq7 => ?_)
    exact r_vret (pc := 99) rfl d_M_eat_99
def f_M_eat_b49  (a1 : Int32)  (x2 : Int32) (v1 : Int32) (v2 : Int32) (v3 : Int32) (h : AH) : Option AH :=
  gx v1 35 <|
  lt (sI h 406 (ix v1) (v2 - v3)) fun hq2 =>
  lt ((12 : Int32) + a1) fun xq3 =>
  gx xq3 35 <|
  if x2 ≤ 0 then
    f_M_eat_b70 a1 xq3 (hI hq2 406 (ix xq3)) (0 : Int32) hq2
  else
    f_M_eat_b70 a1 xq3 (hI hq2 406 (ix xq3)) x2 hq2
set_option maxHeartbeats 2000000 in
theorem o_M_eat_b49 {G : AE} {n : Nat} (hn : NN ≤ n)  {a1 : Int32}   : ∀ (x2 : Int32) (v1 : Int32) (v2 : Int32) (v3 : Int32) (h : AH), AJ G n y_M_eat (1) φV 49 [some (.ref 383), some (.int a1), some (.int x2)] [.int v3, .int v2, .int v1, .ref 406] h (f_M_eat_b49 a1 x2 v1 v2 v3 h) := by
  intro x2 v1 v2 v3 h
  rw [f_M_eat_b49]
  refine r_isub (pc := 49) d_M_eat_49 ?_
  refine r_gx (fun zq1 => ?_)
  refine r_iast (pc := 50) (n := 35) (i0 := (ix v1)) (fun s => Std.k s (lc hn rfl) kq_406) zq1 rfl (fun s => Std.sI s _ _ _) d_M_eat_50 ?_
  refine r_ltH (fun hq2 => ?_)
  refine r_aload_n (pc := 51) (i := 0) d_M_eat_51 rfl rfl ?_
  refine r_getf (pc := 52) (ci := 12) (k := 51) (C := "CricketHayModel") (T := F_12) (N := 73) (v := .ref 406) (fun s => Std.k s (lc hn rfl) kq_383) rfl (Nat.le_of_ble_eq_true rfl) rfl w_1137 (fun s => vr rfl (Std.r s (lc hn rfl) rq_383_51)) d_M_eat_52 ?_
  refine r_bipush (pc := 55) (v := 12) d_M_eat_55 (by rfl) ?_
  refine r_iload_n (pc := 57) (i := 1) d_M_eat_57 rfl rfl ?_
  refine r_iadd (pc := 58) d_M_eat_58 ?_
  refine r_ltI (fun xq3 => ?_)
  refine r_dup2 (pc := 59) d_M_eat_59 rfl rfl ?_
  refine r_gx (fun zq4 => ?_)
  refine r_iald (pc := 60) (n := 35) (i0 := (ix xq3)) (fun s => Std.k s (lc hn rfl) kq_406) zq4 rfl d_M_eat_60 ?_
  refine r_iload_n (pc := 61) (i := 2) d_M_eat_61 rfl rfl ?_
  refine r_if_le (pc := 62) (tgt := 69) d_M_eat_62 (by rfl) ?_ ?_
  · refine r_iconst (pc := 69) (v := 0) d_M_eat_69 (by rfl) ?_
    exact r_wk (o_M_eat_b70 hn xq3 (hI hq2 406 (ix xq3)) (0 : Int32) hq2) ⟨rfl, ⟨rfl, trivial⟩⟩
  · refine r_iload_n (pc := 65) (i := 2) d_M_eat_65 rfl rfl ?_
    refine r_goto (pc := 66) (tgt := 70) d_M_eat_66 (by rfl) ?_
    exact r_wk (o_M_eat_b70 hn xq3 (hI hq2 406 (ix xq3)) x2 hq2) ⟨rfl, ⟨rfl, trivial⟩⟩
def f_M_eat  (a1 : Int32) (h : AH) : Option AH :=
  gx a1 6 <|
  gx ((6 : Int32) + a1) 35 <|
  lt ((hI h 404 (ix a1)) - (hI h 406 (ix ((6 : Int32) + a1)))) fun xq3 =>
  lt ((6 : Int32) + a1) fun xq4 =>
  gx xq4 35 <|
  if xq3 ≤ 0 then
    gx a1 6 <|
    f_M_eat_b49 a1 xq3 xq4 (hI h 406 (ix xq4)) (hI h 404 (ix a1)) h
  else
    gx ((6 : Int32) + a1) 35 <|
    f_M_eat_b49 a1 xq3 xq4 (hI h 406 (ix xq4)) (hI h 406 (ix ((6 : Int32) + a1))) h
set_option maxHeartbeats 2000000 in
theorem ok_M_eat {G : AE} {n : Nat} (hn : NN ≤ n)  (a1 : Int32) (h : AH) : OK G n y_M_eat (1) φV [.ref 383, .int a1] h (f_M_eat a1 h) := by
  refine ok_of (y := y_M_eat) (lv0 := [some (.ref 383), some (.int a1), none]) (by decide +kernel) (Nat.le_of_ble_eq_true rfl) ⟨rfl, ⟨rfl, trivial⟩⟩ ?_
  rw [f_M_eat]
  refine r_aload_n (pc := 0) (i := 0) d_M_eat_0 rfl rfl ?_
  refine r_getf (pc := 1) (ci := 12) (k := 35) (C := "CricketHayModel") (T := F_12) (N := 73) (v := .ref 404) (fun s => Std.k s (lc hn rfl) kq_383) rfl (Nat.le_of_ble_eq_true rfl) rfl w_1121 (fun s => vr rfl (Std.r s (lc hn rfl) rq_383_35)) d_M_eat_1 ?_
  refine r_iload_n (pc := 4) (i := 1) d_M_eat_4 rfl rfl ?_
  refine r_gx (fun zq1 => ?_)
  refine r_iald (pc := 5) (n := 6) (i0 := (ix a1)) (fun s => Std.k s (lc hn rfl) kq_404) zq1 rfl d_M_eat_5 ?_
  refine r_aload_n (pc := 6) (i := 0) d_M_eat_6 rfl rfl ?_
  refine r_getf (pc := 7) (ci := 12) (k := 51) (C := "CricketHayModel") (T := F_12) (N := 73) (v := .ref 406) (fun s => Std.k s (lc hn rfl) kq_383) rfl (Nat.le_of_ble_eq_true rfl) rfl w_1137 (fun s => vr rfl (Std.r s (lc hn rfl) rq_383_51)) d_M_eat_7 ?_
  refine r_bipush (pc := 10) (v := 6) d_M_eat_10 (by rfl) ?_
  refine r_iload_n (pc := 12) (i := 1) d_M_eat_12 rfl rfl ?_
  refine r_iadd (pc := 13) d_M_eat_13 ?_
  refine r_gx (fun zq2 => ?_)
  refine r_iald (pc := 14) (n := 35) (i0 := (ix ((6 : Int32) + a1))) (fun s => Std.k s (lc hn rfl) kq_406) zq2 rfl d_M_eat_14 ?_
  refine r_isub (pc := 15) d_M_eat_15 ?_
  refine r_ltI (fun xq3 => ?_)
  refine r_istore_n (pc := 16) (i := 2) (lv1 := [some (.ref 383), some (.int a1), some (.int xq3)]) d_M_eat_16 rfl (Nat.le_of_ble_eq_true rfl) rfl ?_
  refine r_aload_n (pc := 17) (i := 0) d_M_eat_17 rfl rfl ?_
  refine r_getf (pc := 18) (ci := 12) (k := 51) (C := "CricketHayModel") (T := F_12) (N := 73) (v := .ref 406) (fun s => Std.k s (lc hn rfl) kq_383) rfl (Nat.le_of_ble_eq_true rfl) rfl w_1137 (fun s => vr rfl (Std.r s (lc hn rfl) rq_383_51)) d_M_eat_18 ?_
  refine r_bipush (pc := 21) (v := 6) d_M_eat_21 (by rfl) ?_
  refine r_iload_n (pc := 23) (i := 1) d_M_eat_23 rfl rfl ?_
  refine r_iadd (pc := 24) d_M_eat_24 ?_
  refine r_ltI (fun xq4 => ?_)
  refine r_dup2 (pc := 25) d_M_eat_25 rfl rfl ?_
  refine r_gx (fun zq5 => ?_)
  refine r_iald (pc := 26) (n := 35) (i0 := (ix xq4)) (fun s => Std.k s (lc hn rfl) kq_406) zq5 rfl d_M_eat_26 ?_
  refine r_iload_n (pc := 27) (i := 2) d_M_eat_27 rfl rfl ?_
  refine r_if_le (pc := 28) (tgt := 43) d_M_eat_28 (by rfl) ?_ ?_
  · refine r_aload_n (pc := 43) (i := 0) d_M_eat_43 rfl rfl ?_
    refine r_getf (pc := 44) (ci := 12) (k := 35) (C := "CricketHayModel") (T := F_12) (N := 73) (v := .ref 404) (fun s => Std.k s (lc hn rfl) kq_383) rfl (Nat.le_of_ble_eq_true rfl) rfl w_1121 (fun s => vr rfl (Std.r s (lc hn rfl) rq_383_35)) d_M_eat_44 ?_
    refine r_iload_n (pc := 47) (i := 1) d_M_eat_47 rfl rfl ?_
    refine r_gx (fun zq6 => ?_)
    refine r_iald (pc := 48) (n := 6) (i0 := (ix a1)) (fun s => Std.k s (lc hn rfl) kq_404) zq6 rfl d_M_eat_48 ?_
    exact r_wk (o_M_eat_b49 hn xq3 xq4 (hI h 406 (ix xq4)) (hI h 404 (ix a1)) h) ⟨rfl, ⟨rfl, ⟨rfl, trivial⟩⟩⟩
  · refine r_aload_n (pc := 31) (i := 0) d_M_eat_31 rfl rfl ?_
    refine r_getf (pc := 32) (ci := 12) (k := 51) (C := "CricketHayModel") (T := F_12) (N := 73) (v := .ref 406) (fun s => Std.k s (lc hn rfl) kq_383) rfl (Nat.le_of_ble_eq_true rfl) rfl w_1137 (fun s => vr rfl (Std.r s (lc hn rfl) rq_383_51)) d_M_eat_32 ?_
    refine r_bipush (pc := 35) (v := 6) d_M_eat_35 (by rfl) ?_
    refine r_iload_n (pc := 37) (i := 1) d_M_eat_37 rfl rfl ?_
    refine r_iadd (pc := 38) d_M_eat_38 ?_
    refine r_gx (fun zq7 => ?_)
    refine r_iald (pc := 39) (n := 35) (i0 := (ix ((6 : Int32) + a1))) (fun s => Std.k s (lc hn rfl) kq_406) zq7 rfl d_M_eat_39 ?_
    refine r_goto (pc := 40) (tgt := 49) d_M_eat_40 (by rfl) ?_
    exact r_wk (o_M_eat_b49 hn xq3 xq4 (hI h 406 (ix xq4)) (hI h 406 (ix ((6 : Int32) + a1))) h) ⟨rfl, ⟨rfl, ⟨rfl, trivial⟩⟩⟩

def f_M_pass_l120  (a1 : Int32)  : Nat → Int32 → AH → Option AH
  | 0, _, _ => none
  | n + 1, x2, h =>
    if (hI h 383 43) ≤ x2 then
      some h
    else
      bV (f_M_eat x2 h) fun hq1 =>
      lt (x2 + (1 : Int32)) fun xq2 =>
      f_M_pass_l120 a1 n xq2 hq1
set_option maxHeartbeats 2000000 in
theorem o_M_pass_l120 {G : AE} {n : Nat} (hn : NN ≤ n)  {a1 : Int32}   : ∀ (n0 : Nat) (x2 : Int32) (h : AH), AJ G n y_M_pass (2) φV 120 [some (.ref 383), none, some (.int x2)] [] h (f_M_pass_l120 a1 n0 x2 h) := by
  intro n0
  induction n0 with
  | zero => intros; exact r_none
  | succ n0 ih =>
    intro x2 h
    rw [f_M_pass_l120]
    refine r_iload_n (pc := 120) (i := 2) d_M_pass_120 rfl rfl ?_
    refine r_aload_n (pc := 121) (i := 0) d_M_pass_121 rfl rfl ?_
    refine r_getf (pc := 122) (ci := 12) (k := 43) (C := "CricketHayModel") (T := F_12) (N := 73) (v := .int (hI h 383 43)) (fun s => Std.k s (lc hn rfl) kq_383) rfl (Nat.le_of_ble_eq_true rfl) rfl w_1129 (fun _ => rfl) d_M_pass_122 ?_
    refine r_icmp_ge (pc := 125) (tgt := 139) d_M_pass_125 (by rfl) ?_ ?_
    · exact r_vret (pc := 139) rfl d_M_pass_139
    · refine r_aload_n (pc := 128) (i := 0) d_M_pass_128 rfl rfl ?_
      refine r_iload_n (pc := 129) (i := 2) d_M_pass_129 rfl rfl ?_
      refine r_cVv (pc := 130) (T := F_12) (N := 73) (st := []) (ok_M_eat hn x2 h) (fun s => Std.k s (lc hn rfl) kq_383) rfl w_1588 w_13 w_1585 w_1587 ws_91 hy_M_eat ⟨Nat.le_of_ble_eq_true rfl, Nat.le_of_ble_eq_true rfl⟩ ⟨Nat.le_of_ble_eq_true rfl, Nat.le_of_ble_eq_true rfl⟩ rfl (Nat.le_of_ble_eq_true rfl) d_M_pass_130 (fun hq1 => ?_)
      refine r_ltE (fun xq2 exq2 => ?_)
      refine r_iinc (pc := 133) (v := xq2) (lv1 := [some (.ref 383), none, some (.int xq2)]) d_M_pass_133 rfl exq2.symm (Nat.le_of_ble_eq_true rfl) rfl ?_
      refine r_goto (pc := 136) (tgt := 120) d_M_pass_136 (by rfl) ?_
      exact r_wk (ih xq2 hq1) ⟨rfl, ⟨rfl, trivial⟩⟩
def f_M_pass_l51  (a1 : Int32)  : Nat → Int32 → AH → Option AH
  | 0, _, _ => none
  | n + 1, x2, h =>
    if (hI h 383 43) ≤ x2 then
      lt (sI h 406 32 ((hI h 406 32) + (1 : Int32))) fun hq1 =>
      if (24 : Int32) ≤ (hI hq1 406 32) then
        lt (sI hq1 406 32 (0 : Int32)) fun hq2 =>
        lt (sI hq2 406 33 ((hI hq2 406 33) + (1 : Int32))) fun hq3 =>
        f_M_pass_l120 a1 FU (0 : Int32) hq3
      else
        some hq1
    else
      gx ((24 : Int32) + x2) 35 <|
      lt (sI h 406 (ix ((24 : Int32) + x2)) (0 : Int32)) fun hq5 =>
      lt (x2 + (1 : Int32)) fun xq6 =>
      f_M_pass_l51 a1 n xq6 hq5
set_option maxHeartbeats 2000000 in
theorem o_M_pass_l51 {G : AE} {n : Nat} (hn : NN ≤ n)  {a1 : Int32}   : ∀ (n0 : Nat) (x2 : Int32) (h : AH), AJ G n y_M_pass (2) φV 51 [some (.ref 383), none, some (.int x2)] [] h (f_M_pass_l51 a1 n0 x2 h) := by
  intro n0
  induction n0 with
  | zero => intros; exact r_none
  | succ n0 ih =>
    intro x2 h
    rw [f_M_pass_l51]
    refine r_iload_n (pc := 51) (i := 2) d_M_pass_51 rfl rfl ?_
    refine r_aload_n (pc := 52) (i := 0) d_M_pass_52 rfl rfl ?_
    refine r_getf (pc := 53) (ci := 12) (k := 43) (C := "CricketHayModel") (T := F_12) (N := 73) (v := .int (hI h 383 43)) (fun s => Std.k s (lc hn rfl) kq_383) rfl (Nat.le_of_ble_eq_true rfl) rfl w_1129 (fun _ => rfl) d_M_pass_53 ?_
    refine r_icmp_ge (pc := 56) (tgt := 75) d_M_pass_56 (by rfl) ?_ ?_
    · refine r_aload_n (pc := 75) (i := 0) d_M_pass_75 rfl rfl ?_
      refine r_getf (pc := 76) (ci := 12) (k := 51) (C := "CricketHayModel") (T := F_12) (N := 73) (v := .ref 406) (fun s => Std.k s (lc hn rfl) kq_383) rfl (Nat.le_of_ble_eq_true rfl) rfl w_1137 (fun s => vr rfl (Std.r s (lc hn rfl) rq_383_51)) d_M_pass_76 ?_
      refine r_bipush (pc := 79) (v := 32) d_M_pass_79 (by rfl) ?_
      refine r_dup2 (pc := 81) d_M_pass_81 rfl rfl ?_
      refine r_iald (pc := 82) (n := 35) (i0 := 32) (fun s => Std.k s (lc hn rfl) kq_406) (vin (k := 32) rfl rfl) rfl d_M_pass_82 ?_
      refine r_iconst (pc := 83) (v := 1) d_M_pass_83 (by rfl) ?_
      refine r_iadd (pc := 84) d_M_pass_84 ?_
      refine r_iast (pc := 85) (n := 35) (i0 := 32) (fun s => Std.k s (lc hn rfl) kq_406) (vin (k := 32) rfl rfl) rfl (fun s => Std.sI s _ _ _) d_M_pass_85 ?_
      refine r_ltH (fun hq1 => ?_)
      refine r_aload_n (pc := 86) (i := 0) d_M_pass_86 rfl rfl ?_
      refine r_getf (pc := 87) (ci := 12) (k := 51) (C := "CricketHayModel") (T := F_12) (N := 73) (v := .ref 406) (fun s => Std.k s (lc hn rfl) kq_383) rfl (Nat.le_of_ble_eq_true rfl) rfl w_1137 (fun s => vr rfl (Std.r s (lc hn rfl) rq_383_51)) d_M_pass_87 ?_
      refine r_bipush (pc := 90) (v := 32) d_M_pass_90 (by rfl) ?_
      refine r_iald (pc := 92) (n := 35) (i0 := 32) (fun s => Std.k s (lc hn rfl) kq_406) (vin (k := 32) rfl rfl) rfl d_M_pass_92 ?_
      refine r_bipush (pc := 93) (v := 24) d_M_pass_93 (by rfl) ?_
      refine r_icmp_ge (pc := 95) (tgt := 99) d_M_pass_95 (by rfl) ?_ ?_
      · refine r_aload_n (pc := 99) (i := 0) d_M_pass_99 rfl rfl ?_
        refine r_getf (pc := 100) (ci := 12) (k := 51) (C := "CricketHayModel") (T := F_12) (N := 73) (v := .ref 406) (fun s => Std.k s (lc hn rfl) kq_383) rfl (Nat.le_of_ble_eq_true rfl) rfl w_1137 (fun s => vr rfl (Std.r s (lc hn rfl) rq_383_51)) d_M_pass_100 ?_
        refine r_bipush (pc := 103) (v := 32) d_M_pass_103 (by rfl) ?_
        refine r_iconst (pc := 105) (v := 0) d_M_pass_105 (by rfl) ?_
        refine r_iast (pc := 106) (n := 35) (i0 := 32) (fun s => Std.k s (lc hn rfl) kq_406) (vin (k := 32) rfl rfl) rfl (fun s => Std.sI s _ _ _) d_M_pass_106 ?_
        refine r_ltH (fun hq2 => ?_)
        refine r_aload_n (pc := 107) (i := 0) d_M_pass_107 rfl rfl ?_
        refine r_getf (pc := 108) (ci := 12) (k := 51) (C := "CricketHayModel") (T := F_12) (N := 73) (v := .ref 406) (fun s => Std.k s (lc hn rfl) kq_383) rfl (Nat.le_of_ble_eq_true rfl) rfl w_1137 (fun s => vr rfl (Std.r s (lc hn rfl) rq_383_51)) d_M_pass_108 ?_
        refine r_bipush (pc := 111) (v := 33) d_M_pass_111 (by rfl) ?_
        refine r_dup2 (pc := 113) d_M_pass_113 rfl rfl ?_
        refine r_iald (pc := 114) (n := 35) (i0 := 33) (fun s => Std.k s (lc hn rfl) kq_406) (vin (k := 33) rfl rfl) rfl d_M_pass_114 ?_
        refine r_iconst (pc := 115) (v := 1) d_M_pass_115 (by rfl) ?_
        refine r_iadd (pc := 116) d_M_pass_116 ?_
        refine r_iast (pc := 117) (n := 35) (i0 := 33) (fun s => Std.k s (lc hn rfl) kq_406) (vin (k := 33) rfl rfl) rfl (fun s => Std.sI s _ _ _) d_M_pass_117 ?_
        refine r_ltH (fun hq3 => ?_)
        refine r_iconst (pc := 118) (v := 0) d_M_pass_118 (by rfl) ?_
        refine r_istore_n (pc := 119) (i := 2) (lv1 := [some (.ref 383), none, some (.int (0 : Int32))]) d_M_pass_119 rfl (Nat.le_of_ble_eq_true rfl) rfl ?_
        exact r_wk (o_M_pass_l120 hn FU (0 : Int32) hq3) ⟨rfl, ⟨rfl, trivial⟩⟩
      · exact r_vret (pc := 98) rfl d_M_pass_98
    · refine r_aload_n (pc := 59) (i := 0) d_M_pass_59 rfl rfl ?_
      refine r_getf (pc := 60) (ci := 12) (k := 51) (C := "CricketHayModel") (T := F_12) (N := 73) (v := .ref 406) (fun s => Std.k s (lc hn rfl) kq_383) rfl (Nat.le_of_ble_eq_true rfl) rfl w_1137 (fun s => vr rfl (Std.r s (lc hn rfl) rq_383_51)) d_M_pass_60 ?_
      refine r_bipush (pc := 63) (v := 24) d_M_pass_63 (by rfl) ?_
      refine r_iload_n (pc := 65) (i := 2) d_M_pass_65 rfl rfl ?_
      refine r_iadd (pc := 66) d_M_pass_66 ?_
      refine r_iconst (pc := 67) (v := 0) d_M_pass_67 (by rfl) ?_
      refine r_gx (fun zq4 => ?_)
      refine r_iast (pc := 68) (n := 35) (i0 := (ix ((24 : Int32) + x2))) (fun s => Std.k s (lc hn rfl) kq_406) zq4 rfl (fun s => Std.sI s _ _ _) d_M_pass_68 ?_
      refine r_ltH (fun hq5 => ?_)
      refine r_ltE (fun xq6 exq6 => ?_)
      refine r_iinc (pc := 69) (v := xq6) (lv1 := [some (.ref 383), none, some (.int xq6)]) d_M_pass_69 rfl exq6.symm (Nat.le_of_ble_eq_true rfl) rfl ?_
      refine r_goto (pc := 72) (tgt := 51) d_M_pass_72 (by rfl) ?_
      exact r_wk (ih xq6 hq5) ⟨rfl, ⟨rfl, trivial⟩⟩
def f_M_pass_b49  (a1 : Int32)   (h : AH) : Option AH :=
  f_M_pass_l51 a1 FU (0 : Int32) h
set_option maxHeartbeats 2000000 in
theorem o_M_pass_b49 {G : AE} {n : Nat} (hn : NN ≤ n)  {a1 : Int32}   : ∀  (h : AH), AJ G n y_M_pass (2) φV 49 [some (.ref 383), none, none] [] h (f_M_pass_b49 a1 h) := by
  intro  h
  rw [f_M_pass_b49]
  refine r_iconst (pc := 49) (v := 0) d_M_pass_49 (by rfl) ?_
  refine r_istore_n (pc := 50) (i := 2) (lv1 := [some (.ref 383), none, some (.int (0 : Int32))]) d_M_pass_50 rfl (Nat.le_of_ble_eq_true rfl) rfl ?_
  exact r_wk (o_M_pass_l51 hn FU (0 : Int32) h) ⟨rfl, ⟨rfl, trivial⟩⟩
def f_M_pass_b21  (a1 : Int32)   (h : AH) : Option AH :=
  if a1 = 0 then
    f_M_pass_b49 a1 h
  else
    bI (f_M_within ((hI h 406 31) + (hI h 383 45)) (40 : Int32) h) fun rq1 hq2 =>
    lt (sI hq2 406 31 rq1) fun hq3 =>
    f_M_pass_b49 a1 hq3
set_option maxHeartbeats 2000000 in
theorem o_M_pass_b21 {G : AE} {n : Nat} (hn : NN ≤ n)  {a1 : Int32}   : ∀  (h : AH), AJ G n y_M_pass (2) φV 21 [some (.ref 383), some (.int a1), none] [] h (f_M_pass_b21 a1 h) := by
  intro  h
  rw [f_M_pass_b21]
  refine r_iload_n (pc := 21) (i := 1) d_M_pass_21 rfl rfl ?_
  refine r_if_eq (pc := 22) (tgt := 49) d_M_pass_22 (by rfl) ?_ ?_
  · exact r_wk (o_M_pass_b49 hn h) ⟨rfl, trivial⟩
  · refine r_aload_n (pc := 25) (i := 0) d_M_pass_25 rfl rfl ?_
    refine r_getf (pc := 26) (ci := 12) (k := 51) (C := "CricketHayModel") (T := F_12) (N := 73) (v := .ref 406) (fun s => Std.k s (lc hn rfl) kq_383) rfl (Nat.le_of_ble_eq_true rfl) rfl w_1137 (fun s => vr rfl (Std.r s (lc hn rfl) rq_383_51)) d_M_pass_26 ?_
    refine r_bipush (pc := 29) (v := 31) d_M_pass_29 (by rfl) ?_
    refine r_aload_n (pc := 31) (i := 0) d_M_pass_31 rfl rfl ?_
    refine r_getf (pc := 32) (ci := 12) (k := 51) (C := "CricketHayModel") (T := F_12) (N := 73) (v := .ref 406) (fun s => Std.k s (lc hn rfl) kq_383) rfl (Nat.le_of_ble_eq_true rfl) rfl w_1137 (fun s => vr rfl (Std.r s (lc hn rfl) rq_383_51)) d_M_pass_32 ?_
    refine r_bipush (pc := 35) (v := 31) d_M_pass_35 (by rfl) ?_
    refine r_iald (pc := 37) (n := 35) (i0 := 31) (fun s => Std.k s (lc hn rfl) kq_406) (vin (k := 31) rfl rfl) rfl d_M_pass_37 ?_
    refine r_aload_n (pc := 38) (i := 0) d_M_pass_38 rfl rfl ?_
    refine r_getf (pc := 39) (ci := 12) (k := 45) (C := "CricketHayModel") (T := F_12) (N := 73) (v := .int (hI h 383 45)) (fun s => Std.k s (lc hn rfl) kq_383) rfl (Nat.le_of_ble_eq_true rfl) rfl w_1131 (fun _ => rfl) d_M_pass_39 ?_
    refine r_iadd (pc := 42) d_M_pass_42 ?_
    refine r_bipush (pc := 43) (v := 40) d_M_pass_43 (by rfl) ?_
    refine r_cSi (pc := 45) (st := [.int (31 : Int32), .ref 406]) (ok_M_within hn ((hI h 406 31) + (hI h 383 45)) (40 : Int32) h) w_1512 w_13 w_1510 w_1511 hy_M_within ⟨Nat.le_of_ble_eq_true rfl, Nat.le_of_ble_eq_true rfl⟩ ⟨Nat.le_of_ble_eq_true rfl, Nat.le_of_ble_eq_true rfl⟩ rfl (Nat.le_of_ble_eq_true rfl) d_M_pass_45 (fun rq1 hq2 => ?_)
    refine r_iast (pc := 48) (n := 35) (i0 := 31) (fun s => Std.k s (lc hn rfl) kq_406) (vin (k := 31) rfl rfl) rfl (fun s => Std.sI s _ _ _) d_M_pass_48 ?_
    refine r_ltH (fun hq3 => ?_)
    exact r_wk (o_M_pass_b49 hn hq3) ⟨rfl, trivial⟩
def f_M_pass  (a1 : Int32) (h : AH) : Option AH :=
  if (hI h 406 31) ≤ 0 then
    f_M_pass_b21 a1 h
  else
    lt (sI h 406 31 ((hI h 406 31) - (1 : Int32))) fun hq1 =>
    f_M_pass_b21 a1 hq1
set_option maxHeartbeats 2000000 in
theorem ok_M_pass {G : AE} {n : Nat} (hn : NN ≤ n)  (a1 : Int32) (h : AH) : OK G n y_M_pass (2) φV [.ref 383, .int a1] h (f_M_pass a1 h) := by
  refine ok_of (y := y_M_pass) (lv0 := [some (.ref 383), some (.int a1), none]) (by decide +kernel) (Nat.le_of_ble_eq_true rfl) ⟨rfl, ⟨rfl, trivial⟩⟩ ?_
  rw [f_M_pass]
  refine r_aload_n (pc := 0) (i := 0) d_M_pass_0 rfl rfl ?_
  refine r_getf (pc := 1) (ci := 12) (k := 51) (C := "CricketHayModel") (T := F_12) (N := 73) (v := .ref 406) (fun s => Std.k s (lc hn rfl) kq_383) rfl (Nat.le_of_ble_eq_true rfl) rfl w_1137 (fun s => vr rfl (Std.r s (lc hn rfl) rq_383_51)) d_M_pass_1 ?_
  refine r_bipush (pc := 4) (v := 31) d_M_pass_4 (by rfl) ?_
  refine r_iald (pc := 6) (n := 35) (i0 := 31) (fun s => Std.k s (lc hn rfl) kq_406) (vin (k := 31) rfl rfl) rfl d_M_pass_6 ?_
  refine r_if_le (pc := 7) (tgt := 21) d_M_pass_7 (by rfl) ?_ ?_
  · exact r_wk (o_M_pass_b21 hn h) ⟨rfl, ⟨rfl, trivial⟩⟩
  · refine r_aload_n (pc := 10) (i := 0) d_M_pass_10 rfl rfl ?_
    refine r_getf (pc := 11) (ci := 12) (k := 51) (C := "CricketHayModel") (T := F_12) (N := 73) (v := .ref 406) (fun s => Std.k s (lc hn rfl) kq_383) rfl (Nat.le_of_ble_eq_true rfl) rfl w_1137 (fun s => vr rfl (Std.r s (lc hn rfl) rq_383_51)) d_M_pass_11 ?_
    refine r_bipush (pc := 14) (v := 31) d_M_pass_14 (by rfl) ?_
    refine r_dup2 (pc := 16) d_M_pass_16 rfl rfl ?_
    refine r_iald (pc := 17) (n := 35) (i0 := 31) (fun s => Std.k s (lc hn rfl) kq_406) (vin (k := 31) rfl rfl) rfl d_M_pass_17 ?_
    refine r_iconst (pc := 18) (v := 1) d_M_pass_18 (by rfl) ?_
    refine r_isub (pc := 19) d_M_pass_19 ?_
    refine r_iast (pc := 20) (n := 35) (i0 := 31) (fun s => Std.k s (lc hn rfl) kq_406) (vin (k := 31) rfl rfl) rfl (fun s => Std.sI s _ _ _) d_M_pass_20 ?_
    refine r_ltH (fun hq1 => ?_)
    exact r_wk (o_M_pass_b21 hn hq1) ⟨rfl, ⟨rfl, trivial⟩⟩

def f_M_goHour_b48    (v1 : Int32) (h : AH) : Option AH :=
  bV (f_M_pass v1 h) fun hq1 =>
  some hq1
set_option maxHeartbeats 2000000 in
theorem o_M_goHour_b48 {G : AE} {n : Nat} (hn : NN ≤ n)     : ∀ (v1 : Int32) (h : AH), AJ G n y_M_goHour (3) φV 48 [none] [.int v1, .ref 383] h (f_M_goHour_b48 v1 h) := by
  intro v1 h
  rw [f_M_goHour_b48]
  refine r_cVv (pc := 48) (T := F_12) (N := 73) (st := []) (ok_M_pass hn v1 h) (fun s => Std.k s (lc hn rfl) kq_383) rfl w_1584 w_13 w_1581 w_1583 ws_90 hy_M_pass ⟨Nat.le_of_ble_eq_true rfl, Nat.le_of_ble_eq_true rfl⟩ ⟨Nat.le_of_ble_eq_true rfl, Nat.le_of_ble_eq_true rfl⟩ rfl (Nat.le_of_ble_eq_true rfl) d_M_goHour_48 (fun hq1 => ?_)
  exact r_vret (pc := 51) rfl d_M_goHour_51
def f_M_goHour   (h : AH) : Option AH :=
  lt (sI h 406 34 ((((hI h 406 34) * (137 : Int32)) + (71 : Int32)) - (((hI h 406 34) * (137 : Int32)) + (71 : Int32)) / (1000 : Int32) * (1000 : Int32))) fun hq1 =>
  if (hI hq1 383 44) ≤ ((hI hq1 406 34) - (hI hq1 406 34) / (100 : Int32) * (100 : Int32)) then
    f_M_goHour_b48 (0 : Int32) hq1
  else
    f_M_goHour_b48 (1 : Int32) hq1
set_option maxHeartbeats 2000000 in
theorem ok_M_goHour {G : AE} {n : Nat} (hn : NN ≤ n)   (h : AH) : OK G n y_M_goHour (3) φV [.ref 383] h (f_M_goHour h) := by
  refine ok_of (y := y_M_goHour) (lv0 := [some (.ref 383)]) (by decide +kernel) (Nat.le_of_ble_eq_true rfl) ⟨rfl, trivial⟩ ?_
  rw [f_M_goHour]
  refine r_aload_n (pc := 0) (i := 0) d_M_goHour_0 rfl rfl ?_
  refine r_getf (pc := 1) (ci := 12) (k := 51) (C := "CricketHayModel") (T := F_12) (N := 73) (v := .ref 406) (fun s => Std.k s (lc hn rfl) kq_383) rfl (Nat.le_of_ble_eq_true rfl) rfl w_1137 (fun s => vr rfl (Std.r s (lc hn rfl) rq_383_51)) d_M_goHour_1 ?_
  refine r_bipush (pc := 4) (v := 34) d_M_goHour_4 (by rfl) ?_
  refine r_aload_n (pc := 6) (i := 0) d_M_goHour_6 rfl rfl ?_
  refine r_getf (pc := 7) (ci := 12) (k := 51) (C := "CricketHayModel") (T := F_12) (N := 73) (v := .ref 406) (fun s => Std.k s (lc hn rfl) kq_383) rfl (Nat.le_of_ble_eq_true rfl) rfl w_1137 (fun s => vr rfl (Std.r s (lc hn rfl) rq_383_51)) d_M_goHour_7 ?_
  refine r_bipush (pc := 10) (v := 34) d_M_goHour_10 (by rfl) ?_
  refine r_iald (pc := 12) (n := 35) (i0 := 34) (fun s => Std.k s (lc hn rfl) kq_406) (vin (k := 34) rfl rfl) rfl d_M_goHour_12 ?_
  refine r_sipush (pc := 13) (v := 137) d_M_goHour_13 (by rfl) ?_
  refine r_imul (pc := 16) d_M_goHour_16 ?_
  refine r_bipush (pc := 17) (v := 71) d_M_goHour_17 (by rfl) ?_
  refine r_iadd (pc := 19) d_M_goHour_19 ?_
  refine r_sipush (pc := 20) (v := 1000) d_M_goHour_20 (by rfl) ?_
  refine r_iremC (pc := 23) (by decide) d_M_goHour_23 ?_
  refine r_iast (pc := 24) (n := 35) (i0 := 34) (fun s => Std.k s (lc hn rfl) kq_406) (vin (k := 34) rfl rfl) rfl (fun s => Std.sI s _ _ _) d_M_goHour_24 ?_
  refine r_ltH (fun hq1 => ?_)
  refine r_aload_n (pc := 25) (i := 0) d_M_goHour_25 rfl rfl ?_
  refine r_aload_n (pc := 26) (i := 0) d_M_goHour_26 rfl rfl ?_
  refine r_getf (pc := 27) (ci := 12) (k := 51) (C := "CricketHayModel") (T := F_12) (N := 73) (v := .ref 406) (fun s => Std.k s (lc hn rfl) kq_383) rfl (Nat.le_of_ble_eq_true rfl) rfl w_1137 (fun s => vr rfl (Std.r s (lc hn rfl) rq_383_51)) d_M_goHour_27 ?_
  refine r_bipush (pc := 30) (v := 34) d_M_goHour_30 (by rfl) ?_
  refine r_iald (pc := 32) (n := 35) (i0 := 34) (fun s => Std.k s (lc hn rfl) kq_406) (vin (k := 34) rfl rfl) rfl d_M_goHour_32 ?_
  refine r_bipush (pc := 33) (v := 100) d_M_goHour_33 (by rfl) ?_
  refine r_iremC (pc := 35) (by decide) d_M_goHour_35 ?_
  refine r_aload_n (pc := 36) (i := 0) d_M_goHour_36 rfl rfl ?_
  refine r_getf (pc := 37) (ci := 12) (k := 44) (C := "CricketHayModel") (T := F_12) (N := 73) (v := .int (hI hq1 383 44)) (fun s => Std.k s (lc hn rfl) kq_383) rfl (Nat.le_of_ble_eq_true rfl) rfl w_1130 (fun _ => rfl) d_M_goHour_37 ?_
  refine r_icmp_ge (pc := 40) (tgt := 47) d_M_goHour_40 (by rfl) ?_ ?_
  · refine r_iconst (pc := 47) (v := 0) d_M_goHour_47 (by rfl) ?_
    exact r_wk (o_M_goHour_b48 hn (0 : Int32) hq1) trivial
  · refine r_iconst (pc := 43) (v := 1) d_M_goHour_43 (by rfl) ?_
    refine r_goto (pc := 44) (tgt := 48) d_M_goHour_44 (by rfl) ?_
    exact r_wk (o_M_goHour_b48 hn (1 : Int32) hq1) trivial

def f_M_dealer  (a1 : Int32) (a2 : Int32) (h : AH) : Option (Int32 × AH) :=
  bI (f_M_isDealer a1 h) fun rq1 hq2 =>
  if ¬ rq1 = 0 then
    bV (f_M_load hq2) fun hq3 =>
    if a2 = (0 : Int32) then
      gx a1 35 <|
      some ((hI hq3 406 (ix a1)), hq3)
    else
    if a2 = (1 : Int32) then
      gx ((6 : Int32) + a1) 35 <|
      some ((hI hq3 406 (ix ((6 : Int32) + a1))), hq3)
    else
    if a2 = (2 : Int32) then
      gx a1 6 <|
      some ((hI hq3 404 (ix a1)), hq3)
    else
    if a2 = (3 : Int32) then
      gx ((12 : Int32) + a1) 35 <|
      some ((hI hq3 406 (ix ((12 : Int32) + a1))), hq3)
    else
    if a2 = (4 : Int32) then
      gx a1 6 <|
      some ((hI hq3 402 (ix a1)), hq3)
    else
    if a2 = (5 : Int32) then
      gx a1 6 <|
      some ((hI hq3 403 (ix a1)), hq3)
    else
    if a2 = (6 : Int32) then
      gx ((18 : Int32) + a1) 35 <|
      some ((hI hq3 406 (ix ((18 : Int32) + a1))), hq3)
    else
    if a2 = (7 : Int32) then
      gx ((24 : Int32) + a1) 35 <|
      some ((hI hq3 406 (ix ((24 : Int32) + a1))), hq3)
    else
    if a2 = (8 : Int32) then
      bI (f_M_isFree a1 hq3) fun rq21 hq22 =>
      bI (f_M_truth rq21 hq22) fun rq23 hq24 =>
      some (rq23, hq24)
    else
    if a2 = (9 : Int32) then
      bI (f_M_chirpsOf a1 hq3) fun rq26 hq27 =>
      some (rq26, hq27)
    else
    if a2 = (10 : Int32) then
      bI (f_M_matesOf a1 hq3) fun rq29 hq30 =>
      some (rq29, hq30)
    else
      some ((-100 : Int32), hq3)
  else
    some ((-100 : Int32), hq2)
set_option maxHeartbeats 2000000 in
theorem ok_M_dealer {G : AE} {n : Nat} (hn : NN ≤ n)  (a1 : Int32) (a2 : Int32) (h : AH) : OK G n y_M_dealer (6) φI [.ref 383, .int a1, .int a2] h (f_M_dealer a1 a2 h) := by
  refine ok_of (y := y_M_dealer) (lv0 := [some (.ref 383), some (.int a1), some (.int a2)]) (by decide +kernel) (Nat.le_of_ble_eq_true rfl) ⟨rfl, ⟨rfl, ⟨rfl, trivial⟩⟩⟩ ?_
  rw [f_M_dealer]
  refine r_aload_n (pc := 0) (i := 0) d_M_dealer_0 rfl rfl ?_
  refine r_iload_n (pc := 1) (i := 1) d_M_dealer_1 rfl rfl ?_
  refine r_cVi (pc := 2) (T := F_12) (N := 73) (st := []) (ok_M_isDealer hn a1 h) (fun s => Std.k s (lc hn rfl) kq_383) rfl w_1476 w_13 w_1473 w_1475 ws_75 hy_M_isDealer ⟨Nat.le_of_ble_eq_true rfl, Nat.le_of_ble_eq_true rfl⟩ ⟨Nat.le_of_ble_eq_true rfl, Nat.le_of_ble_eq_true rfl⟩ rfl (Nat.le_of_ble_eq_true rfl) d_M_dealer_2 (fun rq1 hq2 => ?_)
  refine r_if_ne (pc := 5) (tgt := 11) d_M_dealer_5 (by rfl) ?_ ?_
  · refine r_aload_n (pc := 11) (i := 0) d_M_dealer_11 rfl rfl ?_
    refine r_cVv (pc := 12) (T := F_12) (N := 73) (st := []) (ok_M_load hn hq2) (fun s => Std.k s (lc hn rfl) kq_383) rfl w_1483 w_13 w_1480 w_1482 ws_76 hy_M_load ⟨Nat.le_of_ble_eq_true rfl, Nat.le_of_ble_eq_true rfl⟩ ⟨Nat.le_of_ble_eq_true rfl, Nat.le_of_ble_eq_true rfl⟩ rfl (Nat.le_of_ble_eq_true rfl) d_M_dealer_12 (fun hq3 => ?_)
    refine r_iload_n (pc := 15) (i := 2) d_M_dealer_15 rfl rfl ?_
    refine r_split (fun cq4 => ?_) (fun cq4 => ?_)
    · refine r_tableIn (pc := 16) (tgt := 76) d_M_dealer_16 (by rw [cq4]; decide) (by rw [cq4]; decide) (by rw [cq4] <;> rfl) (by rfl) ?_
      refine r_aload_n (pc := 76) (i := 0) d_M_dealer_76 rfl rfl ?_
      refine r_getf (pc := 77) (ci := 12) (k := 51) (C := "CricketHayModel") (T := F_12) (N := 73) (v := .ref 406) (fun s => Std.k s (lc hn rfl) kq_383) rfl (Nat.le_of_ble_eq_true rfl) rfl w_1137 (fun s => vr rfl (Std.r s (lc hn rfl) rq_383_51)) d_M_dealer_77 ?_
      refine r_iload_n (pc := 80) (i := 1) d_M_dealer_80 rfl rfl ?_
      refine r_gx (fun zq5 => ?_)
      refine r_iald (pc := 81) (n := 35) (i0 := (ix a1)) (fun s => Std.k s (lc hn rfl) kq_406) zq5 rfl d_M_dealer_81 ?_
      exact r_iret (pc := 82) rfl d_M_dealer_82
    refine r_split (fun cq6 => ?_) (fun cq6 => ?_)
    · refine r_tableIn (pc := 16) (tgt := 83) d_M_dealer_16 (by rw [cq6]; decide) (by rw [cq6]; decide) (by rw [cq6] <;> rfl) (by rfl) ?_
      refine r_aload_n (pc := 83) (i := 0) d_M_dealer_83 rfl rfl ?_
      refine r_getf (pc := 84) (ci := 12) (k := 51) (C := "CricketHayModel") (T := F_12) (N := 73) (v := .ref 406) (fun s => Std.k s (lc hn rfl) kq_383) rfl (Nat.le_of_ble_eq_true rfl) rfl w_1137 (fun s => vr rfl (Std.r s (lc hn rfl) rq_383_51)) d_M_dealer_84 ?_
      refine r_bipush (pc := 87) (v := 6) d_M_dealer_87 (by rfl) ?_
      refine r_iload_n (pc := 89) (i := 1) d_M_dealer_89 rfl rfl ?_
      refine r_iadd (pc := 90) d_M_dealer_90 ?_
      refine r_gx (fun zq7 => ?_)
      refine r_iald (pc := 91) (n := 35) (i0 := (ix ((6 : Int32) + a1))) (fun s => Std.k s (lc hn rfl) kq_406) zq7 rfl d_M_dealer_91 ?_
      exact r_iret (pc := 92) rfl d_M_dealer_92
    refine r_split (fun cq8 => ?_) (fun cq8 => ?_)
    · refine r_tableIn (pc := 16) (tgt := 93) d_M_dealer_16 (by rw [cq8]; decide) (by rw [cq8]; decide) (by rw [cq8] <;> rfl) (by rfl) ?_
      refine r_aload_n (pc := 93) (i := 0) d_M_dealer_93 rfl rfl ?_
      refine r_getf (pc := 94) (ci := 12) (k := 35) (C := "CricketHayModel") (T := F_12) (N := 73) (v := .ref 404) (fun s => Std.k s (lc hn rfl) kq_383) rfl (Nat.le_of_ble_eq_true rfl) rfl w_1121 (fun s => vr rfl (Std.r s (lc hn rfl) rq_383_35)) d_M_dealer_94 ?_
      refine r_iload_n (pc := 97) (i := 1) d_M_dealer_97 rfl rfl ?_
      refine r_gx (fun zq9 => ?_)
      refine r_iald (pc := 98) (n := 6) (i0 := (ix a1)) (fun s => Std.k s (lc hn rfl) kq_404) zq9 rfl d_M_dealer_98 ?_
      exact r_iret (pc := 99) rfl d_M_dealer_99
    refine r_split (fun cq10 => ?_) (fun cq10 => ?_)
    · refine r_tableIn (pc := 16) (tgt := 100) d_M_dealer_16 (by rw [cq10]; decide) (by rw [cq10]; decide) (by rw [cq10] <;> rfl) (by rfl) ?_
      refine r_aload_n (pc := 100) (i := 0) d_M_dealer_100 rfl rfl ?_
      refine r_getf (pc := 101) (ci := 12) (k := 51) (C := "CricketHayModel") (T := F_12) (N := 73) (v := .ref 406) (fun s => Std.k s (lc hn rfl) kq_383) rfl (Nat.le_of_ble_eq_true rfl) rfl w_1137 (fun s => vr rfl (Std.r s (lc hn rfl) rq_383_51)) d_M_dealer_101 ?_
      refine r_bipush (pc := 104) (v := 12) d_M_dealer_104 (by rfl) ?_
      refine r_iload_n (pc := 106) (i := 1) d_M_dealer_106 rfl rfl ?_
      refine r_iadd (pc := 107) d_M_dealer_107 ?_
      refine r_gx (fun zq11 => ?_)
      refine r_iald (pc := 108) (n := 35) (i0 := (ix ((12 : Int32) + a1))) (fun s => Std.k s (lc hn rfl) kq_406) zq11 rfl d_M_dealer_108 ?_
      exact r_iret (pc := 109) rfl d_M_dealer_109
    refine r_split (fun cq12 => ?_) (fun cq12 => ?_)
    · refine r_tableIn (pc := 16) (tgt := 110) d_M_dealer_16 (by rw [cq12]; decide) (by rw [cq12]; decide) (by rw [cq12] <;> rfl) (by rfl) ?_
      refine r_aload_n (pc := 110) (i := 0) d_M_dealer_110 rfl rfl ?_
      refine r_getf (pc := 111) (ci := 12) (k := 33) (C := "CricketHayModel") (T := F_12) (N := 73) (v := .ref 402) (fun s => Std.k s (lc hn rfl) kq_383) rfl (Nat.le_of_ble_eq_true rfl) rfl w_1119 (fun s => vr rfl (Std.r s (lc hn rfl) rq_383_33)) d_M_dealer_111 ?_
      refine r_iload_n (pc := 114) (i := 1) d_M_dealer_114 rfl rfl ?_
      refine r_gx (fun zq13 => ?_)
      refine r_iald (pc := 115) (n := 6) (i0 := (ix a1)) (fun s => Std.k s (lc hn rfl) kq_402) zq13 rfl d_M_dealer_115 ?_
      exact r_iret (pc := 116) rfl d_M_dealer_116
    refine r_split (fun cq14 => ?_) (fun cq14 => ?_)
    · refine r_tableIn (pc := 16) (tgt := 117) d_M_dealer_16 (by rw [cq14]; decide) (by rw [cq14]; decide) (by rw [cq14] <;> rfl) (by rfl) ?_
      refine r_aload_n (pc := 117) (i := 0) d_M_dealer_117 rfl rfl ?_
      refine r_getf (pc := 118) (ci := 12) (k := 34) (C := "CricketHayModel") (T := F_12) (N := 73) (v := .ref 403) (fun s => Std.k s (lc hn rfl) kq_383) rfl (Nat.le_of_ble_eq_true rfl) rfl w_1120 (fun s => vr rfl (Std.r s (lc hn rfl) rq_383_34)) d_M_dealer_118 ?_
      refine r_iload_n (pc := 121) (i := 1) d_M_dealer_121 rfl rfl ?_
      refine r_gx (fun zq15 => ?_)
      refine r_iald (pc := 122) (n := 6) (i0 := (ix a1)) (fun s => Std.k s (lc hn rfl) kq_403) zq15 rfl d_M_dealer_122 ?_
      exact r_iret (pc := 123) rfl d_M_dealer_123
    refine r_split (fun cq16 => ?_) (fun cq16 => ?_)
    · refine r_tableIn (pc := 16) (tgt := 124) d_M_dealer_16 (by rw [cq16]; decide) (by rw [cq16]; decide) (by rw [cq16] <;> rfl) (by rfl) ?_
      refine r_aload_n (pc := 124) (i := 0) d_M_dealer_124 rfl rfl ?_
      refine r_getf (pc := 125) (ci := 12) (k := 51) (C := "CricketHayModel") (T := F_12) (N := 73) (v := .ref 406) (fun s => Std.k s (lc hn rfl) kq_383) rfl (Nat.le_of_ble_eq_true rfl) rfl w_1137 (fun s => vr rfl (Std.r s (lc hn rfl) rq_383_51)) d_M_dealer_125 ?_
      refine r_bipush (pc := 128) (v := 18) d_M_dealer_128 (by rfl) ?_
      refine r_iload_n (pc := 130) (i := 1) d_M_dealer_130 rfl rfl ?_
      refine r_iadd (pc := 131) d_M_dealer_131 ?_
      refine r_gx (fun zq17 => ?_)
      refine r_iald (pc := 132) (n := 35) (i0 := (ix ((18 : Int32) + a1))) (fun s => Std.k s (lc hn rfl) kq_406) zq17 rfl d_M_dealer_132 ?_
      exact r_iret (pc := 133) rfl d_M_dealer_133
    refine r_split (fun cq18 => ?_) (fun cq18 => ?_)
    · refine r_tableIn (pc := 16) (tgt := 134) d_M_dealer_16 (by rw [cq18]; decide) (by rw [cq18]; decide) (by rw [cq18] <;> rfl) (by rfl) ?_
      refine r_aload_n (pc := 134) (i := 0) d_M_dealer_134 rfl rfl ?_
      refine r_getf (pc := 135) (ci := 12) (k := 51) (C := "CricketHayModel") (T := F_12) (N := 73) (v := .ref 406) (fun s => Std.k s (lc hn rfl) kq_383) rfl (Nat.le_of_ble_eq_true rfl) rfl w_1137 (fun s => vr rfl (Std.r s (lc hn rfl) rq_383_51)) d_M_dealer_135 ?_
      refine r_bipush (pc := 138) (v := 24) d_M_dealer_138 (by rfl) ?_
      refine r_iload_n (pc := 140) (i := 1) d_M_dealer_140 rfl rfl ?_
      refine r_iadd (pc := 141) d_M_dealer_141 ?_
      refine r_gx (fun zq19 => ?_)
      refine r_iald (pc := 142) (n := 35) (i0 := (ix ((24 : Int32) + a1))) (fun s => Std.k s (lc hn rfl) kq_406) zq19 rfl d_M_dealer_142 ?_
      exact r_iret (pc := 143) rfl d_M_dealer_143
    refine r_split (fun cq20 => ?_) (fun cq20 => ?_)
    · refine r_tableIn (pc := 16) (tgt := 144) d_M_dealer_16 (by rw [cq20]; decide) (by rw [cq20]; decide) (by rw [cq20] <;> rfl) (by rfl) ?_
      refine r_aload_n (pc := 144) (i := 0) d_M_dealer_144 rfl rfl ?_
      refine r_iload_n (pc := 145) (i := 1) d_M_dealer_145 rfl rfl ?_
      refine r_cVi (pc := 146) (T := F_12) (N := 73) (st := []) (ok_M_isFree hn a1 hq3) (fun s => Std.k s (lc hn rfl) kq_383) rfl w_1487 w_13 w_1484 w_1486 ws_77 hy_M_isFree ⟨Nat.le_of_ble_eq_true rfl, Nat.le_of_ble_eq_true rfl⟩ ⟨Nat.le_of_ble_eq_true rfl, Nat.le_of_ble_eq_true rfl⟩ rfl (Nat.le_of_ble_eq_true rfl) d_M_dealer_146 (fun rq21 hq22 => ?_)
      refine r_cSi (pc := 149) (st := []) (ok_M_truth hn rq21 hq22) w_1490 w_13 w_1488 w_1489 hy_M_truth ⟨Nat.le_of_ble_eq_true rfl, Nat.le_of_ble_eq_true rfl⟩ ⟨Nat.le_of_ble_eq_true rfl, Nat.le_of_ble_eq_true rfl⟩ rfl (Nat.le_of_ble_eq_true rfl) d_M_dealer_149 (fun rq23 hq24 => ?_)
      exact r_iret (pc := 152) rfl d_M_dealer_152
    refine r_split (fun cq25 => ?_) (fun cq25 => ?_)
    · refine r_tableIn (pc := 16) (tgt := 153) d_M_dealer_16 (by rw [cq25]; decide) (by rw [cq25]; decide) (by rw [cq25] <;> rfl) (by rfl) ?_
      refine r_aload_n (pc := 153) (i := 0) d_M_dealer_153 rfl rfl ?_
      refine r_iload_n (pc := 154) (i := 1) d_M_dealer_154 rfl rfl ?_
      refine r_cVi (pc := 155) (T := F_12) (N := 73) (st := []) (ok_M_chirpsOf hn a1 hq3) (fun s => Std.k s (lc hn rfl) kq_383) rfl w_1494 w_13 w_1491 w_1493 ws_78 hy_M_chirpsOf ⟨Nat.le_of_ble_eq_true rfl, Nat.le_of_ble_eq_true rfl⟩ ⟨Nat.le_of_ble_eq_true rfl, Nat.le_of_ble_eq_true rfl⟩ rfl (Nat.le_of_ble_eq_true rfl) d_M_dealer_155 (fun rq26 hq27 => ?_)
      exact r_iret (pc := 158) rfl d_M_dealer_158
    refine r_split (fun cq28 => ?_) (fun cq28 => ?_)
    · refine r_tableIn (pc := 16) (tgt := 159) d_M_dealer_16 (by rw [cq28]; decide) (by rw [cq28]; decide) (by rw [cq28] <;> rfl) (by rfl) ?_
      refine r_aload_n (pc := 159) (i := 0) d_M_dealer_159 rfl rfl ?_
      refine r_iload_n (pc := 160) (i := 1) d_M_dealer_160 rfl rfl ?_
      refine r_cVi (pc := 161) (T := F_12) (N := 73) (st := []) (ok_M_matesOf hn a1 hq3) (fun s => Std.k s (lc hn rfl) kq_383) rfl w_1516 w_13 w_1513 w_1515 ws_82 hy_M_matesOf ⟨Nat.le_of_ble_eq_true rfl, Nat.le_of_ble_eq_true rfl⟩ ⟨Nat.le_of_ble_eq_true rfl, Nat.le_of_ble_eq_true rfl⟩ rfl (Nat.le_of_ble_eq_true rfl) d_M_dealer_161 (fun rq29 hq30 => ?_)
      exact r_iret (pc := 164) rfl d_M_dealer_164
    refine r_tableD (pc := 16) (tgt := 165) d_M_dealer_16 [0, 1, 2, 3, 4, 5, 6, 7, 8, 9, 10] (List.forall_mem_cons.mpr ⟨lv_neT cq4 (show ((0 : Int32)).toInt = 0 from rfl), List.forall_mem_cons.mpr ⟨lv_neT cq6 (show ((1 : Int32)).toInt = 1 from rfl), List.forall_mem_cons.mpr ⟨lv_neT cq8 (show ((2 : Int32)).toInt = 2 from rfl), List.forall_mem_cons.mpr ⟨lv_neT cq10 (show ((3 : Int32)).toInt = 3 from rfl), List.forall_mem_cons.mpr ⟨lv_neT cq12 (show ((4 : Int32)).toInt = 4 from rfl), List.forall_mem_cons.mpr ⟨lv_neT cq14 (show ((5 : Int32)).toInt = 5 from rfl), List.forall_mem_cons.mpr ⟨lv_neT cq16 (show ((6 : Int32)).toInt = 6 from rfl), List.forall_mem_cons.mpr ⟨lv_neT cq18 (show ((7 : Int32)).toInt = 7 from rfl), List.forall_mem_cons.mpr ⟨lv_neT cq20 (show ((8 : Int32)).toInt = 8 from rfl), List.forall_mem_cons.mpr ⟨lv_neT cq25 (show ((9 : Int32)).toInt = 9 from rfl), List.forall_mem_cons.mpr ⟨lv_neT cq28 (show ((10 : Int32)).toInt = 10 from rfl), List.forall_mem_nil _⟩⟩⟩⟩⟩⟩⟩⟩⟩⟩⟩) (by decide) (by rfl) ?_
    refine r_bipush (pc := 165) (v := -100) d_M_dealer_165 (by rfl) ?_
    exact r_iret (pc := 167) rfl d_M_dealer_167
  · refine r_bipush (pc := 8) (v := -100) d_M_dealer_8 (by rfl) ?_
    exact r_iret (pc := 10) rfl d_M_dealer_10

def f_M_heat   (h : AH) : Option (Int32 × AH) :=
  bV (f_M_load h) fun hq1 =>
  bI (f_M_heatHere hq1) fun rq2 hq3 =>
  some (rq2, hq3)
set_option maxHeartbeats 2000000 in
theorem ok_M_heat {G : AE} {n : Nat} (hn : NN ≤ n)   (h : AH) : OK G n y_M_heat (5) φI [.ref 383] h (f_M_heat h) := by
  refine ok_of (y := y_M_heat) (lv0 := [some (.ref 383)]) (by decide +kernel) (Nat.le_of_ble_eq_true rfl) ⟨rfl, trivial⟩ ?_
  rw [f_M_heat]
  refine r_aload_n (pc := 0) (i := 0) d_M_heat_0 rfl rfl ?_
  refine r_cVv (pc := 1) (T := F_12) (N := 73) (st := []) (ok_M_load hn h) (fun s => Std.k s (lc hn rfl) kq_383) rfl w_1483 w_13 w_1480 w_1482 ws_76 hy_M_load ⟨Nat.le_of_ble_eq_true rfl, Nat.le_of_ble_eq_true rfl⟩ ⟨Nat.le_of_ble_eq_true rfl, Nat.le_of_ble_eq_true rfl⟩ rfl (Nat.le_of_ble_eq_true rfl) d_M_heat_1 (fun hq1 => ?_)
  refine r_aload_n (pc := 4) (i := 0) d_M_heat_4 rfl rfl ?_
  refine r_cVi (pc := 5) (T := F_12) (N := 73) (st := []) (ok_M_heatHere hn hq1) (fun s => Std.k s (lc hn rfl) kq_383) rfl w_1498 w_13 w_1495 w_1497 ws_79 hy_M_heatHere ⟨Nat.le_of_ble_eq_true rfl, Nat.le_of_ble_eq_true rfl⟩ ⟨Nat.le_of_ble_eq_true rfl, Nat.le_of_ble_eq_true rfl⟩ rfl (Nat.le_of_ble_eq_true rfl) d_M_heat_5 (fun rq2 hq3 => ?_)
  exact r_iret (pc := 8) rfl d_M_heat_8

def f_M_price  (a1 : Int32) (a2 : Int32) (h : AH) : Option (Int32 × AH) :=
  bI (f_M_areTwo a1 a2 h) fun rq1 hq2 =>
  if ¬ rq1 = 0 then
    bV (f_M_load hq2) fun hq3 =>
    bI (f_M_priceOf a1 a2 hq3) fun rq4 hq5 =>
    some (rq4, hq5)
  else
    some ((-1 : Int32), hq2)
set_option maxHeartbeats 2000000 in
theorem ok_M_price {G : AE} {n : Nat} (hn : NN ≤ n)  (a1 : Int32) (a2 : Int32) (h : AH) : OK G n y_M_price (7) φI [.ref 383, .int a1, .int a2] h (f_M_price a1 a2 h) := by
  refine ok_of (y := y_M_price) (lv0 := [some (.ref 383), some (.int a1), some (.int a2)]) (by decide +kernel) (Nat.le_of_ble_eq_true rfl) ⟨rfl, ⟨rfl, ⟨rfl, trivial⟩⟩⟩ ?_
  rw [f_M_price]
  refine r_aload_n (pc := 0) (i := 0) d_M_price_0 rfl rfl ?_
  refine r_iload_n (pc := 1) (i := 1) d_M_price_1 rfl rfl ?_
  refine r_iload_n (pc := 2) (i := 2) d_M_price_2 rfl rfl ?_
  refine r_cVi (pc := 3) (T := F_12) (N := 73) (st := []) (ok_M_areTwo hn a1 a2 h) (fun s => Std.k s (lc hn rfl) kq_383) rfl w_1532 w_13 w_1529 w_1531 ws_84 hy_M_areTwo ⟨Nat.le_of_ble_eq_true rfl, Nat.le_of_ble_eq_true rfl⟩ ⟨Nat.le_of_ble_eq_true rfl, Nat.le_of_ble_eq_true rfl⟩ rfl (Nat.le_of_ble_eq_true rfl) d_M_price_3 (fun rq1 hq2 => ?_)
  refine r_if_ne (pc := 6) (tgt := 11) d_M_price_6 (by rfl) ?_ ?_
  · refine r_aload_n (pc := 11) (i := 0) d_M_price_11 rfl rfl ?_
    refine r_cVv (pc := 12) (T := F_12) (N := 73) (st := []) (ok_M_load hn hq2) (fun s => Std.k s (lc hn rfl) kq_383) rfl w_1483 w_13 w_1480 w_1482 ws_76 hy_M_load ⟨Nat.le_of_ble_eq_true rfl, Nat.le_of_ble_eq_true rfl⟩ ⟨Nat.le_of_ble_eq_true rfl, Nat.le_of_ble_eq_true rfl⟩ rfl (Nat.le_of_ble_eq_true rfl) d_M_price_12 (fun hq3 => ?_)
    refine r_aload_n (pc := 15) (i := 0) d_M_price_15 rfl rfl ?_
    refine r_iload_n (pc := 16) (i := 1) d_M_price_16 rfl rfl ?_
    refine r_iload_n (pc := 17) (i := 2) d_M_price_17 rfl rfl ?_
    refine r_cVi (pc := 18) (T := F_12) (N := 73) (st := []) (ok_M_priceOf hn a1 a2 hq3) (fun s => Std.k s (lc hn rfl) kq_383) rfl w_1536 w_13 w_1533 w_1535 ws_85 hy_M_priceOf ⟨Nat.le_of_ble_eq_true rfl, Nat.le_of_ble_eq_true rfl⟩ ⟨Nat.le_of_ble_eq_true rfl, Nat.le_of_ble_eq_true rfl⟩ rfl (Nat.le_of_ble_eq_true rfl) d_M_price_18 (fun rq4 hq5 => ?_)
    exact r_iret (pc := 21) rfl d_M_price_21
  · refine r_iconst (pc := 9) (v := -1) d_M_price_9 (by rfl) ?_
    exact r_iret (pc := 10) rfl d_M_price_10

def f_M_cheapest_l18  (a1 : Int32)  : Nat → Int32 → Int32 → AH → Option (Int32 × AH)
  | 0, _, _, _ => none
  | n + 1, x2, x3, h =>
    if (hI h 383 43) ≤ x3 then
      some (x2, h)
    else
      if x3 = a1 then
        lt (x3 + (1 : Int32)) fun xq1 =>
        f_M_cheapest_l18 a1 n x2 xq1 h
      else
        gx ((6 : Int32) + x3) 35 <|
        if (hI h 406 (ix ((6 : Int32) + x3))) = 0 then
          lt (x3 + (1 : Int32)) fun xq3 =>
          f_M_cheapest_l18 a1 n x2 xq3 h
        else
          bI (f_M_priceOf a1 x3 h) fun rq4 hq5 =>
          gx a1 35 <|
          if rq4 ≤ (hI hq5 406 (ix a1)) then
            if x2 < 0 then
              lt (x3 + (1 : Int32)) fun xq7 =>
              f_M_cheapest_l18 a1 n x3 xq7 hq5
            else
              bI (f_M_priceOf a1 x3 hq5) fun rq8 hq9 =>
              bI (f_M_priceOf a1 x2 hq9) fun rq10 hq11 =>
              if rq10 ≤ rq8 then
                lt (x3 + (1 : Int32)) fun xq12 =>
                f_M_cheapest_l18 a1 n x2 xq12 hq11
              else
                lt (x3 + (1 : Int32)) fun xq13 =>
                f_M_cheapest_l18 a1 n x3 xq13 hq11
          else
            lt (x3 + (1 : Int32)) fun xq14 =>
            f_M_cheapest_l18 a1 n x2 xq14 hq5
set_option maxHeartbeats 2000000 in
theorem o_M_cheapest_l18 {G : AE} {n : Nat} (hn : NN ≤ n)  {a1 : Int32}   : ∀ (n0 : Nat) (x2 : Int32) (x3 : Int32) (h : AH), AJ G n y_M_cheapest (7) φI 18 [some (.ref 383), some (.int a1), some (.int x2), some (.int x3)] [] h (f_M_cheapest_l18 a1 n0 x2 x3 h) := by
  intro n0
  induction n0 with
  | zero => intros; exact r_none
  | succ n0 ih =>
    intro x2 x3 h
    rw [f_M_cheapest_l18]
    refine r_iload_n (pc := 18) (i := 3) d_M_cheapest_18 rfl rfl ?_
    refine r_aload_n (pc := 19) (i := 0) d_M_cheapest_19 rfl rfl ?_
    refine r_getf (pc := 20) (ci := 12) (k := 43) (C := "CricketHayModel") (T := F_12) (N := 73) (v := .int (hI h 383 43)) (fun s => Std.k s (lc hn rfl) kq_383) rfl (Nat.le_of_ble_eq_true rfl) rfl w_1129 (fun _ => rfl) d_M_cheapest_20 ?_
    refine r_icmp_ge (pc := 23) (tgt := 88) d_M_cheapest_23 (by rfl) ?_ ?_
    · refine r_iload_n (pc := 88) (i := 2) d_M_cheapest_88 rfl rfl ?_
      exact r_iret (pc := 89) rfl d_M_cheapest_89
    · refine r_iload_n (pc := 26) (i := 3) d_M_cheapest_26 rfl rfl ?_
      refine r_iload_n (pc := 27) (i := 1) d_M_cheapest_27 rfl rfl ?_
      refine r_icmp_eq (pc := 28) (tgt := 82) d_M_cheapest_28 (by rfl) ?_ ?_
      · refine r_ltE (fun xq1 exq1 => ?_)
        refine r_iinc (pc := 82) (v := xq1) (lv1 := [some (.ref 383), some (.int a1), some (.int x2), some (.int xq1)]) d_M_cheapest_82 rfl exq1.symm (Nat.le_of_ble_eq_true rfl) rfl ?_
        refine r_goto (pc := 85) (tgt := 18) d_M_cheapest_85 (by rfl) ?_
        exact r_wk (ih x2 xq1 h) ⟨rfl, ⟨rfl, ⟨rfl, ⟨rfl, trivial⟩⟩⟩⟩
      · refine r_aload_n (pc := 31) (i := 0) d_M_cheapest_31 rfl rfl ?_
        refine r_getf (pc := 32) (ci := 12) (k := 51) (C := "CricketHayModel") (T := F_12) (N := 73) (v := .ref 406) (fun s => Std.k s (lc hn rfl) kq_383) rfl (Nat.le_of_ble_eq_true rfl) rfl w_1137 (fun s => vr rfl (Std.r s (lc hn rfl) rq_383_51)) d_M_cheapest_32 ?_
        refine r_bipush (pc := 35) (v := 6) d_M_cheapest_35 (by rfl) ?_
        refine r_iload_n (pc := 37) (i := 3) d_M_cheapest_37 rfl rfl ?_
        refine r_iadd (pc := 38) d_M_cheapest_38 ?_
        refine r_gx (fun zq2 => ?_)
        refine r_iald (pc := 39) (n := 35) (i0 := (ix ((6 : Int32) + x3))) (fun s => Std.k s (lc hn rfl) kq_406) zq2 rfl d_M_cheapest_39 ?_
        refine r_if_eq (pc := 40) (tgt := 82) d_M_cheapest_40 (by rfl) ?_ ?_
        · refine r_ltE (fun xq3 exq3 => ?_)
          refine r_iinc (pc := 82) (v := xq3) (lv1 := [some (.ref 383), some (.int a1), some (.int x2), some (.int xq3)]) d_M_cheapest_82 rfl exq3.symm (Nat.le_of_ble_eq_true rfl) rfl ?_
          refine r_goto (pc := 85) (tgt := 18) d_M_cheapest_85 (by rfl) ?_
          exact r_wk (ih x2 xq3 h) ⟨rfl, ⟨rfl, ⟨rfl, ⟨rfl, trivial⟩⟩⟩⟩
        · refine r_aload_n (pc := 43) (i := 0) d_M_cheapest_43 rfl rfl ?_
          refine r_iload_n (pc := 44) (i := 1) d_M_cheapest_44 rfl rfl ?_
          refine r_iload_n (pc := 45) (i := 3) d_M_cheapest_45 rfl rfl ?_
          refine r_cVi (pc := 46) (T := F_12) (N := 73) (st := []) (ok_M_priceOf hn a1 x3 h) (fun s => Std.k s (lc hn rfl) kq_383) rfl w_1536 w_13 w_1533 w_1535 ws_85 hy_M_priceOf ⟨Nat.le_of_ble_eq_true rfl, Nat.le_of_ble_eq_true rfl⟩ ⟨Nat.le_of_ble_eq_true rfl, Nat.le_of_ble_eq_true rfl⟩ rfl (Nat.le_of_ble_eq_true rfl) d_M_cheapest_46 (fun rq4 hq5 => ?_)
          refine r_aload_n (pc := 49) (i := 0) d_M_cheapest_49 rfl rfl ?_
          refine r_getf (pc := 50) (ci := 12) (k := 51) (C := "CricketHayModel") (T := F_12) (N := 73) (v := .ref 406) (fun s => Std.k s (lc hn rfl) kq_383) rfl (Nat.le_of_ble_eq_true rfl) rfl w_1137 (fun s => vr rfl (Std.r s (lc hn rfl) rq_383_51)) d_M_cheapest_50 ?_
          refine r_iload_n (pc := 53) (i := 1) d_M_cheapest_53 rfl rfl ?_
          refine r_gx (fun zq6 => ?_)
          refine r_iald (pc := 54) (n := 35) (i0 := (ix a1)) (fun s => Std.k s (lc hn rfl) kq_406) zq6 rfl d_M_cheapest_54 ?_
          refine r_icmp_le (pc := 55) (tgt := 61) d_M_cheapest_55 (by rfl) ?_ ?_
          · refine r_iload_n (pc := 61) (i := 2) d_M_cheapest_61 rfl rfl ?_
            refine r_if_lt (pc := 62) (tgt := 80) d_M_cheapest_62 (by rfl) ?_ ?_
            · refine r_iload_n (pc := 80) (i := 3) d_M_cheapest_80 rfl rfl ?_
              refine r_istore_n (pc := 81) (i := 2) (lv1 := [some (.ref 383), some (.int a1), some (.int x3), some (.int x3)]) d_M_cheapest_81 rfl (Nat.le_of_ble_eq_true rfl) rfl ?_
              refine r_ltE (fun xq7 exq7 => ?_)
              refine r_iinc (pc := 82) (v := xq7) (lv1 := [some (.ref 383), some (.int a1), some (.int x3), some (.int xq7)]) d_M_cheapest_82 rfl exq7.symm (Nat.le_of_ble_eq_true rfl) rfl ?_
              refine r_goto (pc := 85) (tgt := 18) d_M_cheapest_85 (by rfl) ?_
              exact r_wk (ih x3 xq7 hq5) ⟨rfl, ⟨rfl, ⟨rfl, ⟨rfl, trivial⟩⟩⟩⟩
            · refine r_aload_n (pc := 65) (i := 0) d_M_cheapest_65 rfl rfl ?_
              refine r_iload_n (pc := 66) (i := 1) d_M_cheapest_66 rfl rfl ?_
              refine r_iload_n (pc := 67) (i := 3) d_M_cheapest_67 rfl rfl ?_
              refine r_cVi (pc := 68) (T := F_12) (N := 73) (st := []) (ok_M_priceOf hn a1 x3 hq5) (fun s => Std.k s (lc hn rfl) kq_383) rfl w_1536 w_13 w_1533 w_1535 ws_85 hy_M_priceOf ⟨Nat.le_of_ble_eq_true rfl, Nat.le_of_ble_eq_true rfl⟩ ⟨Nat.le_of_ble_eq_true rfl, Nat.le_of_ble_eq_true rfl⟩ rfl (Nat.le_of_ble_eq_true rfl) d_M_cheapest_68 (fun rq8 hq9 => ?_)
              refine r_aload_n (pc := 71) (i := 0) d_M_cheapest_71 rfl rfl ?_
              refine r_iload_n (pc := 72) (i := 1) d_M_cheapest_72 rfl rfl ?_
              refine r_iload_n (pc := 73) (i := 2) d_M_cheapest_73 rfl rfl ?_
              refine r_cVi (pc := 74) (T := F_12) (N := 73) (st := [.int rq8]) (ok_M_priceOf hn a1 x2 hq9) (fun s => Std.k s (lc hn rfl) kq_383) rfl w_1536 w_13 w_1533 w_1535 ws_85 hy_M_priceOf ⟨Nat.le_of_ble_eq_true rfl, Nat.le_of_ble_eq_true rfl⟩ ⟨Nat.le_of_ble_eq_true rfl, Nat.le_of_ble_eq_true rfl⟩ rfl (Nat.le_of_ble_eq_true rfl) d_M_cheapest_74 (fun rq10 hq11 => ?_)
              refine r_icmp_ge (pc := 77) (tgt := 82) d_M_cheapest_77 (by rfl) ?_ ?_
              · refine r_ltE (fun xq12 exq12 => ?_)
                refine r_iinc (pc := 82) (v := xq12) (lv1 := [some (.ref 383), some (.int a1), some (.int x2), some (.int xq12)]) d_M_cheapest_82 rfl exq12.symm (Nat.le_of_ble_eq_true rfl) rfl ?_
                refine r_goto (pc := 85) (tgt := 18) d_M_cheapest_85 (by rfl) ?_
                exact r_wk (ih x2 xq12 hq11) ⟨rfl, ⟨rfl, ⟨rfl, ⟨rfl, trivial⟩⟩⟩⟩
              · refine r_iload_n (pc := 80) (i := 3) d_M_cheapest_80 rfl rfl ?_
                refine r_istore_n (pc := 81) (i := 2) (lv1 := [some (.ref 383), some (.int a1), some (.int x3), some (.int x3)]) d_M_cheapest_81 rfl (Nat.le_of_ble_eq_true rfl) rfl ?_
                refine r_ltE (fun xq13 exq13 => ?_)
                refine r_iinc (pc := 82) (v := xq13) (lv1 := [some (.ref 383), some (.int a1), some (.int x3), some (.int xq13)]) d_M_cheapest_82 rfl exq13.symm (Nat.le_of_ble_eq_true rfl) rfl ?_
                refine r_goto (pc := 85) (tgt := 18) d_M_cheapest_85 (by rfl) ?_
                exact r_wk (ih x3 xq13 hq11) ⟨rfl, ⟨rfl, ⟨rfl, ⟨rfl, trivial⟩⟩⟩⟩
          · refine r_goto (pc := 58) (tgt := 82) d_M_cheapest_58 (by rfl) ?_
            refine r_ltE (fun xq14 exq14 => ?_)
            refine r_iinc (pc := 82) (v := xq14) (lv1 := [some (.ref 383), some (.int a1), some (.int x2), some (.int xq14)]) d_M_cheapest_82 rfl exq14.symm (Nat.le_of_ble_eq_true rfl) rfl ?_
            refine r_goto (pc := 85) (tgt := 18) d_M_cheapest_85 (by rfl) ?_
            exact r_wk (ih x2 xq14 hq5) ⟨rfl, ⟨rfl, ⟨rfl, ⟨rfl, trivial⟩⟩⟩⟩
def f_M_cheapest  (a1 : Int32) (h : AH) : Option (Int32 × AH) :=
  bI (f_M_isDealer a1 h) fun rq1 hq2 =>
  if ¬ rq1 = 0 then
    bV (f_M_load hq2) fun hq3 =>
    f_M_cheapest_l18 a1 FU (-1 : Int32) (0 : Int32) hq3
  else
    some ((-1 : Int32), hq2)
set_option maxHeartbeats 2000000 in
theorem ok_M_cheapest {G : AE} {n : Nat} (hn : NN ≤ n)  (a1 : Int32) (h : AH) : OK G n y_M_cheapest (7) φI [.ref 383, .int a1] h (f_M_cheapest a1 h) := by
  refine ok_of (y := y_M_cheapest) (lv0 := [some (.ref 383), some (.int a1), none, none]) (by decide +kernel) (Nat.le_of_ble_eq_true rfl) ⟨rfl, ⟨rfl, trivial⟩⟩ ?_
  rw [f_M_cheapest]
  refine r_aload_n (pc := 0) (i := 0) d_M_cheapest_0 rfl rfl ?_
  refine r_iload_n (pc := 1) (i := 1) d_M_cheapest_1 rfl rfl ?_
  refine r_cVi (pc := 2) (T := F_12) (N := 73) (st := []) (ok_M_isDealer hn a1 h) (fun s => Std.k s (lc hn rfl) kq_383) rfl w_1476 w_13 w_1473 w_1475 ws_75 hy_M_isDealer ⟨Nat.le_of_ble_eq_true rfl, Nat.le_of_ble_eq_true rfl⟩ ⟨Nat.le_of_ble_eq_true rfl, Nat.le_of_ble_eq_true rfl⟩ rfl (Nat.le_of_ble_eq_true rfl) d_M_cheapest_2 (fun rq1 hq2 => ?_)
  refine r_if_ne (pc := 5) (tgt := 10) d_M_cheapest_5 (by rfl) ?_ ?_
  · refine r_aload_n (pc := 10) (i := 0) d_M_cheapest_10 rfl rfl ?_
    refine r_cVv (pc := 11) (T := F_12) (N := 73) (st := []) (ok_M_load hn hq2) (fun s => Std.k s (lc hn rfl) kq_383) rfl w_1483 w_13 w_1480 w_1482 ws_76 hy_M_load ⟨Nat.le_of_ble_eq_true rfl, Nat.le_of_ble_eq_true rfl⟩ ⟨Nat.le_of_ble_eq_true rfl, Nat.le_of_ble_eq_true rfl⟩ rfl (Nat.le_of_ble_eq_true rfl) d_M_cheapest_11 (fun hq3 => ?_)
    refine r_iconst (pc := 14) (v := -1) d_M_cheapest_14 (by rfl) ?_
    refine r_istore_n (pc := 15) (i := 2) (lv1 := [some (.ref 383), some (.int a1), some (.int (-1 : Int32)), none]) d_M_cheapest_15 rfl (Nat.le_of_ble_eq_true rfl) rfl ?_
    refine r_iconst (pc := 16) (v := 0) d_M_cheapest_16 (by rfl) ?_
    refine r_istore_n (pc := 17) (i := 3) (lv1 := [some (.ref 383), some (.int a1), some (.int (-1 : Int32)), some (.int (0 : Int32))]) d_M_cheapest_17 rfl (Nat.le_of_ble_eq_true rfl) rfl ?_
    exact r_wk (o_M_cheapest_l18 hn FU (-1 : Int32) (0 : Int32) hq3) ⟨rfl, ⟨rfl, ⟨rfl, ⟨rfl, trivial⟩⟩⟩⟩
  · refine r_iconst (pc := 8) (v := -1) d_M_cheapest_8 (by rfl) ?_
    exact r_iret (pc := 9) rfl d_M_cheapest_9

def f_M_chorusHere_l4    : Nat → Int32 → Int32 → AH → Option (Int32 × AH)
  | 0, _, _, _ => none
  | n + 1, x1, x2, h =>
    if (hI h 383 43) ≤ x2 then
      some (x1, h)
    else
      bI (f_M_chirpsOf x2 h) fun rq1 hq2 =>
      lt (x1 + rq1) fun xq3 =>
      lt (x2 + (1 : Int32)) fun xq4 =>
      f_M_chorusHere_l4 n xq3 xq4 hq2
set_option maxHeartbeats 2000000 in
theorem o_M_chorusHere_l4 {G : AE} {n : Nat} (hn : NN ≤ n)     : ∀ (n0 : Nat) (x1 : Int32) (x2 : Int32) (h : AH), AJ G n y_M_chorusHere (6) φI 4 [some (.ref 383), some (.int x1), some (.int x2)] [] h (f_M_chorusHere_l4 n0 x1 x2 h) := by
  intro n0
  induction n0 with
  | zero => intros; exact r_none
  | succ n0 ih =>
    intro x1 x2 h
    rw [f_M_chorusHere_l4]
    refine r_iload_n (pc := 4) (i := 2) d_M_chorusHere_4 rfl rfl ?_
    refine r_aload_n (pc := 5) (i := 0) d_M_chorusHere_5 rfl rfl ?_
    refine r_getf (pc := 6) (ci := 12) (k := 43) (C := "CricketHayModel") (T := F_12) (N := 73) (v := .int (hI h 383 43)) (fun s => Std.k s (lc hn rfl) kq_383) rfl (Nat.le_of_ble_eq_true rfl) rfl w_1129 (fun _ => rfl) d_M_chorusHere_6 ?_
    refine r_icmp_ge (pc := 9) (tgt := 26) d_M_chorusHere_9 (by rfl) ?_ ?_
    · refine r_iload_n (pc := 26) (i := 1) d_M_chorusHere_26 rfl rfl ?_
      exact r_iret (pc := 27) rfl d_M_chorusHere_27
    · refine r_iload_n (pc := 12) (i := 1) d_M_chorusHere_12 rfl rfl ?_
      refine r_aload_n (pc := 13) (i := 0) d_M_chorusHere_13 rfl rfl ?_
      refine r_iload_n (pc := 14) (i := 2) d_M_chorusHere_14 rfl rfl ?_
      refine r_cVi (pc := 15) (T := F_12) (N := 73) (st := [.int x1]) (ok_M_chirpsOf hn x2 h) (fun s => Std.k s (lc hn rfl) kq_383) rfl w_1494 w_13 w_1491 w_1493 ws_78 hy_M_chirpsOf ⟨Nat.le_of_ble_eq_true rfl, Nat.le_of_ble_eq_true rfl⟩ ⟨Nat.le_of_ble_eq_true rfl, Nat.le_of_ble_eq_true rfl⟩ rfl (Nat.le_of_ble_eq_true rfl) d_M_chorusHere_15 (fun rq1 hq2 => ?_)
      refine r_iadd (pc := 18) d_M_chorusHere_18 ?_
      refine r_ltI (fun xq3 => ?_)
      refine r_istore_n (pc := 19) (i := 1) (lv1 := [some (.ref 383), some (.int xq3), some (.int x2)]) d_M_chorusHere_19 rfl (Nat.le_of_ble_eq_true rfl) rfl ?_
      refine r_ltE (fun xq4 exq4 => ?_)
      refine r_iinc (pc := 20) (v := xq4) (lv1 := [some (.ref 383), some (.int xq3), some (.int xq4)]) d_M_chorusHere_20 rfl exq4.symm (Nat.le_of_ble_eq_true rfl) rfl ?_
      refine r_goto (pc := 23) (tgt := 4) d_M_chorusHere_23 (by rfl) ?_
      exact r_wk (ih xq3 xq4 hq2) ⟨rfl, ⟨rfl, ⟨rfl, trivial⟩⟩⟩
def f_M_chorusHere   (h : AH) : Option (Int32 × AH) :=
  f_M_chorusHere_l4 FU (0 : Int32) (0 : Int32) h
set_option maxHeartbeats 2000000 in
theorem ok_M_chorusHere {G : AE} {n : Nat} (hn : NN ≤ n)   (h : AH) : OK G n y_M_chorusHere (6) φI [.ref 383] h (f_M_chorusHere h) := by
  refine ok_of (y := y_M_chorusHere) (lv0 := [some (.ref 383), none, none]) (by decide +kernel) (Nat.le_of_ble_eq_true rfl) ⟨rfl, trivial⟩ ?_
  rw [f_M_chorusHere]
  refine r_iconst (pc := 0) (v := 0) d_M_chorusHere_0 (by rfl) ?_
  refine r_istore_n (pc := 1) (i := 1) (lv1 := [some (.ref 383), some (.int (0 : Int32)), none]) d_M_chorusHere_1 rfl (Nat.le_of_ble_eq_true rfl) rfl ?_
  refine r_iconst (pc := 2) (v := 0) d_M_chorusHere_2 (by rfl) ?_
  refine r_istore_n (pc := 3) (i := 2) (lv1 := [some (.ref 383), some (.int (0 : Int32)), some (.int (0 : Int32))]) d_M_chorusHere_3 rfl (Nat.le_of_ble_eq_true rfl) rfl ?_
  exact r_wk (o_M_chorusHere_l4 hn FU (0 : Int32) (0 : Int32) h) ⟨rfl, ⟨rfl, ⟨rfl, trivial⟩⟩⟩

def f_M_chorus   (h : AH) : Option (Int32 × AH) :=
  bV (f_M_load h) fun hq1 =>
  bI (f_M_chorusHere hq1) fun rq2 hq3 =>
  some (rq2, hq3)
set_option maxHeartbeats 2000000 in
theorem ok_M_chorus {G : AE} {n : Nat} (hn : NN ≤ n)   (h : AH) : OK G n y_M_chorus (7) φI [.ref 383] h (f_M_chorus h) := by
  refine ok_of (y := y_M_chorus) (lv0 := [some (.ref 383)]) (by decide +kernel) (Nat.le_of_ble_eq_true rfl) ⟨rfl, trivial⟩ ?_
  rw [f_M_chorus]
  refine r_aload_n (pc := 0) (i := 0) d_M_chorus_0 rfl rfl ?_
  refine r_cVv (pc := 1) (T := F_12) (N := 73) (st := []) (ok_M_load hn h) (fun s => Std.k s (lc hn rfl) kq_383) rfl w_1483 w_13 w_1480 w_1482 ws_76 hy_M_load ⟨Nat.le_of_ble_eq_true rfl, Nat.le_of_ble_eq_true rfl⟩ ⟨Nat.le_of_ble_eq_true rfl, Nat.le_of_ble_eq_true rfl⟩ rfl (Nat.le_of_ble_eq_true rfl) d_M_chorus_1 (fun hq1 => ?_)
  refine r_aload_n (pc := 4) (i := 0) d_M_chorus_4 rfl rfl ?_
  refine r_cVi (pc := 5) (T := F_12) (N := 73) (st := []) (ok_M_chorusHere hn hq1) (fun s => Std.k s (lc hn rfl) kq_383) rfl w_1548 w_13 w_1545 w_1547 ws_86 hy_M_chorusHere ⟨Nat.le_of_ble_eq_true rfl, Nat.le_of_ble_eq_true rfl⟩ ⟨Nat.le_of_ble_eq_true rfl, Nat.le_of_ble_eq_true rfl⟩ rfl (Nat.le_of_ble_eq_true rfl) d_M_chorus_5 (fun rq2 hq3 => ?_)
  exact r_iret (pc := 8) rfl d_M_chorus_8

def f_M_lasts  (a1 : Int32) (h : AH) : Option (Int32 × AH) :=
  bI (f_M_isDealer a1 h) fun rq1 hq2 =>
  if rq1 = 0 then
    some ((-1 : Int32), hq2)
  else
    gx a1 6 <|
    if ¬ (hI hq2 404 (ix a1)) = 0 then
      gx ((6 : Int32) + a1) 35 <|
      gx a1 6 <|
      gz (hI hq2 404 (ix a1)) <|
      some (((hI hq2 405 (ix ((6 : Int32) + a1))) / (hI hq2 404 (ix a1))), hq2)
    else
      some ((-1 : Int32), hq2)
set_option maxHeartbeats 2000000 in
theorem ok_M_lasts {G : AE} {n : Nat} (hn : NN ≤ n)  (a1 : Int32) (h : AH) : OK G n y_M_lasts (3) φI [.ref 383, .int a1] h (f_M_lasts a1 h) := by
  refine ok_of (y := y_M_lasts) (lv0 := [some (.ref 383), some (.int a1)]) (by decide +kernel) (Nat.le_of_ble_eq_true rfl) ⟨rfl, ⟨rfl, trivial⟩⟩ ?_
  rw [f_M_lasts]
  refine r_aload_n (pc := 0) (i := 0) d_M_lasts_0 rfl rfl ?_
  refine r_iload_n (pc := 1) (i := 1) d_M_lasts_1 rfl rfl ?_
  refine r_cVi (pc := 2) (T := F_12) (N := 73) (st := []) (ok_M_isDealer hn a1 h) (fun s => Std.k s (lc hn rfl) kq_383) rfl w_1476 w_13 w_1473 w_1475 ws_75 hy_M_isDealer ⟨Nat.le_of_ble_eq_true rfl, Nat.le_of_ble_eq_true rfl⟩ ⟨Nat.le_of_ble_eq_true rfl, Nat.le_of_ble_eq_true rfl⟩ rfl (Nat.le_of_ble_eq_true rfl) d_M_lasts_2 (fun rq1 hq2 => ?_)
  refine r_if_eq (pc := 5) (tgt := 17) d_M_lasts_5 (by rfl) ?_ ?_
  · refine r_iconst (pc := 17) (v := -1) d_M_lasts_17 (by rfl) ?_
    refine r_goto (pc := 18) (tgt := 37) d_M_lasts_18 (by rfl) ?_
    exact r_iret (pc := 37) rfl d_M_lasts_37
  · refine r_aload_n (pc := 8) (i := 0) d_M_lasts_8 rfl rfl ?_
    refine r_getf (pc := 9) (ci := 12) (k := 35) (C := "CricketHayModel") (T := F_12) (N := 73) (v := .ref 404) (fun s => Std.k s (lc hn rfl) kq_383) rfl (Nat.le_of_ble_eq_true rfl) rfl w_1121 (fun s => vr rfl (Std.r s (lc hn rfl) rq_383_35)) d_M_lasts_9 ?_
    refine r_iload_n (pc := 12) (i := 1) d_M_lasts_12 rfl rfl ?_
    refine r_gx (fun zq3 => ?_)
    refine r_iald (pc := 13) (n := 6) (i0 := (ix a1)) (fun s => Std.k s (lc hn rfl) kq_404) zq3 rfl d_M_lasts_13 ?_
    refine r_if_ne (pc := 14) (tgt := 21) d_M_lasts_14 (by rfl) ?_ ?_
    · refine r_aload_n (pc := 21) (i := 0) d_M_lasts_21 rfl rfl ?_
      refine r_getf (pc := 22) (ci := 12) (k := 50) (C := "CricketHayModel") (T := F_12) (N := 73) (v := .ref 405) (fun s => Std.k s (lc hn rfl) kq_383) rfl (Nat.le_of_ble_eq_true rfl) rfl w_1136 (fun s => vr rfl (Std.r s (lc hn rfl) rq_383_50)) d_M_lasts_22 ?_
      refine r_bipush (pc := 25) (v := 6) d_M_lasts_25 (by rfl) ?_
      refine r_iload_n (pc := 27) (i := 1) d_M_lasts_27 rfl rfl ?_
      refine r_iadd (pc := 28) d_M_lasts_28 ?_
      refine r_gx (fun zq4 => ?_)
      refine r_iald (pc := 29) (n := 35) (i0 := (ix ((6 : Int32) + a1))) (fun s => Std.k s (lc hn rfl) kq_405) zq4 rfl d_M_lasts_29 ?_
      refine r_aload_n (pc := 30) (i := 0) d_M_lasts_30 rfl rfl ?_
      refine r_getf (pc := 31) (ci := 12) (k := 35) (C := "CricketHayModel") (T := F_12) (N := 73) (v := .ref 404) (fun s => Std.k s (lc hn rfl) kq_383) rfl (Nat.le_of_ble_eq_true rfl) rfl w_1121 (fun s => vr rfl (Std.r s (lc hn rfl) rq_383_35)) d_M_lasts_31 ?_
      refine r_iload_n (pc := 34) (i := 1) d_M_lasts_34 rfl rfl ?_
      refine r_gx (fun zq5 => ?_)
      refine r_iald (pc := 35) (n := 6) (i0 := (ix a1)) (fun s => Std.k s (lc hn rfl) kq_404) zq5 rfl d_M_lasts_35 ?_
      refine r_gz (fun zq6 => ?_)
      refine r_idivC (pc := 36) zq6 d_M_lasts_36 ?_
      exact r_iret (pc := 37) rfl d_M_lasts_37
    · refine r_iconst (pc := 17) (v := -1) d_M_lasts_17 (by rfl) ?_
      refine r_goto (pc := 18) (tgt := 37) d_M_lasts_18 (by rfl) ?_
      exact r_iret (pc := 37) rfl d_M_lasts_37

def f_M_act_l51    : Nat → Int32 → AH → Option AH
  | 0, _, _ => none
  | n + 1, x1, h =>
    if (35 : Int32) ≤ x1 then
      lt (sI h 383 53 ((hI h 383 53) + (1 : Int32))) fun hq1 =>
      lt (sI hq1 383 54 (0 : Int32)) fun hq2 =>
      some hq2
    else
      gx x1 35 <|
      gx (((35 : Int32) * (hI h 383 53)) + x1) 1400 <|
      lt (sI h 407 (ix (((35 : Int32) * (hI h 383 53)) + x1)) (hI h 405 (ix x1))) fun hq5 =>
      lt (x1 + (1 : Int32)) fun xq6 =>
      f_M_act_l51 n xq6 hq5
set_option maxHeartbeats 2000000 in
theorem o_M_act_l51 {G : AE} {n : Nat} (hn : NN ≤ n)     : ∀ (n0 : Nat) (x1 : Int32) (h : AH), AJ G n y_M_act (1) φV 51 [some (.ref 383), some (.int x1)] [] h (f_M_act_l51 n0 x1 h) := by
  intro n0
  induction n0 with
  | zero => intros; exact r_none
  | succ n0 ih =>
    intro x1 h
    rw [f_M_act_l51]
    refine r_iload_n (pc := 51) (i := 1) d_M_act_51 rfl rfl ?_
    refine r_bipush (pc := 52) (v := 35) d_M_act_52 (by rfl) ?_
    refine r_icmp_ge (pc := 54) (tgt := 83) d_M_act_54 (by rfl) ?_ ?_
    · refine r_aload_n (pc := 83) (i := 0) d_M_act_83 rfl rfl ?_
      refine r_dup (pc := 84) d_M_act_84 rfl ?_
      refine r_getf (pc := 85) (ci := 12) (k := 53) (C := "CricketHayModel") (T := F_12) (N := 73) (v := .int (hI h 383 53)) (fun s => Std.k s (lc hn rfl) kq_383) rfl (Nat.le_of_ble_eq_true rfl) rfl w_1139 (fun _ => rfl) d_M_act_85 ?_
      refine r_iconst (pc := 88) (v := 1) d_M_act_88 (by rfl) ?_
      refine r_iadd (pc := 89) d_M_act_89 ?_
      refine r_putI (pc := 90) (ci := 12) (k := 53) (C := "CricketHayModel") (T := F_12) (N := 73) (fun s => Std.k s (lc hn rfl) kq_383) rfl (Nat.le_of_ble_eq_true rfl) rfl rfl w_1139 (fun _ _ => rfl) (fun _ => rfl) (fun _ => rfl) (fun s => Std.sI s _ _ _) d_M_act_90 ?_
      refine r_ltH (fun hq1 => ?_)
      refine r_aload_n (pc := 93) (i := 0) d_M_act_93 rfl rfl ?_
      refine r_iconst (pc := 94) (v := 0) d_M_act_94 (by rfl) ?_
      refine r_putI (pc := 95) (ci := 12) (k := 54) (C := "CricketHayModel") (T := F_12) (N := 73) (fun s => Std.k s (lc hn rfl) kq_383) rfl (Nat.le_of_ble_eq_true rfl) rfl rfl w_1140 (fun _ _ => rfl) (fun _ => rfl) (fun _ => rfl) (fun s => Std.sI s _ _ _) d_M_act_95 ?_
      refine r_ltH (fun hq2 => ?_)
      exact r_vret (pc := 98) rfl d_M_act_98
    · refine r_aload_n (pc := 57) (i := 0) d_M_act_57 rfl rfl ?_
      refine r_getf (pc := 58) (ci := 12) (k := 52) (C := "CricketHayModel") (T := F_12) (N := 73) (v := .ref 407) (fun s => Std.k s (lc hn rfl) kq_383) rfl (Nat.le_of_ble_eq_true rfl) rfl w_1138 (fun s => vr rfl (Std.r s (lc hn rfl) rq_383_52)) d_M_act_58 ?_
      refine r_bipush (pc := 61) (v := 35) d_M_act_61 (by rfl) ?_
      refine r_aload_n (pc := 63) (i := 0) d_M_act_63 rfl rfl ?_
      refine r_getf (pc := 64) (ci := 12) (k := 53) (C := "CricketHayModel") (T := F_12) (N := 73) (v := .int (hI h 383 53)) (fun s => Std.k s (lc hn rfl) kq_383) rfl (Nat.le_of_ble_eq_true rfl) rfl w_1139 (fun _ => rfl) d_M_act_64 ?_
      refine r_imul (pc := 67) d_M_act_67 ?_
      refine r_iload_n (pc := 68) (i := 1) d_M_act_68 rfl rfl ?_
      refine r_iadd (pc := 69) d_M_act_69 ?_
      refine r_aload_n (pc := 70) (i := 0) d_M_act_70 rfl rfl ?_
      refine r_getf (pc := 71) (ci := 12) (k := 50) (C := "CricketHayModel") (T := F_12) (N := 73) (v := .ref 405) (fun s => Std.k s (lc hn rfl) kq_383) rfl (Nat.le_of_ble_eq_true rfl) rfl w_1136 (fun s => vr rfl (Std.r s (lc hn rfl) rq_383_50)) d_M_act_71 ?_
      refine r_iload_n (pc := 74) (i := 1) d_M_act_74 rfl rfl ?_
      refine r_gx (fun zq3 => ?_)
      refine r_iald (pc := 75) (n := 35) (i0 := (ix x1)) (fun s => Std.k s (lc hn rfl) kq_405) zq3 rfl d_M_act_75 ?_
      refine r_gx (fun zq4 => ?_)
      refine r_iast (pc := 76) (n := 1400) (i0 := (ix (((35 : Int32) * (hI h 383 53)) + x1))) (fun s => Std.k s (lc hn rfl) kq_407) zq4 rfl (fun s => Std.sI s _ _ _) d_M_act_76 ?_
      refine r_ltH (fun hq5 => ?_)
      refine r_ltE (fun xq6 exq6 => ?_)
      refine r_iinc (pc := 77) (v := xq6) (lv1 := [some (.ref 383), some (.int xq6)]) d_M_act_77 rfl exq6.symm (Nat.le_of_ble_eq_true rfl) rfl ?_
      refine r_goto (pc := 80) (tgt := 51) d_M_act_80 (by rfl) ?_
      exact r_wk (ih xq6 hq5) ⟨rfl, ⟨rfl, trivial⟩⟩
def f_M_act_b49     (h : AH) : Option AH :=
  f_M_act_l51 FU (0 : Int32) h
set_option maxHeartbeats 2000000 in
theorem o_M_act_b49 {G : AE} {n : Nat} (hn : NN ≤ n)     : ∀  (h : AH), AJ G n y_M_act (1) φV 49 [some (.ref 383), none] [] h (f_M_act_b49 h) := by
  intro  h
  rw [f_M_act_b49]
  refine r_iconst (pc := 49) (v := 0) d_M_act_49 (by rfl) ?_
  refine r_istore_n (pc := 50) (i := 1) (lv1 := [some (.ref 383), some (.int (0 : Int32))]) d_M_act_50 rfl (Nat.le_of_ble_eq_true rfl) rfl ?_
  exact r_wk (o_M_act_l51 hn FU (0 : Int32) h) ⟨rfl, ⟨rfl, trivial⟩⟩
def f_M_act_l11    : Nat → Int32 → AH → Option AH
  | 0, _, _ => none
  | n + 1, x1, h =>
    if (1365 : Int32) ≤ x1 then
      lt (sI h 383 53 ((hI h 383 53) - (1 : Int32))) fun hq1 =>
      f_M_act_b49 hq1
    else
      gx ((35 : Int32) + x1) 1400 <|
      gx x1 1400 <|
      lt (sI h 407 (ix x1) (hI h 407 (ix ((35 : Int32) + x1)))) fun hq4 =>
      lt (x1 + (1 : Int32)) fun xq5 =>
      f_M_act_l11 n xq5 hq4
set_option maxHeartbeats 2000000 in
theorem o_M_act_l11 {G : AE} {n : Nat} (hn : NN ≤ n)     : ∀ (n0 : Nat) (x1 : Int32) (h : AH), AJ G n y_M_act (1) φV 11 [some (.ref 383), some (.int x1)] [] h (f_M_act_l11 n0 x1 h) := by
  intro n0
  induction n0 with
  | zero => intros; exact r_none
  | succ n0 ih =>
    intro x1 h
    rw [f_M_act_l11]
    refine r_iload_n (pc := 11) (i := 1) d_M_act_11 rfl rfl ?_
    refine r_sipush (pc := 12) (v := 1365) d_M_act_12 (by rfl) ?_
    refine r_icmp_ge (pc := 15) (tgt := 39) d_M_act_15 (by rfl) ?_ ?_
    · refine r_aload_n (pc := 39) (i := 0) d_M_act_39 rfl rfl ?_
      refine r_dup (pc := 40) d_M_act_40 rfl ?_
      refine r_getf (pc := 41) (ci := 12) (k := 53) (C := "CricketHayModel") (T := F_12) (N := 73) (v := .int (hI h 383 53)) (fun s => Std.k s (lc hn rfl) kq_383) rfl (Nat.le_of_ble_eq_true rfl) rfl w_1139 (fun _ => rfl) d_M_act_41 ?_
      refine r_iconst (pc := 44) (v := 1) d_M_act_44 (by rfl) ?_
      refine r_isub (pc := 45) d_M_act_45 ?_
      refine r_putI (pc := 46) (ci := 12) (k := 53) (C := "CricketHayModel") (T := F_12) (N := 73) (fun s => Std.k s (lc hn rfl) kq_383) rfl (Nat.le_of_ble_eq_true rfl) rfl rfl w_1139 (fun _ _ => rfl) (fun _ => rfl) (fun _ => rfl) (fun s => Std.sI s _ _ _) d_M_act_46 ?_
      refine r_ltH (fun hq1 => ?_)
      exact r_wk (o_M_act_b49 hn hq1) ⟨rfl, trivial⟩
    · refine r_aload_n (pc := 18) (i := 0) d_M_act_18 rfl rfl ?_
      refine r_getf (pc := 19) (ci := 12) (k := 52) (C := "CricketHayModel") (T := F_12) (N := 73) (v := .ref 407) (fun s => Std.k s (lc hn rfl) kq_383) rfl (Nat.le_of_ble_eq_true rfl) rfl w_1138 (fun s => vr rfl (Std.r s (lc hn rfl) rq_383_52)) d_M_act_19 ?_
      refine r_iload_n (pc := 22) (i := 1) d_M_act_22 rfl rfl ?_
      refine r_aload_n (pc := 23) (i := 0) d_M_act_23 rfl rfl ?_
      refine r_getf (pc := 24) (ci := 12) (k := 52) (C := "CricketHayModel") (T := F_12) (N := 73) (v := .ref 407) (fun s => Std.k s (lc hn rfl) kq_383) rfl (Nat.le_of_ble_eq_true rfl) rfl w_1138 (fun s => vr rfl (Std.r s (lc hn rfl) rq_383_52)) d_M_act_24 ?_
      refine r_bipush (pc := 27) (v := 35) d_M_act_27 (by rfl) ?_
      refine r_iload_n (pc := 29) (i := 1) d_M_act_29 rfl rfl ?_
      refine r_iadd (pc := 30) d_M_act_30 ?_
      refine r_gx (fun zq2 => ?_)
      refine r_iald (pc := 31) (n := 1400) (i0 := (ix ((35 : Int32) + x1))) (fun s => Std.k s (lc hn rfl) kq_407) zq2 rfl d_M_act_31 ?_
      refine r_gx (fun zq3 => ?_)
      refine r_iast (pc := 32) (n := 1400) (i0 := (ix x1)) (fun s => Std.k s (lc hn rfl) kq_407) zq3 rfl (fun s => Std.sI s _ _ _) d_M_act_32 ?_
      refine r_ltH (fun hq4 => ?_)
      refine r_ltE (fun xq5 exq5 => ?_)
      refine r_iinc (pc := 33) (v := xq5) (lv1 := [some (.ref 383), some (.int xq5)]) d_M_act_33 rfl exq5.symm (Nat.le_of_ble_eq_true rfl) rfl ?_
      refine r_goto (pc := 36) (tgt := 11) d_M_act_36 (by rfl) ?_
      exact r_wk (ih xq5 hq4) ⟨rfl, ⟨rfl, trivial⟩⟩
def f_M_act   (h : AH) : Option AH :=
  if ¬ (hI h 383 53) = (40 : Int32) then
    f_M_act_b49 h
  else
    f_M_act_l11 FU (0 : Int32) h
set_option maxHeartbeats 2000000 in
theorem ok_M_act {G : AE} {n : Nat} (hn : NN ≤ n)   (h : AH) : OK G n y_M_act (1) φV [.ref 383] h (f_M_act h) := by
  refine ok_of (y := y_M_act) (lv0 := [some (.ref 383), none]) (by decide +kernel) (Nat.le_of_ble_eq_true rfl) ⟨rfl, trivial⟩ ?_
  rw [f_M_act]
  refine r_aload_n (pc := 0) (i := 0) d_M_act_0 rfl rfl ?_
  refine r_getf (pc := 1) (ci := 12) (k := 53) (C := "CricketHayModel") (T := F_12) (N := 73) (v := .int (hI h 383 53)) (fun s => Std.k s (lc hn rfl) kq_383) rfl (Nat.le_of_ble_eq_true rfl) rfl w_1139 (fun _ => rfl) d_M_act_1 ?_
  refine r_bipush (pc := 4) (v := 40) d_M_act_4 (by rfl) ?_
  refine r_icmp_ne (pc := 6) (tgt := 49) d_M_act_6 (by rfl) ?_ ?_
  · exact r_wk (o_M_act_b49 hn h) ⟨rfl, trivial⟩
  · refine r_iconst (pc := 9) (v := 0) d_M_act_9 (by rfl) ?_
    refine r_istore_n (pc := 10) (i := 1) (lv1 := [some (.ref 383), some (.int (0 : Int32))]) d_M_act_10 rfl (Nat.le_of_ble_eq_true rfl) rfl ?_
    exact r_wk (o_M_act_l11 hn FU (0 : Int32) h) ⟨rfl, ⟨rfl, trivial⟩⟩

def f_M_exchange_l2  (a1 : Int32)  : Nat → Int32 → AH → Option AH
  | 0, _, _ => none
  | n + 1, x2, h =>
    if (35 : Int32) ≤ x2 then
      some h
    else
      gx (a1 + x2) 1400 <|
      lt (hI h 407 (ix (a1 + x2))) fun xq2 =>
      gx x2 35 <|
      gx (a1 + x2) 1400 <|
      lt (sI h 407 (ix (a1 + x2)) (hI h 405 (ix x2))) fun hq5 =>
      gx x2 35 <|
      lt (sI hq5 405 (ix x2) xq2) fun hq7 =>
      lt (x2 + (1 : Int32)) fun xq8 =>
      f_M_exchange_l2 a1 n xq8 hq7
set_option maxHeartbeats 2000000 in
theorem o_M_exchange_l2 {G : AE} {n : Nat} (hn : NN ≤ n)  {a1 : Int32}   : ∀ (n0 : Nat) (x2 : Int32) (h : AH), AJ G n y_M_exchange (1) φV 2 [some (.ref 383), some (.int a1), some (.int x2), none] [] h (f_M_exchange_l2 a1 n0 x2 h) := by
  intro n0
  induction n0 with
  | zero => intros; exact r_none
  | succ n0 ih =>
    intro x2 h
    rw [f_M_exchange_l2]
    refine r_iload_n (pc := 2) (i := 2) d_M_exchange_2 rfl rfl ?_
    refine r_bipush (pc := 3) (v := 35) d_M_exchange_3 (by rfl) ?_
    refine r_icmp_ge (pc := 5) (tgt := 44) d_M_exchange_5 (by rfl) ?_ ?_
    · exact r_vret (pc := 44) rfl d_M_exchange_44
    · refine r_aload_n (pc := 8) (i := 0) d_M_exchange_8 rfl rfl ?_
      refine r_getf (pc := 9) (ci := 12) (k := 52) (C := "CricketHayModel") (T := F_12) (N := 73) (v := .ref 407) (fun s => Std.k s (lc hn rfl) kq_383) rfl (Nat.le_of_ble_eq_true rfl) rfl w_1138 (fun s => vr rfl (Std.r s (lc hn rfl) rq_383_52)) d_M_exchange_9 ?_
      refine r_iload_n (pc := 12) (i := 1) d_M_exchange_12 rfl rfl ?_
      refine r_iload_n (pc := 13) (i := 2) d_M_exchange_13 rfl rfl ?_
      refine r_iadd (pc := 14) d_M_exchange_14 ?_
      refine r_gx (fun zq1 => ?_)
      refine r_iald (pc := 15) (n := 1400) (i0 := (ix (a1 + x2))) (fun s => Std.k s (lc hn rfl) kq_407) zq1 rfl d_M_exchange_15 ?_
      refine r_ltI (fun xq2 => ?_)
      refine r_istore_n (pc := 16) (i := 3) (lv1 := [some (.ref 383), some (.int a1), some (.int x2), some (.int xq2)]) d_M_exchange_16 rfl (Nat.le_of_ble_eq_true rfl) rfl ?_
      refine r_aload_n (pc := 17) (i := 0) d_M_exchange_17 rfl rfl ?_
      refine r_getf (pc := 18) (ci := 12) (k := 52) (C := "CricketHayModel") (T := F_12) (N := 73) (v := .ref 407) (fun s => Std.k s (lc hn rfl) kq_383) rfl (Nat.le_of_ble_eq_true rfl) rfl w_1138 (fun s => vr rfl (Std.r s (lc hn rfl) rq_383_52)) d_M_exchange_18 ?_
      refine r_iload_n (pc := 21) (i := 1) d_M_exchange_21 rfl rfl ?_
      refine r_iload_n (pc := 22) (i := 2) d_M_exchange_22 rfl rfl ?_
      refine r_iadd (pc := 23) d_M_exchange_23 ?_
      refine r_aload_n (pc := 24) (i := 0) d_M_exchange_24 rfl rfl ?_
      refine r_getf (pc := 25) (ci := 12) (k := 50) (C := "CricketHayModel") (T := F_12) (N := 73) (v := .ref 405) (fun s => Std.k s (lc hn rfl) kq_383) rfl (Nat.le_of_ble_eq_true rfl) rfl w_1136 (fun s => vr rfl (Std.r s (lc hn rfl) rq_383_50)) d_M_exchange_25 ?_
      refine r_iload_n (pc := 28) (i := 2) d_M_exchange_28 rfl rfl ?_
      refine r_gx (fun zq3 => ?_)
      refine r_iald (pc := 29) (n := 35) (i0 := (ix x2)) (fun s => Std.k s (lc hn rfl) kq_405) zq3 rfl d_M_exchange_29 ?_
      refine r_gx (fun zq4 => ?_)
      refine r_iast (pc := 30) (n := 1400) (i0 := (ix (a1 + x2))) (fun s => Std.k s (lc hn rfl) kq_407) zq4 rfl (fun s => Std.sI s _ _ _) d_M_exchange_30 ?_
      refine r_ltH (fun hq5 => ?_)
      refine r_aload_n (pc := 31) (i := 0) d_M_exchange_31 rfl rfl ?_
      refine r_getf (pc := 32) (ci := 12) (k := 50) (C := "CricketHayModel") (T := F_12) (N := 73) (v := .ref 405) (fun s => Std.k s (lc hn rfl) kq_383) rfl (Nat.le_of_ble_eq_true rfl) rfl w_1136 (fun s => vr rfl (Std.r s (lc hn rfl) rq_383_50)) d_M_exchange_32 ?_
      refine r_iload_n (pc := 35) (i := 2) d_M_exchange_35 rfl rfl ?_
      refine r_iload_n (pc := 36) (i := 3) d_M_exchange_36 rfl rfl ?_
      refine r_gx (fun zq6 => ?_)
      refine r_iast (pc := 37) (n := 35) (i0 := (ix x2)) (fun s => Std.k s (lc hn rfl) kq_405) zq6 rfl (fun s => Std.sI s _ _ _) d_M_exchange_37 ?_
      refine r_ltH (fun hq7 => ?_)
      refine r_ltE (fun xq8 exq8 => ?_)
      refine r_iinc (pc := 38) (v := xq8) (lv1 := [some (.ref 383), some (.int a1), some (.int xq8), some (.int xq2)]) d_M_exchange_38 rfl exq8.symm (Nat.le_of_ble_eq_true rfl) rfl ?_
      refine r_goto (pc := 41) (tgt := 2) d_M_exchange_41 (by rfl) ?_
      exact r_wk (ih xq8 hq7) ⟨rfl, ⟨rfl, ⟨rfl, trivial⟩⟩⟩
def f_M_exchange  (a1 : Int32) (h : AH) : Option AH :=
  f_M_exchange_l2 a1 FU (0 : Int32) h
set_option maxHeartbeats 2000000 in
theorem ok_M_exchange {G : AE} {n : Nat} (hn : NN ≤ n)  (a1 : Int32) (h : AH) : OK G n y_M_exchange (1) φV [.ref 383, .int a1] h (f_M_exchange a1 h) := by
  refine ok_of (y := y_M_exchange) (lv0 := [some (.ref 383), some (.int a1), none, none]) (by decide +kernel) (Nat.le_of_ble_eq_true rfl) ⟨rfl, ⟨rfl, trivial⟩⟩ ?_
  rw [f_M_exchange]
  refine r_iconst (pc := 0) (v := 0) d_M_exchange_0 (by rfl) ?_
  refine r_istore_n (pc := 1) (i := 2) (lv1 := [some (.ref 383), some (.int a1), some (.int (0 : Int32)), none]) d_M_exchange_1 rfl (Nat.le_of_ble_eq_true rfl) rfl ?_
  exact r_wk (o_M_exchange_l2 hn FU (0 : Int32) h) ⟨rfl, ⟨rfl, ⟨rfl, trivial⟩⟩⟩

def f_M_buy  (a1 : Int32) (a2 : Int32) (a3 : Int32) (h : AH) : Option (Int32 × AH) :=
  bI (f_M_areTwo a1 a2 h) fun rq1 hq2 =>
  if rq1 = 0 then
    some ((-1 : Int32), hq2)
  else
    bI (f_M_isIn a3 (1 : Int32) (hI hq2 383 46) hq2) fun rq3 hq4 =>
    if rq3 = 0 then
      some ((-1 : Int32), hq4)
    else
      gx ((6 : Int32) + a2) 35 <|
      if a3 ≤ (hI hq4 405 (ix ((6 : Int32) + a2))) then
        bV (f_M_load hq4) fun hq6 =>
        bI (f_M_priceOf a1 a2 hq6) fun rq7 hq8 =>
        lt (a3 * rq7) fun xq9 =>
        gx a1 35 <|
        if xq9 ≤ (hI hq8 405 (ix a1)) then
          bV (f_M_act hq8) fun hq11 =>
          gx a1 35 <|
          gx a1 35 <|
          lt (sI hq11 405 (ix a1) ((hI hq11 405 (ix a1)) - xq9)) fun hq14 =>
          gx a2 35 <|
          gx a2 35 <|
          lt (sI hq14 405 (ix a2) ((hI hq14 405 (ix a2)) + xq9)) fun hq17 =>
          lt ((6 : Int32) + a1) fun xq18 =>
          gx xq18 35 <|
          gx xq18 35 <|
          lt (sI hq17 405 (ix xq18) ((hI hq17 405 (ix xq18)) + a3)) fun hq21 =>
          lt ((6 : Int32) + a2) fun xq22 =>
          gx xq22 35 <|
          gx xq22 35 <|
          lt (sI hq21 405 (ix xq22) ((hI hq21 405 (ix xq22)) - a3)) fun hq25 =>
          some (xq9, hq25)
        else
          some ((-1 : Int32), hq8)
      else
        some ((-1 : Int32), hq4)
set_option maxHeartbeats 2000000 in
theorem ok_M_buy {G : AE} {n : Nat} (hn : NN ≤ n)  (a1 : Int32) (a2 : Int32) (a3 : Int32) (h : AH) : OK G n y_M_buy (7) φI [.ref 383, .int a1, .int a2, .int a3] h (f_M_buy a1 a2 a3 h) := by
  refine ok_of (y := y_M_buy) (lv0 := [some (.ref 383), some (.int a1), some (.int a2), some (.int a3), none]) (by decide +kernel) (Nat.le_of_ble_eq_true rfl) ⟨rfl, ⟨rfl, ⟨rfl, ⟨rfl, trivial⟩⟩⟩⟩ ?_
  rw [f_M_buy]
  refine r_aload_n (pc := 0) (i := 0) d_M_buy_0 rfl rfl ?_
  refine r_iload_n (pc := 1) (i := 1) d_M_buy_1 rfl rfl ?_
  refine r_iload_n (pc := 2) (i := 2) d_M_buy_2 rfl rfl ?_
  refine r_cVi (pc := 3) (T := F_12) (N := 73) (st := []) (ok_M_areTwo hn a1 a2 h) (fun s => Std.k s (lc hn rfl) kq_383) rfl w_1532 w_13 w_1529 w_1531 ws_84 hy_M_areTwo ⟨Nat.le_of_ble_eq_true rfl, Nat.le_of_ble_eq_true rfl⟩ ⟨Nat.le_of_ble_eq_true rfl, Nat.le_of_ble_eq_true rfl⟩ rfl (Nat.le_of_ble_eq_true rfl) d_M_buy_3 (fun rq1 hq2 => ?_)
  refine r_if_eq (pc := 6) (tgt := 34) d_M_buy_6 (by rfl) ?_ ?_
  · refine r_iconst (pc := 34) (v := -1) d_M_buy_34 (by rfl) ?_
    exact r_iret (pc := 35) rfl d_M_buy_35
  · refine r_iload_n (pc := 9) (i := 3) d_M_buy_9 rfl rfl ?_
    refine r_iconst (pc := 10) (v := 1) d_M_buy_10 (by rfl) ?_
    refine r_aload_n (pc := 11) (i := 0) d_M_buy_11 rfl rfl ?_
    refine r_getf (pc := 12) (ci := 12) (k := 46) (C := "CricketHayModel") (T := F_12) (N := 73) (v := .int (hI hq2 383 46)) (fun s => Std.k s (lc hn rfl) kq_383) rfl (Nat.le_of_ble_eq_true rfl) rfl w_1132 (fun _ => rfl) d_M_buy_12 ?_
    refine r_cSi (pc := 15) (st := []) (ok_M_isIn hn a3 (1 : Int32) (hI hq2 383 46) hq2) w_1479 w_13 w_1477 w_1478 hy_M_isIn ⟨Nat.le_of_ble_eq_true rfl, Nat.le_of_ble_eq_true rfl⟩ ⟨Nat.le_of_ble_eq_true rfl, Nat.le_of_ble_eq_true rfl⟩ rfl (Nat.le_of_ble_eq_true rfl) d_M_buy_15 (fun rq3 hq4 => ?_)
    refine r_if_eq (pc := 18) (tgt := 34) d_M_buy_18 (by rfl) ?_ ?_
    · refine r_iconst (pc := 34) (v := -1) d_M_buy_34 (by rfl) ?_
      exact r_iret (pc := 35) rfl d_M_buy_35
    · refine r_iload_n (pc := 21) (i := 3) d_M_buy_21 rfl rfl ?_
      refine r_aload_n (pc := 22) (i := 0) d_M_buy_22 rfl rfl ?_
      refine r_getf (pc := 23) (ci := 12) (k := 50) (C := "CricketHayModel") (T := F_12) (N := 73) (v := .ref 405) (fun s => Std.k s (lc hn rfl) kq_383) rfl (Nat.le_of_ble_eq_true rfl) rfl w_1136 (fun s => vr rfl (Std.r s (lc hn rfl) rq_383_50)) d_M_buy_23 ?_
      refine r_bipush (pc := 26) (v := 6) d_M_buy_26 (by rfl) ?_
      refine r_iload_n (pc := 28) (i := 2) d_M_buy_28 rfl rfl ?_
      refine r_iadd (pc := 29) d_M_buy_29 ?_
      refine r_gx (fun zq5 => ?_)
      refine r_iald (pc := 30) (n := 35) (i0 := (ix ((6 : Int32) + a2))) (fun s => Std.k s (lc hn rfl) kq_405) zq5 rfl d_M_buy_30 ?_
      refine r_icmp_le (pc := 31) (tgt := 36) d_M_buy_31 (by rfl) ?_ ?_
      · refine r_aload_n (pc := 36) (i := 0) d_M_buy_36 rfl rfl ?_
        refine r_cVv (pc := 37) (T := F_12) (N := 73) (st := []) (ok_M_load hn hq4) (fun s => Std.k s (lc hn rfl) kq_383) rfl w_1483 w_13 w_1480 w_1482 ws_76 hy_M_load ⟨Nat.le_of_ble_eq_true rfl, Nat.le_of_ble_eq_true rfl⟩ ⟨Nat.le_of_ble_eq_true rfl, Nat.le_of_ble_eq_true rfl⟩ rfl (Nat.le_of_ble_eq_true rfl) d_M_buy_37 (fun hq6 => ?_)
        refine r_iload_n (pc := 40) (i := 3) d_M_buy_40 rfl rfl ?_
        refine r_aload_n (pc := 41) (i := 0) d_M_buy_41 rfl rfl ?_
        refine r_iload_n (pc := 42) (i := 1) d_M_buy_42 rfl rfl ?_
        refine r_iload_n (pc := 43) (i := 2) d_M_buy_43 rfl rfl ?_
        refine r_cVi (pc := 44) (T := F_12) (N := 73) (st := [.int a3]) (ok_M_priceOf hn a1 a2 hq6) (fun s => Std.k s (lc hn rfl) kq_383) rfl w_1536 w_13 w_1533 w_1535 ws_85 hy_M_priceOf ⟨Nat.le_of_ble_eq_true rfl, Nat.le_of_ble_eq_true rfl⟩ ⟨Nat.le_of_ble_eq_true rfl, Nat.le_of_ble_eq_true rfl⟩ rfl (Nat.le_of_ble_eq_true rfl) d_M_buy_44 (fun rq7 hq8 => ?_)
        refine r_imul (pc := 47) d_M_buy_47 ?_
        refine r_ltI (fun xq9 => ?_)
        refine r_istore (pc := 48) (lv1 := [some (.ref 383), some (.int a1), some (.int a2), some (.int a3), some (.int xq9)]) d_M_buy_48 (Nat.le_of_ble_eq_true rfl) rfl ?_
        refine r_iload (pc := 50) d_M_buy_50 rfl ?_
        refine r_aload_n (pc := 52) (i := 0) d_M_buy_52 rfl rfl ?_
        refine r_getf (pc := 53) (ci := 12) (k := 50) (C := "CricketHayModel") (T := F_12) (N := 73) (v := .ref 405) (fun s => Std.k s (lc hn rfl) kq_383) rfl (Nat.le_of_ble_eq_true rfl) rfl w_1136 (fun s => vr rfl (Std.r s (lc hn rfl) rq_383_50)) d_M_buy_53 ?_
        refine r_iload_n (pc := 56) (i := 1) d_M_buy_56 rfl rfl ?_
        refine r_gx (fun zq10 => ?_)
        refine r_iald (pc := 57) (n := 35) (i0 := (ix a1)) (fun s => Std.k s (lc hn rfl) kq_405) zq10 rfl d_M_buy_57 ?_
        refine r_icmp_le (pc := 58) (tgt := 63) d_M_buy_58 (by rfl) ?_ ?_
        · refine r_aload_n (pc := 63) (i := 0) d_M_buy_63 rfl rfl ?_
          refine r_cVv (pc := 64) (T := F_12) (N := 73) (st := []) (ok_M_act hn hq8) (fun s => Std.k s (lc hn rfl) kq_383) rfl w_1560 w_13 w_1557 w_1559 ws_87 hy_M_act ⟨Nat.le_of_ble_eq_true rfl, Nat.le_of_ble_eq_true rfl⟩ ⟨Nat.le_of_ble_eq_true rfl, Nat.le_of_ble_eq_true rfl⟩ rfl (Nat.le_of_ble_eq_true rfl) d_M_buy_64 (fun hq11 => ?_)
          refine r_aload_n (pc := 67) (i := 0) d_M_buy_67 rfl rfl ?_
          refine r_getf (pc := 68) (ci := 12) (k := 50) (C := "CricketHayModel") (T := F_12) (N := 73) (v := .ref 405) (fun s => Std.k s (lc hn rfl) kq_383) rfl (Nat.le_of_ble_eq_true rfl) rfl w_1136 (fun s => vr rfl (Std.r s (lc hn rfl) rq_383_50)) d_M_buy_68 ?_
          refine r_iload_n (pc := 71) (i := 1) d_M_buy_71 rfl rfl ?_
          refine r_dup2 (pc := 72) d_M_buy_72 rfl rfl ?_
          refine r_gx (fun zq12 => ?_)
          refine r_iald (pc := 73) (n := 35) (i0 := (ix a1)) (fun s => Std.k s (lc hn rfl) kq_405) zq12 rfl d_M_buy_73 ?_
          refine r_iload (pc := 74) d_M_buy_74 rfl ?_
          refine r_isub (pc := 76) d_M_buy_76 ?_
          refine r_gx (fun zq13 => ?_)
          refine r_iast (pc := 77) (n := 35) (i0 := (ix a1)) (fun s => Std.k s (lc hn rfl) kq_405) zq13 rfl (fun s => Std.sI s _ _ _) d_M_buy_77 ?_
          refine r_ltH (fun hq14 => ?_)
          refine r_aload_n (pc := 78) (i := 0) d_M_buy_78 rfl rfl ?_
          refine r_getf (pc := 79) (ci := 12) (k := 50) (C := "CricketHayModel") (T := F_12) (N := 73) (v := .ref 405) (fun s => Std.k s (lc hn rfl) kq_383) rfl (Nat.le_of_ble_eq_true rfl) rfl w_1136 (fun s => vr rfl (Std.r s (lc hn rfl) rq_383_50)) d_M_buy_79 ?_
          refine r_iload_n (pc := 82) (i := 2) d_M_buy_82 rfl rfl ?_
          refine r_dup2 (pc := 83) d_M_buy_83 rfl rfl ?_
          refine r_gx (fun zq15 => ?_)
          refine r_iald (pc := 84) (n := 35) (i0 := (ix a2)) (fun s => Std.k s (lc hn rfl) kq_405) zq15 rfl d_M_buy_84 ?_
          refine r_iload (pc := 85) d_M_buy_85 rfl ?_
          refine r_iadd (pc := 87) d_M_buy_87 ?_
          refine r_gx (fun zq16 => ?_)
          refine r_iast (pc := 88) (n := 35) (i0 := (ix a2)) (fun s => Std.k s (lc hn rfl) kq_405) zq16 rfl (fun s => Std.sI s _ _ _) d_M_buy_88 ?_
          refine r_ltH (fun hq17 => ?_)
          refine r_aload_n (pc := 89) (i := 0) d_M_buy_89 rfl rfl ?_
          refine r_getf (pc := 90) (ci := 12) (k := 50) (C := "CricketHayModel") (T := F_12) (N := 73) (v := .ref 405) (fun s => Std.k s (lc hn rfl) kq_383) rfl (Nat.le_of_ble_eq_true rfl) rfl w_1136 (fun s => vr rfl (Std.r s (lc hn rfl) rq_383_50)) d_M_buy_90 ?_
          refine r_bipush (pc := 93) (v := 6) d_M_buy_93 (by rfl) ?_
          refine r_iload_n (pc := 95) (i := 1) d_M_buy_95 rfl rfl ?_
          refine r_iadd (pc := 96) d_M_buy_96 ?_
          refine r_ltI (fun xq18 => ?_)
          refine r_dup2 (pc := 97) d_M_buy_97 rfl rfl ?_
          refine r_gx (fun zq19 => ?_)
          refine r_iald (pc := 98) (n := 35) (i0 := (ix xq18)) (fun s => Std.k s (lc hn rfl) kq_405) zq19 rfl d_M_buy_98 ?_
          refine r_iload_n (pc := 99) (i := 3) d_M_buy_99 rfl rfl ?_
          refine r_iadd (pc := 100) d_M_buy_100 ?_
          refine r_gx (fun zq20 => ?_)
          refine r_iast (pc := 101) (n := 35) (i0 := (ix xq18)) (fun s => Std.k s (lc hn rfl) kq_405) zq20 rfl (fun s => Std.sI s _ _ _) d_M_buy_101 ?_
          refine r_ltH (fun hq21 => ?_)
          refine r_aload_n (pc := 102) (i := 0) d_M_buy_102 rfl rfl ?_
          refine r_getf (pc := 103) (ci := 12) (k := 50) (C := "CricketHayModel") (T := F_12) (N := 73) (v := .ref 405) (fun s => Std.k s (lc hn rfl) kq_383) rfl (Nat.le_of_ble_eq_true rfl) rfl w_1136 (fun s => vr rfl (Std.r s (lc hn rfl) rq_383_50)) d_M_buy_103 ?_
          refine r_bipush (pc := 106) (v := 6) d_M_buy_106 (by rfl) ?_
          refine r_iload_n (pc := 108) (i := 2) d_M_buy_108 rfl rfl ?_
          refine r_iadd (pc := 109) d_M_buy_109 ?_
          refine r_ltI (fun xq22 => ?_)
          refine r_dup2 (pc := 110) d_M_buy_110 rfl rfl ?_
          refine r_gx (fun zq23 => ?_)
          refine r_iald (pc := 111) (n := 35) (i0 := (ix xq22)) (fun s => Std.k s (lc hn rfl) kq_405) zq23 rfl d_M_buy_111 ?_
          refine r_iload_n (pc := 112) (i := 3) d_M_buy_112 rfl rfl ?_
          refine r_isub (pc := 113) d_M_buy_113 ?_
          refine r_gx (fun zq24 => ?_)
          refine r_iast (pc := 114) (n := 35) (i0 := (ix xq22)) (fun s => Std.k s (lc hn rfl) kq_405) zq24 rfl (fun s => Std.sI s _ _ _) d_M_buy_114 ?_
          refine r_ltH (fun hq25 => ?_)
          refine r_iload (pc := 115) d_M_buy_115 rfl ?_
          exact r_iret (pc := 117) rfl d_M_buy_117
        · refine r_iconst (pc := 61) (v := -1) d_M_buy_61 (by rfl) ?_
          exact r_iret (pc := 62) rfl d_M_buy_62
      · refine r_iconst (pc := 34) (v := -1) d_M_buy_34 (by rfl) ?_
        exact r_iret (pc := 35) rfl d_M_buy_35
