theorem w_2 : Cond.initialized "CricketHay$Reader" ∈ lw_good := q_t 2 (by decide +kernel) rfl
theorem w_3 : Cond.initialized "CricketHay$Market" ∈ lw_good := q_t 3 (by decide +kernel) rfl
theorem w_4 : Cond.initialized "CricketHay$Formula" ∈ lw_good := q_t 4 (by decide +kernel) rfl
theorem w_5 : Cond.initialized "CricketHay$Yard" ∈ lw_good := q_t 5 (by decide +kernel) rfl
theorem w_7 : Cond.initialized "CricketHay$Acts" ∈ lw_good := q_t 7 (by decide +kernel) rfl
theorem w_8 : Cond.initialized "CricketHay$Boxes" ∈ lw_good := q_t 8 (by decide +kernel) rfl
theorem w_9 : Cond.initialized "CricketHay$Ears" ∈ lw_good := q_t 9 (by decide +kernel) rfl
theorem w_12 : Cond.initialized "CricketHay$Lie" ∈ lw_good := q_t 12 (by decide +kernel) rfl
theorem w_36 : Cond.fieldLink "CricketHay$Reader" 9 "CricketHay$Reader" "bytes" "[I" ∈ lw_good := q_t 36 (by decide +kernel) rfl
theorem w_37 : Cond.fieldLink "CricketHay$Reader" 25 "CricketHay$Reader" "market" "LCricketHay$Market;" ∈ lw_good := q_t 37 (by decide +kernel) rfl
theorem w_38 : Cond.fieldLink "CricketHay$Reader" 106 "CricketHay$Reader" "formula" "LCricketHay$Formula;" ∈ lw_good := q_t 38 (by decide +kernel) rfl
theorem w_39 : Cond.fieldLink "CricketHay$Reader" 34 "CricketHay$Reader" "at" "I" ∈ lw_good := q_t 39 (by decide +kernel) rfl
theorem w_40 : Cond.fieldLink "CricketHay$Reader" 43 "CricketHay$Reader" "token" "I" ∈ lw_good := q_t 40 (by decide +kernel) rfl
theorem w_41 : Cond.fieldLink "CricketHay$Reader" 49 "CricketHay$Reader" "place" "I" ∈ lw_good := q_t 41 (by decide +kernel) rfl
theorem w_42 : Cond.fieldLink "CricketHay$Reader" 90 "CricketHay$Reader" "number" "I" ∈ lw_good := q_t 42 (by decide +kernel) rfl
theorem w_43 : Cond.fieldLink "CricketHay$Reader" 75 "CricketHay$Reader" "name" "J" ∈ lw_good := q_t 43 (by decide +kernel) rfl
theorem w_44 : Cond.fieldLink "CricketHay$Reader" 37 "CricketHay$Reader" "seen" "I" ∈ lw_good := q_t 44 (by decide +kernel) rfl
theorem w_45 : Cond.fieldLink "CricketHay$Reader" 15 "CricketHay$Reader" "length" "I" ∈ lw_good := q_t 45 (by decide +kernel) rfl
theorem w_46 : Cond.fieldLink "CricketHay" 93 "CricketHay$Reader" "length" "I" ∈ lw_good := q_t 46 (by decide +kernel) rfl
theorem w_47 : Cond.fieldLink "CricketHay$Reader" 19 "CricketHay$Reader" "fault" "I" ∈ lw_good := q_t 47 (by decide +kernel) rfl
theorem w_49 : Cond.fieldLink "CricketHay$Reader" 22 "CricketHay$Reader" "faultPlace" "I" ∈ lw_good := q_t 49 (by decide +kernel) rfl
theorem w_89 : Cond.fieldLink "CricketHay$Formula" 9 "CricketHay$Formula" "steps" "[I" ∈ lw_good := q_t 89 (by decide +kernel) rfl
theorem w_90 : Cond.fieldLink "CricketHay$Formula" 15 "CricketHay$Formula" "numbers" "[I" ∈ lw_good := q_t 90 (by decide +kernel) rfl
theorem w_92 : Cond.fieldLink "CricketHay$Formula" 21 "CricketHay$Formula" "size" "I" ∈ lw_good := q_t 92 (by decide +kernel) rfl
theorem w_93 : Cond.fieldLink "CricketHay$Formula" 25 "CricketHay$Formula" "units" "I" ∈ lw_good := q_t 93 (by decide +kernel) rfl
theorem w_94 : Cond.fieldLink "CricketHay$Reader" 202 "CricketHay$Formula" "units" "I" ∈ lw_good := q_t 94 (by decide +kernel) rfl
theorem w_110 : Cond.instanceMethod ⟨"CricketHay$Market", "reset", "()V"⟩ ∈ lw_good := q_t 110 (by decide +kernel) rfl
theorem w_111 : Cond.code ⟨"CricketHay$Market", "reset", "()V"⟩ prog_9_method_2_code 1 none ∈ lw_good := q_t 111 (by decide +kernel) rfl
theorem w_112 : Cond.methodLink "CricketHay$Market" 57 ⟨"CricketHay$Formula", "wipe", "()V"⟩ ∈ lw_good := q_t 112 (by decide +kernel) rfl
theorem w_113 : Cond.instanceMethod ⟨"CricketHay$Formula", "wipe", "()V"⟩ ∈ lw_good := q_t 113 (by decide +kernel) rfl
theorem w_114 : Cond.selects "CricketHay$Formula" ⟨"CricketHay$Formula", "wipe", "()V"⟩ ⟨"CricketHay$Formula", "wipe", "()V"⟩ ∈ lw_good := q_t 114 (by decide +kernel) rfl
theorem w_115 : Cond.code ⟨"CricketHay$Formula", "wipe", "()V"⟩ prog_7_method_2_code 1 none ∈ lw_good := q_t 115 (by decide +kernel) rfl
theorem w_117 : Cond.fieldLink "CricketHay$Reader" 140 "CricketHay$Market" "kindNames" "[J" ∈ lw_good := q_t 117 (by decide +kernel) rfl
theorem w_119 : Cond.fieldLink "CricketHay$Reader" 148 "CricketHay$Market" "names" "[J" ∈ lw_good := q_t 119 (by decide +kernel) rfl
theorem w_123 : Cond.fieldLink "CricketHay$Reader" 151 "CricketHay$Market" "kind" "[I" ∈ lw_good := q_t 123 (by decide +kernel) rfl
theorem w_128 : Cond.fieldLink "CricketHay$Reader" 157 "CricketHay$Market" "song" "[I" ∈ lw_good := q_t 128 (by decide +kernel) rfl
theorem w_130 : Cond.fieldLink "CricketHay$Yard" 47 "CricketHay$Market" "age" "[I" ∈ lw_good := q_t 130 (by decide +kernel) rfl
theorem w_131 : Cond.fieldLink "CricketHay$Reader" 160 "CricketHay$Market" "age" "[I" ∈ lw_good := q_t 131 (by decide +kernel) rfl
theorem w_133 : Cond.fieldLink "CricketHay$Yard" 43 "CricketHay$Market" "gold" "[I" ∈ lw_good := q_t 133 (by decide +kernel) rfl
theorem w_134 : Cond.fieldLink "CricketHay$Reader" 166 "CricketHay$Market" "gold" "[I" ∈ lw_good := q_t 134 (by decide +kernel) rfl
theorem w_136 : Cond.fieldLink "CricketHay$Yard" 46 "CricketHay$Market" "loads" "[I" ∈ lw_good := q_t 136 (by decide +kernel) rfl
theorem w_137 : Cond.fieldLink "CricketHay$Reader" 169 "CricketHay$Market" "loads" "[I" ∈ lw_good := q_t 137 (by decide +kernel) rfl
theorem w_142 : Cond.fieldLink "CricketHay$Reader" 172 "CricketHay$Market" "needs" "[I" ∈ lw_good := q_t 142 (by decide +kernel) rfl
theorem w_143 : Cond.fieldLink "CricketHay$Market" 40 "CricketHay$Market" "chirps" "LCricketHay$Formula;" ∈ lw_good := q_t 143 (by decide +kernel) rfl
theorem w_144 : Cond.fieldLink "CricketHay$Reader" 102 "CricketHay$Market" "chirps" "LCricketHay$Formula;" ∈ lw_good := q_t 144 (by decide +kernel) rfl
theorem w_146 : Cond.fieldLink "CricketHay$Market" 44 "CricketHay$Market" "heat" "LCricketHay$Formula;" ∈ lw_good := q_t 146 (by decide +kernel) rfl
theorem w_147 : Cond.fieldLink "CricketHay$Reader" 112 "CricketHay$Market" "heat" "LCricketHay$Formula;" ∈ lw_good := q_t 147 (by decide +kernel) rfl
theorem w_149 : Cond.fieldLink "CricketHay$Market" 50 "CricketHay$Market" "kinds" "I" ∈ lw_good := q_t 149 (by decide +kernel) rfl
theorem w_150 : Cond.fieldLink "CricketHay$Reader" 131 "CricketHay$Market" "kinds" "I" ∈ lw_good := q_t 150 (by decide +kernel) rfl
theorem w_153 : Cond.fieldLink "CricketHay$Market" 54 "CricketHay$Market" "dealers" "I" ∈ lw_good := q_t 153 (by decide +kernel) rfl
theorem w_155 : Cond.fieldLink "CricketHay" 115 "CricketHay$Market" "dealers" "I" ∈ lw_good := q_t 155 (by decide +kernel) rfl
theorem w_157 : Cond.fieldLink "CricketHay$Reader" 134 "CricketHay$Market" "dealers" "I" ∈ lw_good := q_t 157 (by decide +kernel) rfl
theorem w_158 : Cond.fieldLink "CricketHay$Market" 60 "CricketHay$Market" "chance" "I" ∈ lw_good := q_t 158 (by decide +kernel) rfl
theorem w_160 : Cond.fieldLink "CricketHay$Reader" 175 "CricketHay$Market" "chance" "I" ∈ lw_good := q_t 160 (by decide +kernel) rfl
theorem w_162 : Cond.fieldLink "CricketHay$Market" 63 "CricketHay$Market" "snap" "I" ∈ lw_good := q_t 162 (by decide +kernel) rfl
theorem w_164 : Cond.fieldLink "CricketHay$Reader" 178 "CricketHay$Market" "snap" "I" ∈ lw_good := q_t 164 (by decide +kernel) rfl
theorem w_165 : Cond.fieldLink "CricketHay$Market" 66 "CricketHay$Market" "cart" "I" ∈ lw_good := q_t 165 (by decide +kernel) rfl
theorem w_167 : Cond.fieldLink "CricketHay$Reader" 122 "CricketHay$Market" "cart" "I" ∈ lw_good := q_t 167 (by decide +kernel) rfl
theorem w_168 : Cond.fieldLink "CricketHay$Market" 69 "CricketHay$Market" "draw" "I" ∈ lw_good := q_t 168 (by decide +kernel) rfl
theorem w_169 : Cond.fieldLink "CricketHay$Yard" 48 "CricketHay$Market" "draw" "I" ∈ lw_good := q_t 169 (by decide +kernel) rfl
theorem w_170 : Cond.fieldLink "CricketHay$Reader" 125 "CricketHay$Market" "draw" "I" ∈ lw_good := q_t 170 (by decide +kernel) rfl
theorem w_210 : Cond.fieldLink "CricketHay$Yard" 9 "CricketHay$Yard" "gold" "[I" ∈ lw_good := q_t 210 (by decide +kernel) rfl
theorem w_213 : Cond.fieldLink "CricketHay$Yard" 15 "CricketHay$Yard" "loads" "[I" ∈ lw_good := q_t 213 (by decide +kernel) rfl
theorem w_216 : Cond.fieldLink "CricketHay$Yard" 18 "CricketHay$Yard" "hunger" "[I" ∈ lw_good := q_t 216 (by decide +kernel) rfl
theorem w_218 : Cond.fieldLink "CricketHay$Yard" 21 "CricketHay$Yard" "age" "[I" ∈ lw_good := q_t 218 (by decide +kernel) rfl
theorem w_221 : Cond.fieldLink "CricketHay$Yard" 24 "CricketHay$Yard" "breath" "[I" ∈ lw_good := q_t 221 (by decide +kernel) rfl
theorem w_224 : Cond.fieldLink "CricketHay$Yard" 27 "CricketHay$Yard" "freed" "[I" ∈ lw_good := q_t 224 (by decide +kernel) rfl
theorem w_227 : Cond.fieldLink "CricketHay$Yard" 30 "CricketHay$Yard" "cold" "I" ∈ lw_good := q_t 227 (by decide +kernel) rfl
theorem w_229 : Cond.fieldLink "CricketHay$Yard" 34 "CricketHay$Yard" "hour" "I" ∈ lw_good := q_t 229 (by decide +kernel) rfl
theorem w_233 : Cond.fieldLink "CricketHay$Yard" 37 "CricketHay$Yard" "day" "I" ∈ lw_good := q_t 233 (by decide +kernel) rfl
theorem w_237 : Cond.fieldLink "CricketHay$Yard" 40 "CricketHay$Yard" "seed" "I" ∈ lw_good := q_t 237 (by decide +kernel) rfl
theorem w_284 : Cond.fieldLink "CricketHay$Acts" 17 "CricketHay$Acts" "done" "I" ∈ lw_good := q_t 284 (by decide +kernel) rfl
theorem w_286 : Cond.fieldLink "CricketHay$Acts" 21 "CricketHay$Acts" "undone" "I" ∈ lw_good := q_t 286 (by decide +kernel) rfl
theorem w_304 : Cond.fieldLink "CricketHay$Boxes" 17 "CricketHay$Boxes" "full" "[Z" ∈ lw_good := q_t 304 (by decide +kernel) rfl
theorem w_324 : Cond.fieldLink "CricketHay$Ears" 34 "CricketHay$Ears" "sungHour" "I" ∈ lw_good := q_t 324 (by decide +kernel) rfl
theorem w_327 : Cond.fieldLink "CricketHay$Ears" 44 "CricketHay$Ears" "count" "I" ∈ lw_good := q_t 327 (by decide +kernel) rfl
theorem w_411 : Cond.fieldLink "CricketHay$Lie" 15 "CricketHay$Lie" "count" "I" ∈ lw_good := q_t 411 (by decide +kernel) rfl
theorem w_418 : Cond.methodLink "CricketHay" 89 ⟨"CricketHay$Yard", "open", "(LCricketHay$Market;)V"⟩ ∈ lw_good := q_t 418 (by decide +kernel) rfl
theorem w_419 : Cond.instanceMethod ⟨"CricketHay$Yard", "open", "(LCricketHay$Market;)V"⟩ ∈ lw_good := q_t 419 (by decide +kernel) rfl
theorem w_420 : Cond.selects "CricketHay$Yard" ⟨"CricketHay$Yard", "open", "(LCricketHay$Market;)V"⟩ ⟨"CricketHay$Yard", "open", "(LCricketHay$Market;)V"⟩ ∈ lw_good := q_t 420 (by decide +kernel) rfl
theorem w_421 : Cond.code ⟨"CricketHay$Yard", "open", "(LCricketHay$Market;)V"⟩ prog_12_method_2_code 3 none ∈ lw_good := q_t 421 (by decide +kernel) rfl
theorem w_422 : Cond.fieldLink "CricketHay" 12 "CricketHay" "reader" "LCricketHay$Reader;" ∈ lw_good := q_t 422 (by decide +kernel) rfl
theorem w_423 : Cond.fieldLink "CricketHay" 19 "CricketHay" "told" "LCricketHay$Market;" ∈ lw_good := q_t 423 (by decide +kernel) rfl
theorem w_424 : Cond.fieldLink "CricketHay" 23 "CricketHay" "draft" "LCricketHay$Market;" ∈ lw_good := q_t 424 (by decide +kernel) rfl
theorem w_425 : Cond.fieldLink "CricketHay" 29 "CricketHay" "now" "LCricketHay$Yard;" ∈ lw_good := q_t 425 (by decide +kernel) rfl
theorem w_428 : Cond.fieldLink "CricketHay" 46 "CricketHay" "acts" "LCricketHay$Acts;" ∈ lw_good := q_t 428 (by decide +kernel) rfl
theorem w_429 : Cond.fieldLink "CricketHay" 53 "CricketHay" "boxes" "LCricketHay$Boxes;" ∈ lw_good := q_t 429 (by decide +kernel) rfl
theorem w_430 : Cond.fieldLink "CricketHay" 60 "CricketHay" "ears" "LCricketHay$Ears;" ∈ lw_good := q_t 430 (by decide +kernel) rfl
theorem w_433 : Cond.fieldLink "CricketHay" 81 "CricketHay" "lie" "LCricketHay$Lie;" ∈ lw_good := q_t 433 (by decide +kernel) rfl
theorem w_466 : Cond.methodLink "CricketHay" 97 ⟨"CricketHay$Reader", "put", "(I)V"⟩ ∈ lw_good := q_t 466 (by decide +kernel) rfl
theorem w_467 : Cond.instanceMethod ⟨"CricketHay$Reader", "put", "(I)V"⟩ ∈ lw_good := q_t 467 (by decide +kernel) rfl
theorem w_468 : Cond.selects "CricketHay$Reader" ⟨"CricketHay$Reader", "put", "(I)V"⟩ ⟨"CricketHay$Reader", "put", "(I)V"⟩ ∈ lw_good := q_t 468 (by decide +kernel) rfl
theorem w_469 : Cond.code ⟨"CricketHay$Reader", "put", "(I)V"⟩ prog_11_method_2_code 3 none ∈ lw_good := q_t 469 (by decide +kernel) rfl
theorem w_478 : Cond.methodLink "CricketHay" 101 ⟨"CricketHay$Reader", "read", "(LCricketHay$Market;)Z"⟩ ∈ lw_good := q_t 478 (by decide +kernel) rfl
theorem w_479 : Cond.instanceMethod ⟨"CricketHay$Reader", "read", "(LCricketHay$Market;)Z"⟩ ∈ lw_good := q_t 479 (by decide +kernel) rfl
theorem w_480 : Cond.selects "CricketHay$Reader" ⟨"CricketHay$Reader", "read", "(LCricketHay$Market;)Z"⟩ ⟨"CricketHay$Reader", "read", "(LCricketHay$Market;)Z"⟩ ∈ lw_good := q_t 480 (by decide +kernel) rfl
theorem w_481 : Cond.code ⟨"CricketHay$Reader", "read", "(LCricketHay$Market;)Z"⟩ prog_11_method_3_code 3 (some .boolean) ∈ lw_good := q_t 481 (by decide +kernel) rfl
theorem w_483 : Cond.methodLink "CricketHay$Reader" 40 ⟨"CricketHay$Reader", "next", "()V"⟩ ∈ lw_good := q_t 483 (by decide +kernel) rfl
theorem w_485 : Cond.instanceMethod ⟨"CricketHay$Reader", "next", "()V"⟩ ∈ lw_good := q_t 485 (by decide +kernel) rfl
theorem w_486 : Cond.code ⟨"CricketHay$Reader", "next", "()V"⟩ prog_11_method_5_code 2 none ∈ lw_good := q_t 486 (by decide +kernel) rfl
theorem w_487 : Cond.methodLink "CricketHay$Reader" 52 ⟨"CricketHay$Reader", "isBlank", "(I)Z"⟩ ∈ lw_good := q_t 487 (by decide +kernel) rfl
theorem w_488 : Cond.static ⟨"CricketHay$Reader", "isBlank", "(I)Z"⟩ ∈ lw_good := q_t 488 (by decide +kernel) rfl
theorem w_489 : Cond.code ⟨"CricketHay$Reader", "isBlank", "(I)Z"⟩ prog_11_method_8_code 1 (some .boolean) ∈ lw_good := q_t 489 (by decide +kernel) rfl
theorem w_490 : Cond.methodLink "CricketHay$Reader" 56 ⟨"CricketHay$Reader", "isLetter", "(I)Z"⟩ ∈ lw_good := q_t 490 (by decide +kernel) rfl
theorem w_491 : Cond.static ⟨"CricketHay$Reader", "isLetter", "(I)Z"⟩ ∈ lw_good := q_t 491 (by decide +kernel) rfl
theorem w_492 : Cond.code ⟨"CricketHay$Reader", "isLetter", "(I)Z"⟩ prog_11_method_9_code 1 (some .boolean) ∈ lw_good := q_t 492 (by decide +kernel) rfl
theorem w_493 : Cond.methodLink "CricketHay$Reader" 59 ⟨"CricketHay$Reader", "readWord", "()V"⟩ ∈ lw_good := q_t 493 (by decide +kernel) rfl
theorem w_495 : Cond.instanceMethod ⟨"CricketHay$Reader", "readWord", "()V"⟩ ∈ lw_good := q_t 495 (by decide +kernel) rfl
theorem w_496 : Cond.code ⟨"CricketHay$Reader", "readWord", "()V"⟩ prog_11_method_6_code 3 none ∈ lw_good := q_t 496 (by decide +kernel) rfl
theorem w_497 : Cond.methodLink "CricketHay$Reader" 71 ⟨"CricketHay$Reader", "fail", "(I)V"⟩ ∈ lw_good := q_t 497 (by decide +kernel) rfl
theorem w_499 : Cond.instanceMethod ⟨"CricketHay$Reader", "fail", "(I)V"⟩ ∈ lw_good := q_t 499 (by decide +kernel) rfl
theorem w_500 : Cond.code ⟨"CricketHay$Reader", "fail", "(I)V"⟩ prog_11_method_4_code 2 none ∈ lw_good := q_t 500 (by decide +kernel) rfl
theorem w_502 : Cond.methodLink "CricketHay$Reader" 81 ⟨"java/lang/String", "length", "()I"⟩ ∈ lw_good := q_t 502 (by decide +kernel) rfl
theorem w_503 : Cond.instanceMethod ⟨"java/lang/String", "length", "()I"⟩ ∈ lw_good := q_t 503 (by decide +kernel) rfl
theorem w_504 : Cond.selects "java/lang/String" ⟨"java/lang/String", "length", "()I"⟩ ⟨"java/lang/String", "length", "()I"⟩ ∈ lw_good := q_t 504 (by decide +kernel) rfl
theorem w_505 : Cond.code ⟨"java/lang/String", "length", "()I"⟩ prog_17_method_54_code 1 (some .int) ∈ lw_good := q_t 505 (by decide +kernel) rfl
theorem w_512 : Cond.methodLink "CricketHay$Reader" 86 ⟨"java/lang/String", "charAt", "(I)C"⟩ ∈ lw_good := q_t 512 (by decide +kernel) rfl
theorem w_513 : Cond.instanceMethod ⟨"java/lang/String", "charAt", "(I)C"⟩ ∈ lw_good := q_t 513 (by decide +kernel) rfl
theorem w_514 : Cond.selects "java/lang/String" ⟨"java/lang/String", "charAt", "(I)C"⟩ ⟨"java/lang/String", "charAt", "(I)C"⟩ ∈ lw_good := q_t 514 (by decide +kernel) rfl
theorem w_515 : Cond.code ⟨"java/lang/String", "charAt", "(I)C"⟩ prog_17_method_56_code 2 (some .char) ∈ lw_good := q_t 515 (by decide +kernel) rfl
theorem w_550 : Cond.methodLink "CricketHay$Reader" 62 ⟨"CricketHay$Reader", "isDigit", "(I)Z"⟩ ∈ lw_good := q_t 550 (by decide +kernel) rfl
theorem w_551 : Cond.static ⟨"CricketHay$Reader", "isDigit", "(I)Z"⟩ ∈ lw_good := q_t 551 (by decide +kernel) rfl
theorem w_552 : Cond.code ⟨"CricketHay$Reader", "isDigit", "(I)Z"⟩ prog_11_method_10_code 1 (some .boolean) ∈ lw_good := q_t 552 (by decide +kernel) rfl
theorem w_553 : Cond.methodLink "CricketHay$Reader" 65 ⟨"CricketHay$Reader", "readNumber", "()V"⟩ ∈ lw_good := q_t 553 (by decide +kernel) rfl
theorem w_555 : Cond.instanceMethod ⟨"CricketHay$Reader", "readNumber", "()V"⟩ ∈ lw_good := q_t 555 (by decide +kernel) rfl
theorem w_556 : Cond.code ⟨"CricketHay$Reader", "readNumber", "()V"⟩ prog_11_method_7_code 1 none ∈ lw_good := q_t 556 (by decide +kernel) rfl
theorem w_557 : Cond.methodLink "CricketHay$Reader" 68 ⟨"CricketHay$Reader", "isSign", "(I)Z"⟩ ∈ lw_good := q_t 557 (by decide +kernel) rfl
theorem w_558 : Cond.static ⟨"CricketHay$Reader", "isSign", "(I)Z"⟩ ∈ lw_good := q_t 558 (by decide +kernel) rfl
theorem w_559 : Cond.code ⟨"CricketHay$Reader", "isSign", "(I)Z"⟩ prog_11_method_11_code 1 (some .boolean) ∈ lw_good := q_t 559 (by decide +kernel) rfl
theorem w_560 : Cond.methodLink "CricketHay$Reader" 46 ⟨"CricketHay$Reader", "readLine", "()V"⟩ ∈ lw_good := q_t 560 (by decide +kernel) rfl
theorem w_562 : Cond.instanceMethod ⟨"CricketHay$Reader", "readLine", "()V"⟩ ∈ lw_good := q_t 562 (by decide +kernel) rfl
theorem w_563 : Cond.code ⟨"CricketHay$Reader", "readLine", "()V"⟩ prog_11_method_15_code 2 none ∈ lw_good := q_t 563 (by decide +kernel) rfl
theorem w_564 : Cond.methodLink "CricketHay$Reader" 93 ⟨"CricketHay$Reader", "mayStand", "(I)Z"⟩ ∈ lw_good := q_t 564 (by decide +kernel) rfl
theorem w_566 : Cond.instanceMethod ⟨"CricketHay$Reader", "mayStand", "(I)Z"⟩ ∈ lw_good := q_t 566 (by decide +kernel) rfl
theorem w_567 : Cond.code ⟨"CricketHay$Reader", "mayStand", "(I)Z"⟩ prog_11_method_16_code 2 (some .boolean) ∈ lw_good := q_t 567 (by decide +kernel) rfl
theorem w_568 : Cond.methodLink "CricketHay$Reader" 137 ⟨"CricketHay$Reader", "isFirst", "(I)Z"⟩ ∈ lw_good := q_t 568 (by decide +kernel) rfl
theorem w_570 : Cond.instanceMethod ⟨"CricketHay$Reader", "isFirst", "(I)Z"⟩ ∈ lw_good := q_t 570 (by decide +kernel) rfl
theorem w_571 : Cond.code ⟨"CricketHay$Reader", "isFirst", "(I)Z"⟩ prog_11_method_17_code 4 (some .boolean) ∈ lw_good := q_t 571 (by decide +kernel) rfl
theorem w_572 : Cond.methodLink "CricketHay$Reader" 96 ⟨"CricketHay$Reader", "readKind", "()V"⟩ ∈ lw_good := q_t 572 (by decide +kernel) rfl
theorem w_574 : Cond.instanceMethod ⟨"CricketHay$Reader", "readKind", "()V"⟩ ∈ lw_good := q_t 574 (by decide +kernel) rfl
theorem w_575 : Cond.code ⟨"CricketHay$Reader", "readKind", "()V"⟩ prog_11_method_18_code 1 none ∈ lw_good := q_t 575 (by decide +kernel) rfl
theorem w_576 : Cond.methodLink "CricketHay$Reader" 144 ⟨"CricketHay$Reader", "isNewName", "([JI)Z"⟩ ∈ lw_good := q_t 576 (by decide +kernel) rfl
theorem w_578 : Cond.instanceMethod ⟨"CricketHay$Reader", "isNewName", "([JI)Z"⟩ ∈ lw_good := q_t 578 (by decide +kernel) rfl
theorem w_579 : Cond.code ⟨"CricketHay$Reader", "isNewName", "([JI)Z"⟩ prog_11_method_20_code 4 (some .boolean) ∈ lw_good := q_t 579 (by decide +kernel) rfl
theorem w_580 : Cond.methodLink "CricketHay$Reader" 99 ⟨"CricketHay$Reader", "readDealer", "()V"⟩ ∈ lw_good := q_t 580 (by decide +kernel) rfl
theorem w_582 : Cond.instanceMethod ⟨"CricketHay$Reader", "readDealer", "()V"⟩ ∈ lw_good := q_t 582 (by decide +kernel) rfl
theorem w_583 : Cond.code ⟨"CricketHay$Reader", "readDealer", "()V"⟩ prog_11_method_19_code 2 none ∈ lw_good := q_t 583 (by decide +kernel) rfl
theorem w_584 : Cond.methodLink "CricketHay$Reader" 128 ⟨"CricketHay$Reader", "need", "(I)V"⟩ ∈ lw_good := q_t 584 (by decide +kernel) rfl
theorem w_586 : Cond.instanceMethod ⟨"CricketHay$Reader", "need", "(I)V"⟩ ∈ lw_good := q_t 586 (by decide +kernel) rfl
theorem w_587 : Cond.code ⟨"CricketHay$Reader", "need", "(I)V"⟩ prog_11_method_13_code 2 none ∈ lw_good := q_t 587 (by decide +kernel) rfl
theorem w_588 : Cond.methodLink "CricketHay$Reader" 154 ⟨"CricketHay$Reader", "needKind", "()I"⟩ ∈ lw_good := q_t 588 (by decide +kernel) rfl
theorem w_590 : Cond.instanceMethod ⟨"CricketHay$Reader", "needKind", "()I"⟩ ∈ lw_good := q_t 590 (by decide +kernel) rfl
theorem w_591 : Cond.code ⟨"CricketHay$Reader", "needKind", "()I"⟩ prog_11_method_21_code 2 (some .int) ∈ lw_good := q_t 591 (by decide +kernel) rfl
theorem w_592 : Cond.methodLink "CricketHay$Reader" 118 ⟨"CricketHay$Reader", "needNumber", "(II)I"⟩ ∈ lw_good := q_t 592 (by decide +kernel) rfl
theorem w_594 : Cond.instanceMethod ⟨"CricketHay$Reader", "needNumber", "(II)I"⟩ ∈ lw_good := q_t 594 (by decide +kernel) rfl
theorem w_595 : Cond.code ⟨"CricketHay$Reader", "needNumber", "(II)I"⟩ prog_11_method_14_code 4 (some .int) ∈ lw_good := q_t 595 (by decide +kernel) rfl
theorem w_596 : Cond.methodLink "CricketHay$Reader" 163 ⟨"CricketHay$Reader", "take", "(I)Z"⟩ ∈ lw_good := q_t 596 (by decide +kernel) rfl
theorem w_598 : Cond.instanceMethod ⟨"CricketHay$Reader", "take", "(I)Z"⟩ ∈ lw_good := q_t 598 (by decide +kernel) rfl
theorem w_599 : Cond.code ⟨"CricketHay$Reader", "take", "(I)Z"⟩ prog_11_method_12_code 2 (some .boolean) ∈ lw_good := q_t 599 (by decide +kernel) rfl
theorem w_600 : Cond.methodLink "CricketHay$Reader" 109 ⟨"CricketHay$Reader", "readEither", "(I)V"⟩ ∈ lw_good := q_t 600 (by decide +kernel) rfl
theorem w_602 : Cond.instanceMethod ⟨"CricketHay$Reader", "readEither", "(I)V"⟩ ∈ lw_good := q_t 602 (by decide +kernel) rfl
theorem w_603 : Cond.code ⟨"CricketHay$Reader", "readEither", "(I)V"⟩ prog_11_method_23_code 3 none ∈ lw_good := q_t 603 (by decide +kernel) rfl
theorem w_604 : Cond.methodLink "CricketHay$Reader" 181 ⟨"CricketHay$Reader", "readBoth", "(I)V"⟩ ∈ lw_good := q_t 604 (by decide +kernel) rfl
theorem w_606 : Cond.instanceMethod ⟨"CricketHay$Reader", "readBoth", "(I)V"⟩ ∈ lw_good := q_t 606 (by decide +kernel) rfl
theorem w_607 : Cond.code ⟨"CricketHay$Reader", "readBoth", "(I)V"⟩ prog_11_method_24_code 3 none ∈ lw_good := q_t 607 (by decide +kernel) rfl
theorem w_608 : Cond.methodLink "CricketHay$Reader" 190 ⟨"CricketHay$Reader", "readOne", "(I)V"⟩ ∈ lw_good := q_t 608 (by decide +kernel) rfl
theorem w_610 : Cond.instanceMethod ⟨"CricketHay$Reader", "readOne", "(I)V"⟩ ∈ lw_good := q_t 610 (by decide +kernel) rfl
theorem w_611 : Cond.code ⟨"CricketHay$Reader", "readOne", "(I)V"⟩ prog_11_method_25_code 3 none ∈ lw_good := q_t 611 (by decide +kernel) rfl
theorem w_612 : Cond.methodLink "CricketHay$Reader" 184 ⟨"CricketHay$Formula", "add", "(II)V"⟩ ∈ lw_good := q_t 612 (by decide +kernel) rfl
theorem w_613 : Cond.instanceMethod ⟨"CricketHay$Formula", "add", "(II)V"⟩ ∈ lw_good := q_t 613 (by decide +kernel) rfl
theorem w_614 : Cond.selects "CricketHay$Formula" ⟨"CricketHay$Formula", "add", "(II)V"⟩ ⟨"CricketHay$Formula", "add", "(II)V"⟩ ∈ lw_good := q_t 614 (by decide +kernel) rfl
theorem w_615 : Cond.code ⟨"CricketHay$Formula", "add", "(II)V"⟩ prog_7_method_4_code 3 none ∈ lw_good := q_t 615 (by decide +kernel) rfl
theorem w_616 : Cond.methodLink "CricketHay$Reader" 193 ⟨"CricketHay$Reader", "readSum", "(I)V"⟩ ∈ lw_good := q_t 616 (by decide +kernel) rfl
theorem w_618 : Cond.instanceMethod ⟨"CricketHay$Reader", "readSum", "(I)V"⟩ ∈ lw_good := q_t 618 (by decide +kernel) rfl
theorem w_619 : Cond.code ⟨"CricketHay$Reader", "readSum", "(I)V"⟩ prog_11_method_26_code 4 none ∈ lw_good := q_t 619 (by decide +kernel) rfl
theorem w_620 : Cond.methodLink "CricketHay$Reader" 196 ⟨"CricketHay$Reader", "readTerm", "(I)V"⟩ ∈ lw_good := q_t 620 (by decide +kernel) rfl
theorem w_622 : Cond.instanceMethod ⟨"CricketHay$Reader", "readTerm", "(I)V"⟩ ∈ lw_good := q_t 622 (by decide +kernel) rfl
theorem w_623 : Cond.code ⟨"CricketHay$Reader", "readTerm", "(I)V"⟩ prog_11_method_27_code 4 none ∈ lw_good := q_t 623 (by decide +kernel) rfl
theorem w_624 : Cond.methodLink "CricketHay$Reader" 199 ⟨"CricketHay$Reader", "readUnit", "(I)V"⟩ ∈ lw_good := q_t 624 (by decide +kernel) rfl
theorem w_626 : Cond.instanceMethod ⟨"CricketHay$Reader", "readUnit", "(I)V"⟩ ∈ lw_good := q_t 626 (by decide +kernel) rfl
theorem w_627 : Cond.code ⟨"CricketHay$Reader", "readUnit", "(I)V"⟩ prog_11_method_28_code 2 none ∈ lw_good := q_t 627 (by decide +kernel) rfl
theorem w_628 : Cond.methodLink "CricketHay$Reader" 205 ⟨"CricketHay$Reader", "readInner", "(I)V"⟩ ∈ lw_good := q_t 628 (by decide +kernel) rfl
theorem w_630 : Cond.instanceMethod ⟨"CricketHay$Reader", "readInner", "(I)V"⟩ ∈ lw_good := q_t 630 (by decide +kernel) rfl
theorem w_631 : Cond.code ⟨"CricketHay$Reader", "readInner", "(I)V"⟩ prog_11_method_29_code 2 none ∈ lw_good := q_t 631 (by decide +kernel) rfl
theorem w_632 : Cond.methodLink "CricketHay$Reader" 115 ⟨"CricketHay$Reader", "readSnap", "()V"⟩ ∈ lw_good := q_t 632 (by decide +kernel) rfl
theorem w_634 : Cond.instanceMethod ⟨"CricketHay$Reader", "readSnap", "()V"⟩ ∈ lw_good := q_t 634 (by decide +kernel) rfl
theorem w_635 : Cond.code ⟨"CricketHay$Reader", "readSnap", "()V"⟩ prog_11_method_22_code 1 none ∈ lw_good := q_t 635 (by decide +kernel) rfl
theorem w_636 : Cond.methodLink "CricketHay" 105 ⟨"CricketHay$Acts", "forget", "()V"⟩ ∈ lw_good := q_t 636 (by decide +kernel) rfl
theorem w_637 : Cond.instanceMethod ⟨"CricketHay$Acts", "forget", "()V"⟩ ∈ lw_good := q_t 637 (by decide +kernel) rfl
theorem w_638 : Cond.selects "CricketHay$Acts" ⟨"CricketHay$Acts", "forget", "()V"⟩ ⟨"CricketHay$Acts", "forget", "()V"⟩ ∈ lw_good := q_t 638 (by decide +kernel) rfl
theorem w_639 : Cond.code ⟨"CricketHay$Acts", "forget", "()V"⟩ prog_2_method_2_code 1 none ∈ lw_good := q_t 639 (by decide +kernel) rfl
theorem w_640 : Cond.methodLink "CricketHay" 108 ⟨"CricketHay$Boxes", "empty", "()V"⟩ ∈ lw_good := q_t 640 (by decide +kernel) rfl
theorem w_641 : Cond.instanceMethod ⟨"CricketHay$Boxes", "empty", "()V"⟩ ∈ lw_good := q_t 641 (by decide +kernel) rfl
theorem w_642 : Cond.selects "CricketHay$Boxes" ⟨"CricketHay$Boxes", "empty", "()V"⟩ ⟨"CricketHay$Boxes", "empty", "()V"⟩ ∈ lw_good := q_t 642 (by decide +kernel) rfl
theorem w_643 : Cond.code ⟨"CricketHay$Boxes", "empty", "()V"⟩ prog_3_method_2_code 2 none ∈ lw_good := q_t 643 (by decide +kernel) rfl
theorem w_644 : Cond.methodLink "CricketHay" 111 ⟨"CricketHay$Ears", "forget", "()V"⟩ ∈ lw_good := q_t 644 (by decide +kernel) rfl
theorem w_645 : Cond.instanceMethod ⟨"CricketHay$Ears", "forget", "()V"⟩ ∈ lw_good := q_t 645 (by decide +kernel) rfl
theorem w_646 : Cond.selects "CricketHay$Ears" ⟨"CricketHay$Ears", "forget", "()V"⟩ ⟨"CricketHay$Ears", "forget", "()V"⟩ ∈ lw_good := q_t 646 (by decide +kernel) rfl
theorem w_647 : Cond.code ⟨"CricketHay$Ears", "forget", "()V"⟩ prog_6_method_2_code 1 none ∈ lw_good := q_t 647 (by decide +kernel) rfl
theorem w_648 : Cond.methodLink "CricketHay" 112 ⟨"CricketHay$Lie", "wipe", "()V"⟩ ∈ lw_good := q_t 648 (by decide +kernel) rfl
theorem w_649 : Cond.instanceMethod ⟨"CricketHay$Lie", "wipe", "()V"⟩ ∈ lw_good := q_t 649 (by decide +kernel) rfl
theorem w_650 : Cond.selects "CricketHay$Lie" ⟨"CricketHay$Lie", "wipe", "()V"⟩ ⟨"CricketHay$Lie", "wipe", "()V"⟩ ∈ lw_good := q_t 650 (by decide +kernel) rfl
theorem w_651 : Cond.code ⟨"CricketHay$Lie", "wipe", "()V"⟩ prog_8_method_2_code 1 none ∈ lw_good := q_t 651 (by decide +kernel) rfl
theorem ws_0 : Cond.selects "CricketHay$Market" ⟨"CricketHay$Market", "reset", "()V"⟩ ⟨"CricketHay$Market", "reset", "()V"⟩ ∈ lw_good := q_s 0 (by decide +kernel) rfl
theorem ws_1 : Cond.selects "CricketHay$Reader" ⟨"CricketHay$Reader", "next", "()V"⟩ ⟨"CricketHay$Reader", "next", "()V"⟩ ∈ lw_good := q_s 1 (by decide +kernel) rfl
theorem ws_2 : Cond.selects "CricketHay$Reader" ⟨"CricketHay$Reader", "readWord", "()V"⟩ ⟨"CricketHay$Reader", "readWord", "()V"⟩ ∈ lw_good := q_s 2 (by decide +kernel) rfl
theorem ws_3 : Cond.selects "CricketHay$Reader" ⟨"CricketHay$Reader", "fail", "(I)V"⟩ ⟨"CricketHay$Reader", "fail", "(I)V"⟩ ∈ lw_good := q_s 3 (by decide +kernel) rfl
theorem ws_4 : Cond.selects "CricketHay$Reader" ⟨"CricketHay$Reader", "readNumber", "()V"⟩ ⟨"CricketHay$Reader", "readNumber", "()V"⟩ ∈ lw_good := q_s 4 (by decide +kernel) rfl
theorem ws_5 : Cond.selects "CricketHay$Reader" ⟨"CricketHay$Reader", "readLine", "()V"⟩ ⟨"CricketHay$Reader", "readLine", "()V"⟩ ∈ lw_good := q_s 5 (by decide +kernel) rfl
theorem ws_6 : Cond.selects "CricketHay$Reader" ⟨"CricketHay$Reader", "mayStand", "(I)Z"⟩ ⟨"CricketHay$Reader", "mayStand", "(I)Z"⟩ ∈ lw_good := q_s 6 (by decide +kernel) rfl
theorem ws_7 : Cond.selects "CricketHay$Reader" ⟨"CricketHay$Reader", "isFirst", "(I)Z"⟩ ⟨"CricketHay$Reader", "isFirst", "(I)Z"⟩ ∈ lw_good := q_s 7 (by decide +kernel) rfl
theorem ws_8 : Cond.selects "CricketHay$Reader" ⟨"CricketHay$Reader", "readKind", "()V"⟩ ⟨"CricketHay$Reader", "readKind", "()V"⟩ ∈ lw_good := q_s 8 (by decide +kernel) rfl
theorem ws_9 : Cond.selects "CricketHay$Reader" ⟨"CricketHay$Reader", "isNewName", "([JI)Z"⟩ ⟨"CricketHay$Reader", "isNewName", "([JI)Z"⟩ ∈ lw_good := q_s 9 (by decide +kernel) rfl
theorem ws_10 : Cond.selects "CricketHay$Reader" ⟨"CricketHay$Reader", "readDealer", "()V"⟩ ⟨"CricketHay$Reader", "readDealer", "()V"⟩ ∈ lw_good := q_s 10 (by decide +kernel) rfl
theorem ws_11 : Cond.selects "CricketHay$Reader" ⟨"CricketHay$Reader", "need", "(I)V"⟩ ⟨"CricketHay$Reader", "need", "(I)V"⟩ ∈ lw_good := q_s 11 (by decide +kernel) rfl
theorem ws_12 : Cond.selects "CricketHay$Reader" ⟨"CricketHay$Reader", "needKind", "()I"⟩ ⟨"CricketHay$Reader", "needKind", "()I"⟩ ∈ lw_good := q_s 12 (by decide +kernel) rfl
theorem ws_13 : Cond.selects "CricketHay$Reader" ⟨"CricketHay$Reader", "needNumber", "(II)I"⟩ ⟨"CricketHay$Reader", "needNumber", "(II)I"⟩ ∈ lw_good := q_s 13 (by decide +kernel) rfl
theorem ws_14 : Cond.selects "CricketHay$Reader" ⟨"CricketHay$Reader", "take", "(I)Z"⟩ ⟨"CricketHay$Reader", "take", "(I)Z"⟩ ∈ lw_good := q_s 14 (by decide +kernel) rfl
theorem ws_15 : Cond.selects "CricketHay$Reader" ⟨"CricketHay$Reader", "readEither", "(I)V"⟩ ⟨"CricketHay$Reader", "readEither", "(I)V"⟩ ∈ lw_good := q_s 15 (by decide +kernel) rfl
theorem ws_16 : Cond.selects "CricketHay$Reader" ⟨"CricketHay$Reader", "readBoth", "(I)V"⟩ ⟨"CricketHay$Reader", "readBoth", "(I)V"⟩ ∈ lw_good := q_s 16 (by decide +kernel) rfl
theorem ws_17 : Cond.selects "CricketHay$Reader" ⟨"CricketHay$Reader", "readOne", "(I)V"⟩ ⟨"CricketHay$Reader", "readOne", "(I)V"⟩ ∈ lw_good := q_s 17 (by decide +kernel) rfl
theorem ws_18 : Cond.selects "CricketHay$Reader" ⟨"CricketHay$Reader", "readSum", "(I)V"⟩ ⟨"CricketHay$Reader", "readSum", "(I)V"⟩ ∈ lw_good := q_s 18 (by decide +kernel) rfl
theorem ws_19 : Cond.selects "CricketHay$Reader" ⟨"CricketHay$Reader", "readTerm", "(I)V"⟩ ⟨"CricketHay$Reader", "readTerm", "(I)V"⟩ ∈ lw_good := q_s 19 (by decide +kernel) rfl
theorem ws_20 : Cond.selects "CricketHay$Reader" ⟨"CricketHay$Reader", "readUnit", "(I)V"⟩ ⟨"CricketHay$Reader", "readUnit", "(I)V"⟩ ∈ lw_good := q_s 20 (by decide +kernel) rfl
theorem ws_21 : Cond.selects "CricketHay$Reader" ⟨"CricketHay$Reader", "readInner", "(I)V"⟩ ⟨"CricketHay$Reader", "readInner", "(I)V"⟩ ∈ lw_good := q_s 21 (by decide +kernel) rfl
theorem ws_22 : Cond.selects "CricketHay$Reader" ⟨"CricketHay$Reader", "readSnap", "()V"⟩ ⟨"CricketHay$Reader", "readSnap", "()V"⟩ ∈ lw_good := q_s 22 (by decide +kernel) rfl
abbrev y_Reader_put : MI := (⟨"CricketHay$Reader", "put", "(I)V"⟩, prog_11_method_2_code, 3, none)
theorem hy_Reader_put : y_Reader_put.1.cls ≠ "java/lang/invoke/MethodHandle" ∧ y_Reader_put.1.cls ≠ "java/lang/invoke/VarHandle" ∧ (parseMethodDescriptor y_Reader_put.1.desc).map (fun d => d.parameters.length) = some 1 := by decide +kernel
theorem d_Reader_put_0 : decode y_Reader_put.2.1 0 = .ok (.bipush 24, 2) := by decide +kernel
theorem d_Reader_put_2 : decode y_Reader_put.2.1 2 = .ok (.istore_n 2, 1) := by decide +kernel
theorem d_Reader_put_3 : decode y_Reader_put.2.1 3 = .ok (.iload_n 2, 1) := by decide +kernel
theorem d_Reader_put_4 : decode y_Reader_put.2.1 4 = .ok (.ifCond .lt 47, 3) := by decide +kernel
theorem d_Reader_put_7 : decode y_Reader_put.2.1 7 = .ok (.aload_n 0, 1) := by decide +kernel
theorem d_Reader_put_8 : decode y_Reader_put.2.1 8 = .ok (.getfield 15, 3) := by decide +kernel
theorem d_Reader_put_11 : decode y_Reader_put.2.1 11 = .ok (.aload_n 0, 1) := by decide +kernel
theorem d_Reader_put_12 : decode y_Reader_put.2.1 12 = .ok (.getfield 9, 3) := by decide +kernel
theorem d_Reader_put_15 : decode y_Reader_put.2.1 15 = .ok (.arraylength, 1) := by decide +kernel
theorem d_Reader_put_16 : decode y_Reader_put.2.1 16 = .ok (.if_icmp .ge 29, 3) := by decide +kernel
theorem d_Reader_put_19 : decode y_Reader_put.2.1 19 = .ok (.aload_n 0, 1) := by decide +kernel
theorem d_Reader_put_20 : decode y_Reader_put.2.1 20 = .ok (.getfield 9, 3) := by decide +kernel
theorem d_Reader_put_23 : decode y_Reader_put.2.1 23 = .ok (.aload_n 0, 1) := by decide +kernel
theorem d_Reader_put_24 : decode y_Reader_put.2.1 24 = .ok (.getfield 15, 3) := by decide +kernel
theorem d_Reader_put_27 : decode y_Reader_put.2.1 27 = .ok (.iload_n 1, 1) := by decide +kernel
theorem d_Reader_put_28 : decode y_Reader_put.2.1 28 = .ok (.iload_n 2, 1) := by decide +kernel
theorem d_Reader_put_29 : decode y_Reader_put.2.1 29 = .ok (.iushr, 1) := by decide +kernel
theorem d_Reader_put_30 : decode y_Reader_put.2.1 30 = .ok (.sipush 255, 3) := by decide +kernel
theorem d_Reader_put_33 : decode y_Reader_put.2.1 33 = .ok (.iand, 1) := by decide +kernel
theorem d_Reader_put_34 : decode y_Reader_put.2.1 34 = .ok (.iastore, 1) := by decide +kernel
theorem d_Reader_put_35 : decode y_Reader_put.2.1 35 = .ok (.aload_n 0, 1) := by decide +kernel
theorem d_Reader_put_36 : decode y_Reader_put.2.1 36 = .ok (.dup, 1) := by decide +kernel
theorem d_Reader_put_37 : decode y_Reader_put.2.1 37 = .ok (.getfield 15, 3) := by decide +kernel
theorem d_Reader_put_40 : decode y_Reader_put.2.1 40 = .ok (.iconst 1, 1) := by decide +kernel
theorem d_Reader_put_41 : decode y_Reader_put.2.1 41 = .ok (.iadd, 1) := by decide +kernel
theorem d_Reader_put_42 : decode y_Reader_put.2.1 42 = .ok (.putfield 15, 3) := by decide +kernel
theorem d_Reader_put_45 : decode y_Reader_put.2.1 45 = .ok (.iinc 2 (-8), 3) := by decide +kernel
theorem d_Reader_put_48 : decode y_Reader_put.2.1 48 = .ok (.goto (-45), 3) := by decide +kernel
theorem d_Reader_put_51 : decode y_Reader_put.2.1 51 = .ok (.return_, 1) := by decide +kernel

abbrev y_H_feed : MI := (⟨"CricketHay", "feed", "(IIIII)I"⟩, prog_1_method_2_code, 6, (some .int))
theorem hy_H_feed : y_H_feed.1.cls ≠ "java/lang/invoke/MethodHandle" ∧ y_H_feed.1.cls ≠ "java/lang/invoke/VarHandle" ∧ (parseMethodDescriptor y_H_feed.1.desc).map (fun d => d.parameters.length) = some 5 := by decide +kernel
theorem d_H_feed_0 : decode y_H_feed.2.1 0 = .ok (.aload_n 0, 1) := by decide +kernel
theorem d_H_feed_1 : decode y_H_feed.2.1 1 = .ok (.getfield 12, 3) := by decide +kernel
theorem d_H_feed_4 : decode y_H_feed.2.1 4 = .ok (.getfield 93, 3) := by decide +kernel
theorem d_H_feed_7 : decode y_H_feed.2.1 7 = .ok (.sipush 1580, 3) := by decide +kernel
theorem d_H_feed_10 : decode y_H_feed.2.1 10 = .ok (.if_icmp .le 5, 3) := by decide +kernel
theorem d_H_feed_13 : decode y_H_feed.2.1 13 = .ok (.iconst (-1), 1) := by decide +kernel
theorem d_H_feed_14 : decode y_H_feed.2.1 14 = .ok (.ireturn, 1) := by decide +kernel
theorem d_H_feed_15 : decode y_H_feed.2.1 15 = .ok (.aload_n 0, 1) := by decide +kernel
theorem d_H_feed_16 : decode y_H_feed.2.1 16 = .ok (.getfield 12, 3) := by decide +kernel
theorem d_H_feed_19 : decode y_H_feed.2.1 19 = .ok (.iload_n 1, 1) := by decide +kernel
theorem d_H_feed_20 : decode y_H_feed.2.1 20 = .ok (.invokevirtual 97, 3) := by decide +kernel
theorem d_H_feed_23 : decode y_H_feed.2.1 23 = .ok (.aload_n 0, 1) := by decide +kernel
theorem d_H_feed_24 : decode y_H_feed.2.1 24 = .ok (.getfield 12, 3) := by decide +kernel
theorem d_H_feed_27 : decode y_H_feed.2.1 27 = .ok (.iload_n 2, 1) := by decide +kernel
theorem d_H_feed_28 : decode y_H_feed.2.1 28 = .ok (.invokevirtual 97, 3) := by decide +kernel
theorem d_H_feed_31 : decode y_H_feed.2.1 31 = .ok (.aload_n 0, 1) := by decide +kernel
theorem d_H_feed_32 : decode y_H_feed.2.1 32 = .ok (.getfield 12, 3) := by decide +kernel
theorem d_H_feed_35 : decode y_H_feed.2.1 35 = .ok (.iload_n 3, 1) := by decide +kernel
theorem d_H_feed_36 : decode y_H_feed.2.1 36 = .ok (.invokevirtual 97, 3) := by decide +kernel
theorem d_H_feed_39 : decode y_H_feed.2.1 39 = .ok (.aload_n 0, 1) := by decide +kernel
theorem d_H_feed_40 : decode y_H_feed.2.1 40 = .ok (.getfield 12, 3) := by decide +kernel
theorem d_H_feed_43 : decode y_H_feed.2.1 43 = .ok (.iload 4, 2) := by decide +kernel
theorem d_H_feed_45 : decode y_H_feed.2.1 45 = .ok (.invokevirtual 97, 3) := by decide +kernel
theorem d_H_feed_48 : decode y_H_feed.2.1 48 = .ok (.aload_n 0, 1) := by decide +kernel
theorem d_H_feed_49 : decode y_H_feed.2.1 49 = .ok (.getfield 12, 3) := by decide +kernel
theorem d_H_feed_52 : decode y_H_feed.2.1 52 = .ok (.iload 5, 2) := by decide +kernel
theorem d_H_feed_54 : decode y_H_feed.2.1 54 = .ok (.invokevirtual 97, 3) := by decide +kernel
theorem d_H_feed_57 : decode y_H_feed.2.1 57 = .ok (.aload_n 0, 1) := by decide +kernel
theorem d_H_feed_58 : decode y_H_feed.2.1 58 = .ok (.getfield 12, 3) := by decide +kernel
theorem d_H_feed_61 : decode y_H_feed.2.1 61 = .ok (.getfield 93, 3) := by decide +kernel
theorem d_H_feed_64 : decode y_H_feed.2.1 64 = .ok (.ireturn, 1) := by decide +kernel

abbrev y_H_end : MI := (⟨"CricketHay", "end", "(I)I"⟩, prog_1_method_3_code, 2, (some .int))
theorem hy_H_end : y_H_end.1.cls ≠ "java/lang/invoke/MethodHandle" ∧ y_H_end.1.cls ≠ "java/lang/invoke/VarHandle" ∧ (parseMethodDescriptor y_H_end.1.desc).map (fun d => d.parameters.length) = some 1 := by decide +kernel
theorem d_H_end_0 : decode y_H_end.2.1 0 = .ok (.iload_n 1, 1) := by decide +kernel
theorem d_H_end_1 : decode y_H_end.2.1 1 = .ok (.ifCond .lt 14, 3) := by decide +kernel
theorem d_H_end_4 : decode y_H_end.2.1 4 = .ok (.iload_n 1, 1) := by decide +kernel
theorem d_H_end_5 : decode y_H_end.2.1 5 = .ok (.aload_n 0, 1) := by decide +kernel
theorem d_H_end_6 : decode y_H_end.2.1 6 = .ok (.getfield 12, 3) := by decide +kernel
theorem d_H_end_9 : decode y_H_end.2.1 9 = .ok (.getfield 93, 3) := by decide +kernel
theorem d_H_end_12 : decode y_H_end.2.1 12 = .ok (.if_icmp .le 5, 3) := by decide +kernel
theorem d_H_end_15 : decode y_H_end.2.1 15 = .ok (.iconst (-1), 1) := by decide +kernel
theorem d_H_end_16 : decode y_H_end.2.1 16 = .ok (.ireturn, 1) := by decide +kernel
theorem d_H_end_17 : decode y_H_end.2.1 17 = .ok (.aload_n 0, 1) := by decide +kernel
theorem d_H_end_18 : decode y_H_end.2.1 18 = .ok (.getfield 12, 3) := by decide +kernel
theorem d_H_end_21 : decode y_H_end.2.1 21 = .ok (.iload_n 1, 1) := by decide +kernel
theorem d_H_end_22 : decode y_H_end.2.1 22 = .ok (.putfield 93, 3) := by decide +kernel
theorem d_H_end_25 : decode y_H_end.2.1 25 = .ok (.iload_n 1, 1) := by decide +kernel
theorem d_H_end_26 : decode y_H_end.2.1 26 = .ok (.ireturn, 1) := by decide +kernel

abbrev y_Formula_wipe : MI := (⟨"CricketHay$Formula", "wipe", "()V"⟩, prog_7_method_2_code, 1, none)
theorem hy_Formula_wipe : y_Formula_wipe.1.cls ≠ "java/lang/invoke/MethodHandle" ∧ y_Formula_wipe.1.cls ≠ "java/lang/invoke/VarHandle" ∧ (parseMethodDescriptor y_Formula_wipe.1.desc).map (fun d => d.parameters.length) = some 0 := by decide +kernel
theorem d_Formula_wipe_0 : decode y_Formula_wipe.2.1 0 = .ok (.aload_n 0, 1) := by decide +kernel
theorem d_Formula_wipe_1 : decode y_Formula_wipe.2.1 1 = .ok (.iconst 0, 1) := by decide +kernel
theorem d_Formula_wipe_2 : decode y_Formula_wipe.2.1 2 = .ok (.putfield 21, 3) := by decide +kernel
theorem d_Formula_wipe_5 : decode y_Formula_wipe.2.1 5 = .ok (.aload_n 0, 1) := by decide +kernel
theorem d_Formula_wipe_6 : decode y_Formula_wipe.2.1 6 = .ok (.iconst 0, 1) := by decide +kernel
theorem d_Formula_wipe_7 : decode y_Formula_wipe.2.1 7 = .ok (.putfield 25, 3) := by decide +kernel
theorem d_Formula_wipe_10 : decode y_Formula_wipe.2.1 10 = .ok (.return_, 1) := by decide +kernel

abbrev y_Market_reset : MI := (⟨"CricketHay$Market", "reset", "()V"⟩, prog_9_method_2_code, 1, none)
theorem hy_Market_reset : y_Market_reset.1.cls ≠ "java/lang/invoke/MethodHandle" ∧ y_Market_reset.1.cls ≠ "java/lang/invoke/VarHandle" ∧ (parseMethodDescriptor y_Market_reset.1.desc).map (fun d => d.parameters.length) = some 0 := by decide +kernel
theorem d_Market_reset_0 : decode y_Market_reset.2.1 0 = .ok (.aload_n 0, 1) := by decide +kernel
theorem d_Market_reset_1 : decode y_Market_reset.2.1 1 = .ok (.iconst 0, 1) := by decide +kernel
theorem d_Market_reset_2 : decode y_Market_reset.2.1 2 = .ok (.putfield 50, 3) := by decide +kernel
theorem d_Market_reset_5 : decode y_Market_reset.2.1 5 = .ok (.aload_n 0, 1) := by decide +kernel
theorem d_Market_reset_6 : decode y_Market_reset.2.1 6 = .ok (.iconst 0, 1) := by decide +kernel
theorem d_Market_reset_7 : decode y_Market_reset.2.1 7 = .ok (.putfield 54, 3) := by decide +kernel
theorem d_Market_reset_10 : decode y_Market_reset.2.1 10 = .ok (.aload_n 0, 1) := by decide +kernel
theorem d_Market_reset_11 : decode y_Market_reset.2.1 11 = .ok (.getfield 40, 3) := by decide +kernel
theorem d_Market_reset_14 : decode y_Market_reset.2.1 14 = .ok (.invokevirtual 57, 3) := by decide +kernel
theorem d_Market_reset_17 : decode y_Market_reset.2.1 17 = .ok (.aload_n 0, 1) := by decide +kernel
theorem d_Market_reset_18 : decode y_Market_reset.2.1 18 = .ok (.getfield 44, 3) := by decide +kernel
theorem d_Market_reset_21 : decode y_Market_reset.2.1 21 = .ok (.invokevirtual 57, 3) := by decide +kernel
theorem d_Market_reset_24 : decode y_Market_reset.2.1 24 = .ok (.aload_n 0, 1) := by decide +kernel
theorem d_Market_reset_25 : decode y_Market_reset.2.1 25 = .ok (.iconst 0, 1) := by decide +kernel
theorem d_Market_reset_26 : decode y_Market_reset.2.1 26 = .ok (.putfield 60, 3) := by decide +kernel
theorem d_Market_reset_29 : decode y_Market_reset.2.1 29 = .ok (.aload_n 0, 1) := by decide +kernel
theorem d_Market_reset_30 : decode y_Market_reset.2.1 30 = .ok (.iconst 1, 1) := by decide +kernel
theorem d_Market_reset_31 : decode y_Market_reset.2.1 31 = .ok (.putfield 63, 3) := by decide +kernel
theorem d_Market_reset_34 : decode y_Market_reset.2.1 34 = .ok (.aload_n 0, 1) := by decide +kernel
theorem d_Market_reset_35 : decode y_Market_reset.2.1 35 = .ok (.iconst 3, 1) := by decide +kernel
theorem d_Market_reset_36 : decode y_Market_reset.2.1 36 = .ok (.putfield 66, 3) := by decide +kernel
theorem d_Market_reset_39 : decode y_Market_reset.2.1 39 = .ok (.aload_n 0, 1) := by decide +kernel
theorem d_Market_reset_40 : decode y_Market_reset.2.1 40 = .ok (.iconst 0, 1) := by decide +kernel
theorem d_Market_reset_41 : decode y_Market_reset.2.1 41 = .ok (.putfield 69, 3) := by decide +kernel
theorem d_Market_reset_44 : decode y_Market_reset.2.1 44 = .ok (.return_, 1) := by decide +kernel

abbrev y_Reader_isBlank : MI := (⟨"CricketHay$Reader", "isBlank", "(I)Z"⟩, prog_11_method_8_code, 1, (some .boolean))
theorem hy_Reader_isBlank : y_Reader_isBlank.1.cls ≠ "java/lang/invoke/MethodHandle" ∧ y_Reader_isBlank.1.cls ≠ "java/lang/invoke/VarHandle" ∧ (parseMethodDescriptor y_Reader_isBlank.1.desc).map (fun d => d.parameters.length) = some 1 := by decide +kernel
theorem d_Reader_isBlank_0 : decode y_Reader_isBlank.2.1 0 = .ok (.iload_n 0, 1) := by decide +kernel
theorem d_Reader_isBlank_1 : decode y_Reader_isBlank.2.1 1 = .ok (.bipush 32, 2) := by decide +kernel
theorem d_Reader_isBlank_3 : decode y_Reader_isBlank.2.1 3 = .ok (.if_icmp .eq 9, 3) := by decide +kernel
theorem d_Reader_isBlank_6 : decode y_Reader_isBlank.2.1 6 = .ok (.iload_n 0, 1) := by decide +kernel
theorem d_Reader_isBlank_7 : decode y_Reader_isBlank.2.1 7 = .ok (.bipush 10, 2) := by decide +kernel
theorem d_Reader_isBlank_9 : decode y_Reader_isBlank.2.1 9 = .ok (.if_icmp .ne 7, 3) := by decide +kernel
theorem d_Reader_isBlank_12 : decode y_Reader_isBlank.2.1 12 = .ok (.iconst 1, 1) := by decide +kernel
theorem d_Reader_isBlank_13 : decode y_Reader_isBlank.2.1 13 = .ok (.goto 4, 3) := by decide +kernel
theorem d_Reader_isBlank_16 : decode y_Reader_isBlank.2.1 16 = .ok (.iconst 0, 1) := by decide +kernel
theorem d_Reader_isBlank_17 : decode y_Reader_isBlank.2.1 17 = .ok (.ireturn, 1) := by decide +kernel

abbrev y_Reader_isLetter : MI := (⟨"CricketHay$Reader", "isLetter", "(I)Z"⟩, prog_11_method_9_code, 1, (some .boolean))
theorem hy_Reader_isLetter : y_Reader_isLetter.1.cls ≠ "java/lang/invoke/MethodHandle" ∧ y_Reader_isLetter.1.cls ≠ "java/lang/invoke/VarHandle" ∧ (parseMethodDescriptor y_Reader_isLetter.1.desc).map (fun d => d.parameters.length) = some 1 := by decide +kernel
theorem d_Reader_isLetter_0 : decode y_Reader_isLetter.2.1 0 = .ok (.iload_n 0, 1) := by decide +kernel
theorem d_Reader_isLetter_1 : decode y_Reader_isLetter.2.1 1 = .ok (.bipush 97, 2) := by decide +kernel
theorem d_Reader_isLetter_3 : decode y_Reader_isLetter.2.1 3 = .ok (.if_icmp .lt 13, 3) := by decide +kernel
theorem d_Reader_isLetter_6 : decode y_Reader_isLetter.2.1 6 = .ok (.iload_n 0, 1) := by decide +kernel
theorem d_Reader_isLetter_7 : decode y_Reader_isLetter.2.1 7 = .ok (.bipush 122, 2) := by decide +kernel
theorem d_Reader_isLetter_9 : decode y_Reader_isLetter.2.1 9 = .ok (.if_icmp .gt 7, 3) := by decide +kernel
theorem d_Reader_isLetter_12 : decode y_Reader_isLetter.2.1 12 = .ok (.iconst 1, 1) := by decide +kernel
theorem d_Reader_isLetter_13 : decode y_Reader_isLetter.2.1 13 = .ok (.goto 4, 3) := by decide +kernel
theorem d_Reader_isLetter_16 : decode y_Reader_isLetter.2.1 16 = .ok (.iconst 0, 1) := by decide +kernel
theorem d_Reader_isLetter_17 : decode y_Reader_isLetter.2.1 17 = .ok (.ireturn, 1) := by decide +kernel

abbrev y_Reader_fail : MI := (⟨"CricketHay$Reader", "fail", "(I)V"⟩, prog_11_method_4_code, 2, none)
theorem hy_Reader_fail : y_Reader_fail.1.cls ≠ "java/lang/invoke/MethodHandle" ∧ y_Reader_fail.1.cls ≠ "java/lang/invoke/VarHandle" ∧ (parseMethodDescriptor y_Reader_fail.1.desc).map (fun d => d.parameters.length) = some 1 := by decide +kernel
theorem d_Reader_fail_0 : decode y_Reader_fail.2.1 0 = .ok (.aload_n 0, 1) := by decide +kernel
theorem d_Reader_fail_1 : decode y_Reader_fail.2.1 1 = .ok (.getfield 19, 3) := by decide +kernel
theorem d_Reader_fail_4 : decode y_Reader_fail.2.1 4 = .ok (.ifCond .ne 16, 3) := by decide +kernel
theorem d_Reader_fail_7 : decode y_Reader_fail.2.1 7 = .ok (.aload_n 0, 1) := by decide +kernel
theorem d_Reader_fail_8 : decode y_Reader_fail.2.1 8 = .ok (.iload_n 1, 1) := by decide +kernel
theorem d_Reader_fail_9 : decode y_Reader_fail.2.1 9 = .ok (.putfield 19, 3) := by decide +kernel
theorem d_Reader_fail_12 : decode y_Reader_fail.2.1 12 = .ok (.aload_n 0, 1) := by decide +kernel
theorem d_Reader_fail_13 : decode y_Reader_fail.2.1 13 = .ok (.aload_n 0, 1) := by decide +kernel
theorem d_Reader_fail_14 : decode y_Reader_fail.2.1 14 = .ok (.getfield 49, 3) := by decide +kernel
theorem d_Reader_fail_17 : decode y_Reader_fail.2.1 17 = .ok (.putfield 22, 3) := by decide +kernel
theorem d_Reader_fail_20 : decode y_Reader_fail.2.1 20 = .ok (.aload_n 0, 1) := by decide +kernel
theorem d_Reader_fail_21 : decode y_Reader_fail.2.1 21 = .ok (.iconst 3, 1) := by decide +kernel
theorem d_Reader_fail_22 : decode y_Reader_fail.2.1 22 = .ok (.putfield 43, 3) := by decide +kernel
theorem d_Reader_fail_25 : decode y_Reader_fail.2.1 25 = .ok (.return_, 1) := by decide +kernel

abbrev y_Reader_readWord : MI := (⟨"CricketHay$Reader", "readWord", "()V"⟩, prog_11_method_6_code, 3, none)
theorem hy_Reader_readWord : y_Reader_readWord.1.cls ≠ "java/lang/invoke/MethodHandle" ∧ y_Reader_readWord.1.cls ≠ "java/lang/invoke/VarHandle" ∧ (parseMethodDescriptor y_Reader_readWord.1.desc).map (fun d => d.parameters.length) = some 0 := by decide +kernel
theorem d_Reader_readWord_0 : decode y_Reader_readWord.2.1 0 = .ok (.aload_n 0, 1) := by decide +kernel
theorem d_Reader_readWord_1 : decode y_Reader_readWord.2.1 1 = .ok (.lconst 0, 1) := by decide +kernel
theorem d_Reader_readWord_2 : decode y_Reader_readWord.2.1 2 = .ok (.putfield 75, 3) := by decide +kernel
theorem d_Reader_readWord_5 : decode y_Reader_readWord.2.1 5 = .ok (.aload_n 0, 1) := by decide +kernel
theorem d_Reader_readWord_6 : decode y_Reader_readWord.2.1 6 = .ok (.getfield 34, 3) := by decide +kernel
theorem d_Reader_readWord_9 : decode y_Reader_readWord.2.1 9 = .ok (.aload_n 0, 1) := by decide +kernel
theorem d_Reader_readWord_10 : decode y_Reader_readWord.2.1 10 = .ok (.getfield 15, 3) := by decide +kernel
theorem d_Reader_readWord_13 : decode y_Reader_readWord.2.1 13 = .ok (.if_icmp .ge 57, 3) := by decide +kernel
theorem d_Reader_readWord_16 : decode y_Reader_readWord.2.1 16 = .ok (.aload_n 0, 1) := by decide +kernel
theorem d_Reader_readWord_17 : decode y_Reader_readWord.2.1 17 = .ok (.getfield 9, 3) := by decide +kernel
theorem d_Reader_readWord_20 : decode y_Reader_readWord.2.1 20 = .ok (.aload_n 0, 1) := by decide +kernel
theorem d_Reader_readWord_21 : decode y_Reader_readWord.2.1 21 = .ok (.getfield 34, 3) := by decide +kernel
theorem d_Reader_readWord_24 : decode y_Reader_readWord.2.1 24 = .ok (.iaload, 1) := by decide +kernel
theorem d_Reader_readWord_25 : decode y_Reader_readWord.2.1 25 = .ok (.invokestatic 56, 3) := by decide +kernel
theorem d_Reader_readWord_28 : decode y_Reader_readWord.2.1 28 = .ok (.ifCond .eq 42, 3) := by decide +kernel
theorem d_Reader_readWord_31 : decode y_Reader_readWord.2.1 31 = .ok (.aload_n 0, 1) := by decide +kernel
theorem d_Reader_readWord_32 : decode y_Reader_readWord.2.1 32 = .ok (.aload_n 0, 1) := by decide +kernel
theorem d_Reader_readWord_33 : decode y_Reader_readWord.2.1 33 = .ok (.getfield 75, 3) := by decide +kernel
theorem d_Reader_readWord_36 : decode y_Reader_readWord.2.1 36 = .ok (.iconst 5, 1) := by decide +kernel
theorem d_Reader_readWord_37 : decode y_Reader_readWord.2.1 37 = .ok (.lshl, 1) := by decide +kernel
theorem d_Reader_readWord_38 : decode y_Reader_readWord.2.1 38 = .ok (.aload_n 0, 1) := by decide +kernel
theorem d_Reader_readWord_39 : decode y_Reader_readWord.2.1 39 = .ok (.getfield 9, 3) := by decide +kernel
theorem d_Reader_readWord_42 : decode y_Reader_readWord.2.1 42 = .ok (.aload_n 0, 1) := by decide +kernel
theorem d_Reader_readWord_43 : decode y_Reader_readWord.2.1 43 = .ok (.getfield 34, 3) := by decide +kernel
theorem d_Reader_readWord_46 : decode y_Reader_readWord.2.1 46 = .ok (.iaload, 1) := by decide +kernel
theorem d_Reader_readWord_47 : decode y_Reader_readWord.2.1 47 = .ok (.bipush 97, 2) := by decide +kernel
theorem d_Reader_readWord_49 : decode y_Reader_readWord.2.1 49 = .ok (.isub, 1) := by decide +kernel
theorem d_Reader_readWord_50 : decode y_Reader_readWord.2.1 50 = .ok (.iconst 1, 1) := by decide +kernel
theorem d_Reader_readWord_51 : decode y_Reader_readWord.2.1 51 = .ok (.iadd, 1) := by decide +kernel
theorem d_Reader_readWord_52 : decode y_Reader_readWord.2.1 52 = .ok (.i2l, 1) := by decide +kernel
theorem d_Reader_readWord_53 : decode y_Reader_readWord.2.1 53 = .ok (.lor, 1) := by decide +kernel
theorem d_Reader_readWord_54 : decode y_Reader_readWord.2.1 54 = .ok (.putfield 75, 3) := by decide +kernel
theorem d_Reader_readWord_57 : decode y_Reader_readWord.2.1 57 = .ok (.aload_n 0, 1) := by decide +kernel
theorem d_Reader_readWord_58 : decode y_Reader_readWord.2.1 58 = .ok (.dup, 1) := by decide +kernel
theorem d_Reader_readWord_59 : decode y_Reader_readWord.2.1 59 = .ok (.getfield 34, 3) := by decide +kernel
theorem d_Reader_readWord_62 : decode y_Reader_readWord.2.1 62 = .ok (.iconst 1, 1) := by decide +kernel
theorem d_Reader_readWord_63 : decode y_Reader_readWord.2.1 63 = .ok (.iadd, 1) := by decide +kernel
theorem d_Reader_readWord_64 : decode y_Reader_readWord.2.1 64 = .ok (.putfield 34, 3) := by decide +kernel
theorem d_Reader_readWord_67 : decode y_Reader_readWord.2.1 67 = .ok (.goto (-62), 3) := by decide +kernel
theorem d_Reader_readWord_70 : decode y_Reader_readWord.2.1 70 = .ok (.aload_n 0, 1) := by decide +kernel
theorem d_Reader_readWord_71 : decode y_Reader_readWord.2.1 71 = .ok (.getfield 34, 3) := by decide +kernel
theorem d_Reader_readWord_74 : decode y_Reader_readWord.2.1 74 = .ok (.aload_n 0, 1) := by decide +kernel
theorem d_Reader_readWord_75 : decode y_Reader_readWord.2.1 75 = .ok (.getfield 49, 3) := by decide +kernel
theorem d_Reader_readWord_78 : decode y_Reader_readWord.2.1 78 = .ok (.isub, 1) := by decide +kernel
theorem d_Reader_readWord_79 : decode y_Reader_readWord.2.1 79 = .ok (.bipush 8, 2) := by decide +kernel
theorem d_Reader_readWord_81 : decode y_Reader_readWord.2.1 81 = .ok (.if_icmp .le 9, 3) := by decide +kernel
theorem d_Reader_readWord_84 : decode y_Reader_readWord.2.1 84 = .ok (.aload_n 0, 1) := by decide +kernel
theorem d_Reader_readWord_85 : decode y_Reader_readWord.2.1 85 = .ok (.iconst 1, 1) := by decide +kernel
theorem d_Reader_readWord_86 : decode y_Reader_readWord.2.1 86 = .ok (.invokevirtual 71, 3) := by decide +kernel
theorem d_Reader_readWord_89 : decode y_Reader_readWord.2.1 89 = .ok (.return_, 1) := by decide +kernel
theorem d_Reader_readWord_90 : decode y_Reader_readWord.2.1 90 = .ok (.aload_n 0, 1) := by decide +kernel
theorem d_Reader_readWord_91 : decode y_Reader_readWord.2.1 91 = .ok (.iconst 2, 1) := by decide +kernel
theorem d_Reader_readWord_92 : decode y_Reader_readWord.2.1 92 = .ok (.putfield 43, 3) := by decide +kernel
theorem d_Reader_readWord_95 : decode y_Reader_readWord.2.1 95 = .ok (.iconst 0, 1) := by decide +kernel
theorem d_Reader_readWord_96 : decode y_Reader_readWord.2.1 96 = .ok (.istore_n 1, 1) := by decide +kernel
theorem d_Reader_readWord_97 : decode y_Reader_readWord.2.1 97 = .ok (.iload_n 1, 1) := by decide +kernel
theorem d_Reader_readWord_98 : decode y_Reader_readWord.2.1 98 = .ok (.bipush 8, 2) := by decide +kernel
theorem d_Reader_readWord_100 : decode y_Reader_readWord.2.1 100 = .ok (.iadd, 1) := by decide +kernel
theorem d_Reader_readWord_101 : decode y_Reader_readWord.2.1 101 = .ok (.ldc 79, 2) := by decide +kernel
theorem d_Reader_readWord_103 : decode y_Reader_readWord.2.1 103 = .ok (.invokevirtual 81, 3) := by decide +kernel
theorem d_Reader_readWord_106 : decode y_Reader_readWord.2.1 106 = .ok (.if_icmp .gt 89, 3) := by decide +kernel
theorem d_Reader_readWord_109 : decode y_Reader_readWord.2.1 109 = .ok (.aload_n 0, 1) := by decide +kernel
theorem d_Reader_readWord_110 : decode y_Reader_readWord.2.1 110 = .ok (.getfield 43, 3) := by decide +kernel
theorem d_Reader_readWord_113 : decode y_Reader_readWord.2.1 113 = .ok (.iconst 2, 1) := by decide +kernel
theorem d_Reader_readWord_114 : decode y_Reader_readWord.2.1 114 = .ok (.if_icmp .ne 81, 3) := by decide +kernel
theorem d_Reader_readWord_117 : decode y_Reader_readWord.2.1 117 = .ok (.iconst 0, 1) := by decide +kernel
theorem d_Reader_readWord_118 : decode y_Reader_readWord.2.1 118 = .ok (.istore_n 2, 1) := by decide +kernel
theorem d_Reader_readWord_119 : decode y_Reader_readWord.2.1 119 = .ok (.iload_n 2, 1) := by decide +kernel
theorem d_Reader_readWord_120 : decode y_Reader_readWord.2.1 120 = .ok (.bipush 8, 2) := by decide +kernel
theorem d_Reader_readWord_122 : decode y_Reader_readWord.2.1 122 = .ok (.if_icmp .ge 49, 3) := by decide +kernel
theorem d_Reader_readWord_125 : decode y_Reader_readWord.2.1 125 = .ok (.ldc 79, 2) := by decide +kernel
theorem d_Reader_readWord_127 : decode y_Reader_readWord.2.1 127 = .ok (.iload_n 1, 1) := by decide +kernel
theorem d_Reader_readWord_128 : decode y_Reader_readWord.2.1 128 = .ok (.iload_n 2, 1) := by decide +kernel
theorem d_Reader_readWord_129 : decode y_Reader_readWord.2.1 129 = .ok (.iadd, 1) := by decide +kernel
theorem d_Reader_readWord_130 : decode y_Reader_readWord.2.1 130 = .ok (.invokevirtual 86, 3) := by decide +kernel
theorem d_Reader_readWord_133 : decode y_Reader_readWord.2.1 133 = .ok (.aload_n 0, 1) := by decide +kernel
theorem d_Reader_readWord_134 : decode y_Reader_readWord.2.1 134 = .ok (.getfield 49, 3) := by decide +kernel
theorem d_Reader_readWord_137 : decode y_Reader_readWord.2.1 137 = .ok (.iload_n 2, 1) := by decide +kernel
theorem d_Reader_readWord_138 : decode y_Reader_readWord.2.1 138 = .ok (.iadd, 1) := by decide +kernel
theorem d_Reader_readWord_139 : decode y_Reader_readWord.2.1 139 = .ok (.aload_n 0, 1) := by decide +kernel
theorem d_Reader_readWord_140 : decode y_Reader_readWord.2.1 140 = .ok (.getfield 34, 3) := by decide +kernel
theorem d_Reader_readWord_143 : decode y_Reader_readWord.2.1 143 = .ok (.if_icmp .ge 17, 3) := by decide +kernel
theorem d_Reader_readWord_146 : decode y_Reader_readWord.2.1 146 = .ok (.aload_n 0, 1) := by decide +kernel
theorem d_Reader_readWord_147 : decode y_Reader_readWord.2.1 147 = .ok (.getfield 9, 3) := by decide +kernel
theorem d_Reader_readWord_150 : decode y_Reader_readWord.2.1 150 = .ok (.aload_n 0, 1) := by decide +kernel
theorem d_Reader_readWord_151 : decode y_Reader_readWord.2.1 151 = .ok (.getfield 49, 3) := by decide +kernel
theorem d_Reader_readWord_154 : decode y_Reader_readWord.2.1 154 = .ok (.iload_n 2, 1) := by decide +kernel
theorem d_Reader_readWord_155 : decode y_Reader_readWord.2.1 155 = .ok (.iadd, 1) := by decide +kernel
theorem d_Reader_readWord_156 : decode y_Reader_readWord.2.1 156 = .ok (.iaload, 1) := by decide +kernel
theorem d_Reader_readWord_157 : decode y_Reader_readWord.2.1 157 = .ok (.goto 5, 3) := by decide +kernel
theorem d_Reader_readWord_160 : decode y_Reader_readWord.2.1 160 = .ok (.bipush 32, 2) := by decide +kernel
theorem d_Reader_readWord_162 : decode y_Reader_readWord.2.1 162 = .ok (.if_icmp .ne 9, 3) := by decide +kernel
theorem d_Reader_readWord_165 : decode y_Reader_readWord.2.1 165 = .ok (.iinc 2 1, 3) := by decide +kernel
theorem d_Reader_readWord_168 : decode y_Reader_readWord.2.1 168 = .ok (.goto (-49), 3) := by decide +kernel
theorem d_Reader_readWord_171 : decode y_Reader_readWord.2.1 171 = .ok (.iload_n 2, 1) := by decide +kernel
theorem d_Reader_readWord_172 : decode y_Reader_readWord.2.1 172 = .ok (.bipush 8, 2) := by decide +kernel
theorem d_Reader_readWord_174 : decode y_Reader_readWord.2.1 174 = .ok (.if_icmp .ne 15, 3) := by decide +kernel
theorem d_Reader_readWord_177 : decode y_Reader_readWord.2.1 177 = .ok (.aload_n 0, 1) := by decide +kernel
theorem d_Reader_readWord_178 : decode y_Reader_readWord.2.1 178 = .ok (.sipush 256, 3) := by decide +kernel
theorem d_Reader_readWord_181 : decode y_Reader_readWord.2.1 181 = .ok (.iload_n 1, 1) := by decide +kernel
theorem d_Reader_readWord_182 : decode y_Reader_readWord.2.1 182 = .ok (.bipush 8, 2) := by decide +kernel
theorem d_Reader_readWord_184 : decode y_Reader_readWord.2.1 184 = .ok (.idiv, 1) := by decide +kernel
theorem d_Reader_readWord_185 : decode y_Reader_readWord.2.1 185 = .ok (.iadd, 1) := by decide +kernel
theorem d_Reader_readWord_186 : decode y_Reader_readWord.2.1 186 = .ok (.putfield 43, 3) := by decide +kernel
theorem d_Reader_readWord_189 : decode y_Reader_readWord.2.1 189 = .ok (.iinc 1 8, 3) := by decide +kernel
theorem d_Reader_readWord_192 : decode y_Reader_readWord.2.1 192 = .ok (.goto (-95), 3) := by decide +kernel
theorem d_Reader_readWord_195 : decode y_Reader_readWord.2.1 195 = .ok (.return_, 1) := by decide +kernel

abbrev y_Reader_isDigit : MI := (⟨"CricketHay$Reader", "isDigit", "(I)Z"⟩, prog_11_method_10_code, 1, (some .boolean))
theorem hy_Reader_isDigit : y_Reader_isDigit.1.cls ≠ "java/lang/invoke/MethodHandle" ∧ y_Reader_isDigit.1.cls ≠ "java/lang/invoke/VarHandle" ∧ (parseMethodDescriptor y_Reader_isDigit.1.desc).map (fun d => d.parameters.length) = some 1 := by decide +kernel
theorem d_Reader_isDigit_0 : decode y_Reader_isDigit.2.1 0 = .ok (.iload_n 0, 1) := by decide +kernel
theorem d_Reader_isDigit_1 : decode y_Reader_isDigit.2.1 1 = .ok (.bipush 48, 2) := by decide +kernel
theorem d_Reader_isDigit_3 : decode y_Reader_isDigit.2.1 3 = .ok (.if_icmp .lt 13, 3) := by decide +kernel
theorem d_Reader_isDigit_6 : decode y_Reader_isDigit.2.1 6 = .ok (.iload_n 0, 1) := by decide +kernel
theorem d_Reader_isDigit_7 : decode y_Reader_isDigit.2.1 7 = .ok (.bipush 57, 2) := by decide +kernel
theorem d_Reader_isDigit_9 : decode y_Reader_isDigit.2.1 9 = .ok (.if_icmp .gt 7, 3) := by decide +kernel
theorem d_Reader_isDigit_12 : decode y_Reader_isDigit.2.1 12 = .ok (.iconst 1, 1) := by decide +kernel
theorem d_Reader_isDigit_13 : decode y_Reader_isDigit.2.1 13 = .ok (.goto 4, 3) := by decide +kernel
theorem d_Reader_isDigit_16 : decode y_Reader_isDigit.2.1 16 = .ok (.iconst 0, 1) := by decide +kernel
theorem d_Reader_isDigit_17 : decode y_Reader_isDigit.2.1 17 = .ok (.ireturn, 1) := by decide +kernel

abbrev y_Reader_readNumber : MI := (⟨"CricketHay$Reader", "readNumber", "()V"⟩, prog_11_method_7_code, 1, none)
theorem hy_Reader_readNumber : y_Reader_readNumber.1.cls ≠ "java/lang/invoke/MethodHandle" ∧ y_Reader_readNumber.1.cls ≠ "java/lang/invoke/VarHandle" ∧ (parseMethodDescriptor y_Reader_readNumber.1.desc).map (fun d => d.parameters.length) = some 0 := by decide +kernel
theorem d_Reader_readNumber_0 : decode y_Reader_readNumber.2.1 0 = .ok (.aload_n 0, 1) := by decide +kernel
theorem d_Reader_readNumber_1 : decode y_Reader_readNumber.2.1 1 = .ok (.iconst 0, 1) := by decide +kernel
theorem d_Reader_readNumber_2 : decode y_Reader_readNumber.2.1 2 = .ok (.putfield 90, 3) := by decide +kernel
theorem d_Reader_readNumber_5 : decode y_Reader_readNumber.2.1 5 = .ok (.aload_n 0, 1) := by decide +kernel
theorem d_Reader_readNumber_6 : decode y_Reader_readNumber.2.1 6 = .ok (.getfield 34, 3) := by decide +kernel
theorem d_Reader_readNumber_9 : decode y_Reader_readNumber.2.1 9 = .ok (.aload_n 0, 1) := by decide +kernel
theorem d_Reader_readNumber_10 : decode y_Reader_readNumber.2.1 10 = .ok (.getfield 15, 3) := by decide +kernel
theorem d_Reader_readNumber_13 : decode y_Reader_readNumber.2.1 13 = .ok (.if_icmp .ge 55, 3) := by decide +kernel
theorem d_Reader_readNumber_16 : decode y_Reader_readNumber.2.1 16 = .ok (.aload_n 0, 1) := by decide +kernel
theorem d_Reader_readNumber_17 : decode y_Reader_readNumber.2.1 17 = .ok (.getfield 9, 3) := by decide +kernel
theorem d_Reader_readNumber_20 : decode y_Reader_readNumber.2.1 20 = .ok (.aload_n 0, 1) := by decide +kernel
theorem d_Reader_readNumber_21 : decode y_Reader_readNumber.2.1 21 = .ok (.getfield 34, 3) := by decide +kernel
theorem d_Reader_readNumber_24 : decode y_Reader_readNumber.2.1 24 = .ok (.iaload, 1) := by decide +kernel
theorem d_Reader_readNumber_25 : decode y_Reader_readNumber.2.1 25 = .ok (.invokestatic 62, 3) := by decide +kernel
theorem d_Reader_readNumber_28 : decode y_Reader_readNumber.2.1 28 = .ok (.ifCond .eq 40, 3) := by decide +kernel
theorem d_Reader_readNumber_31 : decode y_Reader_readNumber.2.1 31 = .ok (.aload_n 0, 1) := by decide +kernel
theorem d_Reader_readNumber_32 : decode y_Reader_readNumber.2.1 32 = .ok (.aload_n 0, 1) := by decide +kernel
theorem d_Reader_readNumber_33 : decode y_Reader_readNumber.2.1 33 = .ok (.getfield 90, 3) := by decide +kernel
theorem d_Reader_readNumber_36 : decode y_Reader_readNumber.2.1 36 = .ok (.bipush 10, 2) := by decide +kernel
theorem d_Reader_readNumber_38 : decode y_Reader_readNumber.2.1 38 = .ok (.imul, 1) := by decide +kernel
theorem d_Reader_readNumber_39 : decode y_Reader_readNumber.2.1 39 = .ok (.aload_n 0, 1) := by decide +kernel
theorem d_Reader_readNumber_40 : decode y_Reader_readNumber.2.1 40 = .ok (.getfield 9, 3) := by decide +kernel
theorem d_Reader_readNumber_43 : decode y_Reader_readNumber.2.1 43 = .ok (.aload_n 0, 1) := by decide +kernel
theorem d_Reader_readNumber_44 : decode y_Reader_readNumber.2.1 44 = .ok (.getfield 34, 3) := by decide +kernel
theorem d_Reader_readNumber_47 : decode y_Reader_readNumber.2.1 47 = .ok (.iaload, 1) := by decide +kernel
theorem d_Reader_readNumber_48 : decode y_Reader_readNumber.2.1 48 = .ok (.iadd, 1) := by decide +kernel
theorem d_Reader_readNumber_49 : decode y_Reader_readNumber.2.1 49 = .ok (.bipush 48, 2) := by decide +kernel
theorem d_Reader_readNumber_51 : decode y_Reader_readNumber.2.1 51 = .ok (.isub, 1) := by decide +kernel
theorem d_Reader_readNumber_52 : decode y_Reader_readNumber.2.1 52 = .ok (.putfield 90, 3) := by decide +kernel
theorem d_Reader_readNumber_55 : decode y_Reader_readNumber.2.1 55 = .ok (.aload_n 0, 1) := by decide +kernel
theorem d_Reader_readNumber_56 : decode y_Reader_readNumber.2.1 56 = .ok (.dup, 1) := by decide +kernel
theorem d_Reader_readNumber_57 : decode y_Reader_readNumber.2.1 57 = .ok (.getfield 34, 3) := by decide +kernel
theorem d_Reader_readNumber_60 : decode y_Reader_readNumber.2.1 60 = .ok (.iconst 1, 1) := by decide +kernel
theorem d_Reader_readNumber_61 : decode y_Reader_readNumber.2.1 61 = .ok (.iadd, 1) := by decide +kernel
theorem d_Reader_readNumber_62 : decode y_Reader_readNumber.2.1 62 = .ok (.putfield 34, 3) := by decide +kernel
theorem d_Reader_readNumber_65 : decode y_Reader_readNumber.2.1 65 = .ok (.goto (-60), 3) := by decide +kernel
theorem d_Reader_readNumber_68 : decode y_Reader_readNumber.2.1 68 = .ok (.aload_n 0, 1) := by decide +kernel
theorem d_Reader_readNumber_69 : decode y_Reader_readNumber.2.1 69 = .ok (.getfield 34, 3) := by decide +kernel
theorem d_Reader_readNumber_72 : decode y_Reader_readNumber.2.1 72 = .ok (.aload_n 0, 1) := by decide +kernel
theorem d_Reader_readNumber_73 : decode y_Reader_readNumber.2.1 73 = .ok (.getfield 49, 3) := by decide +kernel
theorem d_Reader_readNumber_76 : decode y_Reader_readNumber.2.1 76 = .ok (.isub, 1) := by decide +kernel
theorem d_Reader_readNumber_77 : decode y_Reader_readNumber.2.1 77 = .ok (.iconst 4, 1) := by decide +kernel
theorem d_Reader_readNumber_78 : decode y_Reader_readNumber.2.1 78 = .ok (.if_icmp .gt 29, 3) := by decide +kernel
theorem d_Reader_readNumber_81 : decode y_Reader_readNumber.2.1 81 = .ok (.aload_n 0, 1) := by decide +kernel
theorem d_Reader_readNumber_82 : decode y_Reader_readNumber.2.1 82 = .ok (.getfield 34, 3) := by decide +kernel
theorem d_Reader_readNumber_85 : decode y_Reader_readNumber.2.1 85 = .ok (.aload_n 0, 1) := by decide +kernel
theorem d_Reader_readNumber_86 : decode y_Reader_readNumber.2.1 86 = .ok (.getfield 15, 3) := by decide +kernel
theorem d_Reader_readNumber_89 : decode y_Reader_readNumber.2.1 89 = .ok (.if_icmp .ge 24, 3) := by decide +kernel
theorem d_Reader_readNumber_92 : decode y_Reader_readNumber.2.1 92 = .ok (.aload_n 0, 1) := by decide +kernel
theorem d_Reader_readNumber_93 : decode y_Reader_readNumber.2.1 93 = .ok (.getfield 9, 3) := by decide +kernel
theorem d_Reader_readNumber_96 : decode y_Reader_readNumber.2.1 96 = .ok (.aload_n 0, 1) := by decide +kernel
theorem d_Reader_readNumber_97 : decode y_Reader_readNumber.2.1 97 = .ok (.getfield 34, 3) := by decide +kernel
theorem d_Reader_readNumber_100 : decode y_Reader_readNumber.2.1 100 = .ok (.iaload, 1) := by decide +kernel
theorem d_Reader_readNumber_101 : decode y_Reader_readNumber.2.1 101 = .ok (.invokestatic 56, 3) := by decide +kernel
theorem d_Reader_readNumber_104 : decode y_Reader_readNumber.2.1 104 = .ok (.ifCond .eq 9, 3) := by decide +kernel
theorem d_Reader_readNumber_107 : decode y_Reader_readNumber.2.1 107 = .ok (.aload_n 0, 1) := by decide +kernel
theorem d_Reader_readNumber_108 : decode y_Reader_readNumber.2.1 108 = .ok (.iconst 1, 1) := by decide +kernel
theorem d_Reader_readNumber_109 : decode y_Reader_readNumber.2.1 109 = .ok (.invokevirtual 71, 3) := by decide +kernel
theorem d_Reader_readNumber_112 : decode y_Reader_readNumber.2.1 112 = .ok (.return_, 1) := by decide +kernel
theorem d_Reader_readNumber_113 : decode y_Reader_readNumber.2.1 113 = .ok (.aload_n 0, 1) := by decide +kernel
theorem d_Reader_readNumber_114 : decode y_Reader_readNumber.2.1 114 = .ok (.iconst 1, 1) := by decide +kernel
theorem d_Reader_readNumber_115 : decode y_Reader_readNumber.2.1 115 = .ok (.putfield 43, 3) := by decide +kernel
theorem d_Reader_readNumber_118 : decode y_Reader_readNumber.2.1 118 = .ok (.return_, 1) := by decide +kernel

abbrev y_Reader_isSign : MI := (⟨"CricketHay$Reader", "isSign", "(I)Z"⟩, prog_11_method_11_code, 1, (some .boolean))
theorem hy_Reader_isSign : y_Reader_isSign.1.cls ≠ "java/lang/invoke/MethodHandle" ∧ y_Reader_isSign.1.cls ≠ "java/lang/invoke/VarHandle" ∧ (parseMethodDescriptor y_Reader_isSign.1.desc).map (fun d => d.parameters.length) = some 1 := by decide +kernel
theorem d_Reader_isSign_0 : decode y_Reader_isSign.2.1 0 = .ok (.iload_n 0, 1) := by decide +kernel
theorem d_Reader_isSign_1 : decode y_Reader_isSign.2.1 1 = .ok (.tableswitch 121 37 62 #[119, 121, 121, 119, 119, 119, 119, 121, 119, 121, 119, 121, 121, 121, 121, 121, 121, 121, 121, 121, 121, 121, 119, 119, 119, 119], 119) := by decide +kernel
theorem d_Reader_isSign_120 : decode y_Reader_isSign.2.1 120 = .ok (.iconst 1, 1) := by decide +kernel
theorem d_Reader_isSign_121 : decode y_Reader_isSign.2.1 121 = .ok (.ireturn, 1) := by decide +kernel
theorem d_Reader_isSign_122 : decode y_Reader_isSign.2.1 122 = .ok (.iconst 0, 1) := by decide +kernel
theorem d_Reader_isSign_123 : decode y_Reader_isSign.2.1 123 = .ok (.ireturn, 1) := by decide +kernel

abbrev y_Reader_next : MI := (⟨"CricketHay$Reader", "next", "()V"⟩, prog_11_method_5_code, 2, none)
theorem hy_Reader_next : y_Reader_next.1.cls ≠ "java/lang/invoke/MethodHandle" ∧ y_Reader_next.1.cls ≠ "java/lang/invoke/VarHandle" ∧ (parseMethodDescriptor y_Reader_next.1.desc).map (fun d => d.parameters.length) = some 0 := by decide +kernel
theorem d_Reader_next_0 : decode y_Reader_next.2.1 0 = .ok (.aload_n 0, 1) := by decide +kernel
theorem d_Reader_next_1 : decode y_Reader_next.2.1 1 = .ok (.getfield 19, 3) := by decide +kernel
theorem d_Reader_next_4 : decode y_Reader_next.2.1 4 = .ok (.ifCond .eq 4, 3) := by decide +kernel
theorem d_Reader_next_7 : decode y_Reader_next.2.1 7 = .ok (.return_, 1) := by decide +kernel
theorem d_Reader_next_8 : decode y_Reader_next.2.1 8 = .ok (.aload_n 0, 1) := by decide +kernel
theorem d_Reader_next_9 : decode y_Reader_next.2.1 9 = .ok (.getfield 34, 3) := by decide +kernel
theorem d_Reader_next_12 : decode y_Reader_next.2.1 12 = .ok (.aload_n 0, 1) := by decide +kernel
theorem d_Reader_next_13 : decode y_Reader_next.2.1 13 = .ok (.getfield 15, 3) := by decide +kernel
theorem d_Reader_next_16 : decode y_Reader_next.2.1 16 = .ok (.if_icmp .ge 31, 3) := by decide +kernel
theorem d_Reader_next_19 : decode y_Reader_next.2.1 19 = .ok (.aload_n 0, 1) := by decide +kernel
theorem d_Reader_next_20 : decode y_Reader_next.2.1 20 = .ok (.getfield 9, 3) := by decide +kernel
theorem d_Reader_next_23 : decode y_Reader_next.2.1 23 = .ok (.aload_n 0, 1) := by decide +kernel
theorem d_Reader_next_24 : decode y_Reader_next.2.1 24 = .ok (.getfield 34, 3) := by decide +kernel
theorem d_Reader_next_27 : decode y_Reader_next.2.1 27 = .ok (.iaload, 1) := by decide +kernel
theorem d_Reader_next_28 : decode y_Reader_next.2.1 28 = .ok (.invokestatic 52, 3) := by decide +kernel
theorem d_Reader_next_31 : decode y_Reader_next.2.1 31 = .ok (.ifCond .eq 16, 3) := by decide +kernel
theorem d_Reader_next_34 : decode y_Reader_next.2.1 34 = .ok (.aload_n 0, 1) := by decide +kernel
theorem d_Reader_next_35 : decode y_Reader_next.2.1 35 = .ok (.dup, 1) := by decide +kernel
theorem d_Reader_next_36 : decode y_Reader_next.2.1 36 = .ok (.getfield 34, 3) := by decide +kernel
theorem d_Reader_next_39 : decode y_Reader_next.2.1 39 = .ok (.iconst 1, 1) := by decide +kernel
theorem d_Reader_next_40 : decode y_Reader_next.2.1 40 = .ok (.iadd, 1) := by decide +kernel
theorem d_Reader_next_41 : decode y_Reader_next.2.1 41 = .ok (.putfield 34, 3) := by decide +kernel
theorem d_Reader_next_44 : decode y_Reader_next.2.1 44 = .ok (.goto (-36), 3) := by decide +kernel
theorem d_Reader_next_47 : decode y_Reader_next.2.1 47 = .ok (.aload_n 0, 1) := by decide +kernel
theorem d_Reader_next_48 : decode y_Reader_next.2.1 48 = .ok (.aload_n 0, 1) := by decide +kernel
theorem d_Reader_next_49 : decode y_Reader_next.2.1 49 = .ok (.getfield 34, 3) := by decide +kernel
theorem d_Reader_next_52 : decode y_Reader_next.2.1 52 = .ok (.putfield 49, 3) := by decide +kernel
theorem d_Reader_next_55 : decode y_Reader_next.2.1 55 = .ok (.aload_n 0, 1) := by decide +kernel
theorem d_Reader_next_56 : decode y_Reader_next.2.1 56 = .ok (.getfield 34, 3) := by decide +kernel
theorem d_Reader_next_59 : decode y_Reader_next.2.1 59 = .ok (.aload_n 0, 1) := by decide +kernel
theorem d_Reader_next_60 : decode y_Reader_next.2.1 60 = .ok (.getfield 15, 3) := by decide +kernel
theorem d_Reader_next_63 : decode y_Reader_next.2.1 63 = .ok (.if_icmp .lt 9, 3) := by decide +kernel
theorem d_Reader_next_66 : decode y_Reader_next.2.1 66 = .ok (.aload_n 0, 1) := by decide +kernel
theorem d_Reader_next_67 : decode y_Reader_next.2.1 67 = .ok (.iconst 0, 1) := by decide +kernel
theorem d_Reader_next_68 : decode y_Reader_next.2.1 68 = .ok (.putfield 43, 3) := by decide +kernel
theorem d_Reader_next_71 : decode y_Reader_next.2.1 71 = .ok (.return_, 1) := by decide +kernel
theorem d_Reader_next_72 : decode y_Reader_next.2.1 72 = .ok (.aload_n 0, 1) := by decide +kernel
theorem d_Reader_next_73 : decode y_Reader_next.2.1 73 = .ok (.getfield 9, 3) := by decide +kernel
theorem d_Reader_next_76 : decode y_Reader_next.2.1 76 = .ok (.aload_n 0, 1) := by decide +kernel
theorem d_Reader_next_77 : decode y_Reader_next.2.1 77 = .ok (.getfield 34, 3) := by decide +kernel
theorem d_Reader_next_80 : decode y_Reader_next.2.1 80 = .ok (.iaload, 1) := by decide +kernel
theorem d_Reader_next_81 : decode y_Reader_next.2.1 81 = .ok (.istore_n 1, 1) := by decide +kernel
theorem d_Reader_next_82 : decode y_Reader_next.2.1 82 = .ok (.iload_n 1, 1) := by decide +kernel
theorem d_Reader_next_83 : decode y_Reader_next.2.1 83 = .ok (.invokestatic 56, 3) := by decide +kernel
theorem d_Reader_next_86 : decode y_Reader_next.2.1 86 = .ok (.ifCond .eq 10, 3) := by decide +kernel
theorem d_Reader_next_89 : decode y_Reader_next.2.1 89 = .ok (.aload_n 0, 1) := by decide +kernel
theorem d_Reader_next_90 : decode y_Reader_next.2.1 90 = .ok (.invokevirtual 59, 3) := by decide +kernel
theorem d_Reader_next_93 : decode y_Reader_next.2.1 93 = .ok (.goto 47, 3) := by decide +kernel
theorem d_Reader_next_96 : decode y_Reader_next.2.1 96 = .ok (.iload_n 1, 1) := by decide +kernel
theorem d_Reader_next_97 : decode y_Reader_next.2.1 97 = .ok (.invokestatic 62, 3) := by decide +kernel
theorem d_Reader_next_100 : decode y_Reader_next.2.1 100 = .ok (.ifCond .eq 10, 3) := by decide +kernel
theorem d_Reader_next_103 : decode y_Reader_next.2.1 103 = .ok (.aload_n 0, 1) := by decide +kernel
theorem d_Reader_next_104 : decode y_Reader_next.2.1 104 = .ok (.invokevirtual 65, 3) := by decide +kernel
theorem d_Reader_next_107 : decode y_Reader_next.2.1 107 = .ok (.goto 33, 3) := by decide +kernel
theorem d_Reader_next_110 : decode y_Reader_next.2.1 110 = .ok (.iload_n 1, 1) := by decide +kernel
theorem d_Reader_next_111 : decode y_Reader_next.2.1 111 = .ok (.invokestatic 68, 3) := by decide +kernel
theorem d_Reader_next_114 : decode y_Reader_next.2.1 114 = .ok (.ifCond .eq 21, 3) := by decide +kernel
theorem d_Reader_next_117 : decode y_Reader_next.2.1 117 = .ok (.aload_n 0, 1) := by decide +kernel
theorem d_Reader_next_118 : decode y_Reader_next.2.1 118 = .ok (.iload_n 1, 1) := by decide +kernel
theorem d_Reader_next_119 : decode y_Reader_next.2.1 119 = .ok (.putfield 43, 3) := by decide +kernel
theorem d_Reader_next_122 : decode y_Reader_next.2.1 122 = .ok (.aload_n 0, 1) := by decide +kernel
theorem d_Reader_next_123 : decode y_Reader_next.2.1 123 = .ok (.dup, 1) := by decide +kernel
theorem d_Reader_next_124 : decode y_Reader_next.2.1 124 = .ok (.getfield 34, 3) := by decide +kernel
theorem d_Reader_next_127 : decode y_Reader_next.2.1 127 = .ok (.iconst 1, 1) := by decide +kernel
theorem d_Reader_next_128 : decode y_Reader_next.2.1 128 = .ok (.iadd, 1) := by decide +kernel
theorem d_Reader_next_129 : decode y_Reader_next.2.1 129 = .ok (.putfield 34, 3) := by decide +kernel
theorem d_Reader_next_132 : decode y_Reader_next.2.1 132 = .ok (.goto 8, 3) := by decide +kernel
theorem d_Reader_next_135 : decode y_Reader_next.2.1 135 = .ok (.aload_n 0, 1) := by decide +kernel
theorem d_Reader_next_136 : decode y_Reader_next.2.1 136 = .ok (.iconst 1, 1) := by decide +kernel
theorem d_Reader_next_137 : decode y_Reader_next.2.1 137 = .ok (.invokevirtual 71, 3) := by decide +kernel
theorem d_Reader_next_140 : decode y_Reader_next.2.1 140 = .ok (.return_, 1) := by decide +kernel

abbrev y_Reader_isFirst : MI := (⟨"CricketHay$Reader", "isFirst", "(I)Z"⟩, prog_11_method_17_code, 4, (some .boolean))
theorem hy_Reader_isFirst : y_Reader_isFirst.1.cls ≠ "java/lang/invoke/MethodHandle" ∧ y_Reader_isFirst.1.cls ≠ "java/lang/invoke/VarHandle" ∧ (parseMethodDescriptor y_Reader_isFirst.1.desc).map (fun d => d.parameters.length) = some 1 := by decide +kernel
theorem d_Reader_isFirst_0 : decode y_Reader_isFirst.2.1 0 = .ok (.iconst 1, 1) := by decide +kernel
theorem d_Reader_isFirst_1 : decode y_Reader_isFirst.2.1 1 = .ok (.iload_n 1, 1) := by decide +kernel
theorem d_Reader_isFirst_2 : decode y_Reader_isFirst.2.1 2 = .ok (.sipush 256, 3) := by decide +kernel
theorem d_Reader_isFirst_5 : decode y_Reader_isFirst.2.1 5 = .ok (.isub, 1) := by decide +kernel
theorem d_Reader_isFirst_6 : decode y_Reader_isFirst.2.1 6 = .ok (.ishl, 1) := by decide +kernel
theorem d_Reader_isFirst_7 : decode y_Reader_isFirst.2.1 7 = .ok (.istore_n 2, 1) := by decide +kernel
theorem d_Reader_isFirst_8 : decode y_Reader_isFirst.2.1 8 = .ok (.aload_n 0, 1) := by decide +kernel
theorem d_Reader_isFirst_9 : decode y_Reader_isFirst.2.1 9 = .ok (.getfield 37, 3) := by decide +kernel
theorem d_Reader_isFirst_12 : decode y_Reader_isFirst.2.1 12 = .ok (.iload_n 2, 1) := by decide +kernel
theorem d_Reader_isFirst_13 : decode y_Reader_isFirst.2.1 13 = .ok (.iand, 1) := by decide +kernel
theorem d_Reader_isFirst_14 : decode y_Reader_isFirst.2.1 14 = .ok (.ifCond .ne 7, 3) := by decide +kernel
theorem d_Reader_isFirst_17 : decode y_Reader_isFirst.2.1 17 = .ok (.iconst 1, 1) := by decide +kernel
theorem d_Reader_isFirst_18 : decode y_Reader_isFirst.2.1 18 = .ok (.goto 4, 3) := by decide +kernel
theorem d_Reader_isFirst_21 : decode y_Reader_isFirst.2.1 21 = .ok (.iconst 0, 1) := by decide +kernel
theorem d_Reader_isFirst_22 : decode y_Reader_isFirst.2.1 22 = .ok (.istore_n 3, 1) := by decide +kernel
theorem d_Reader_isFirst_23 : decode y_Reader_isFirst.2.1 23 = .ok (.aload_n 0, 1) := by decide +kernel
theorem d_Reader_isFirst_24 : decode y_Reader_isFirst.2.1 24 = .ok (.dup, 1) := by decide +kernel
theorem d_Reader_isFirst_25 : decode y_Reader_isFirst.2.1 25 = .ok (.getfield 37, 3) := by decide +kernel
theorem d_Reader_isFirst_28 : decode y_Reader_isFirst.2.1 28 = .ok (.iload_n 2, 1) := by decide +kernel
theorem d_Reader_isFirst_29 : decode y_Reader_isFirst.2.1 29 = .ok (.ior, 1) := by decide +kernel
theorem d_Reader_isFirst_30 : decode y_Reader_isFirst.2.1 30 = .ok (.putfield 37, 3) := by decide +kernel
theorem d_Reader_isFirst_33 : decode y_Reader_isFirst.2.1 33 = .ok (.iload_n 3, 1) := by decide +kernel
theorem d_Reader_isFirst_34 : decode y_Reader_isFirst.2.1 34 = .ok (.ireturn, 1) := by decide +kernel

abbrev y_Reader_mayStand : MI := (⟨"CricketHay$Reader", "mayStand", "(I)Z"⟩, prog_11_method_16_code, 2, (some .boolean))
theorem hy_Reader_mayStand : y_Reader_mayStand.1.cls ≠ "java/lang/invoke/MethodHandle" ∧ y_Reader_mayStand.1.cls ≠ "java/lang/invoke/VarHandle" ∧ (parseMethodDescriptor y_Reader_mayStand.1.desc).map (fun d => d.parameters.length) = some 1 := by decide +kernel
theorem d_Reader_mayStand_0 : decode y_Reader_mayStand.2.1 0 = .ok (.iload_n 1, 1) := by decide +kernel
theorem d_Reader_mayStand_1 : decode y_Reader_mayStand.2.1 1 = .ok (.tableswitch 108 256 268 #[67, 84, 108, 108, 108, 108, 108, 108, 102, 102, 102, 102, 102], 67) := by decide +kernel
theorem d_Reader_mayStand_68 : decode y_Reader_mayStand.2.1 68 = .ok (.aload_n 0, 1) := by decide +kernel
theorem d_Reader_mayStand_69 : decode y_Reader_mayStand.2.1 69 = .ok (.getfield 25, 3) := by decide +kernel
theorem d_Reader_mayStand_72 : decode y_Reader_mayStand.2.1 72 = .ok (.getfield 131, 3) := by decide +kernel
theorem d_Reader_mayStand_75 : decode y_Reader_mayStand.2.1 75 = .ok (.iconst 3, 1) := by decide +kernel
theorem d_Reader_mayStand_76 : decode y_Reader_mayStand.2.1 76 = .ok (.if_icmp .ge 7, 3) := by decide +kernel
theorem d_Reader_mayStand_79 : decode y_Reader_mayStand.2.1 79 = .ok (.iconst 1, 1) := by decide +kernel
theorem d_Reader_mayStand_80 : decode y_Reader_mayStand.2.1 80 = .ok (.goto 4, 3) := by decide +kernel
theorem d_Reader_mayStand_83 : decode y_Reader_mayStand.2.1 83 = .ok (.iconst 0, 1) := by decide +kernel
theorem d_Reader_mayStand_84 : decode y_Reader_mayStand.2.1 84 = .ok (.ireturn, 1) := by decide +kernel
theorem d_Reader_mayStand_85 : decode y_Reader_mayStand.2.1 85 = .ok (.aload_n 0, 1) := by decide +kernel
theorem d_Reader_mayStand_86 : decode y_Reader_mayStand.2.1 86 = .ok (.getfield 25, 3) := by decide +kernel
theorem d_Reader_mayStand_89 : decode y_Reader_mayStand.2.1 89 = .ok (.getfield 134, 3) := by decide +kernel
theorem d_Reader_mayStand_92 : decode y_Reader_mayStand.2.1 92 = .ok (.bipush 6, 2) := by decide +kernel
theorem d_Reader_mayStand_94 : decode y_Reader_mayStand.2.1 94 = .ok (.if_icmp .ge 7, 3) := by decide +kernel
theorem d_Reader_mayStand_97 : decode y_Reader_mayStand.2.1 97 = .ok (.iconst 1, 1) := by decide +kernel
theorem d_Reader_mayStand_98 : decode y_Reader_mayStand.2.1 98 = .ok (.goto 4, 3) := by decide +kernel
theorem d_Reader_mayStand_101 : decode y_Reader_mayStand.2.1 101 = .ok (.iconst 0, 1) := by decide +kernel
theorem d_Reader_mayStand_102 : decode y_Reader_mayStand.2.1 102 = .ok (.ireturn, 1) := by decide +kernel
theorem d_Reader_mayStand_103 : decode y_Reader_mayStand.2.1 103 = .ok (.aload_n 0, 1) := by decide +kernel
theorem d_Reader_mayStand_104 : decode y_Reader_mayStand.2.1 104 = .ok (.iload_n 1, 1) := by decide +kernel
theorem d_Reader_mayStand_105 : decode y_Reader_mayStand.2.1 105 = .ok (.invokevirtual 137, 3) := by decide +kernel
theorem d_Reader_mayStand_108 : decode y_Reader_mayStand.2.1 108 = .ok (.ireturn, 1) := by decide +kernel
theorem d_Reader_mayStand_109 : decode y_Reader_mayStand.2.1 109 = .ok (.iconst 0, 1) := by decide +kernel
theorem d_Reader_mayStand_110 : decode y_Reader_mayStand.2.1 110 = .ok (.ireturn, 1) := by decide +kernel

abbrev y_Reader_isNewName : MI := (⟨"CricketHay$Reader", "isNewName", "([JI)Z"⟩, prog_11_method_20_code, 4, (some .boolean))
theorem hy_Reader_isNewName : y_Reader_isNewName.1.cls ≠ "java/lang/invoke/MethodHandle" ∧ y_Reader_isNewName.1.cls ≠ "java/lang/invoke/VarHandle" ∧ (parseMethodDescriptor y_Reader_isNewName.1.desc).map (fun d => d.parameters.length) = some 2 := by decide +kernel
theorem d_Reader_isNewName_0 : decode y_Reader_isNewName.2.1 0 = .ok (.aload_n 0, 1) := by decide +kernel
theorem d_Reader_isNewName_1 : decode y_Reader_isNewName.2.1 1 = .ok (.getfield 43, 3) := by decide +kernel
theorem d_Reader_isNewName_4 : decode y_Reader_isNewName.2.1 4 = .ok (.iconst 2, 1) := by decide +kernel
theorem d_Reader_isNewName_5 : decode y_Reader_isNewName.2.1 5 = .ok (.if_icmp .ne 9, 3) := by decide +kernel
theorem d_Reader_isNewName_8 : decode y_Reader_isNewName.2.1 8 = .ok (.iload_n 2, 1) := by decide +kernel
theorem d_Reader_isNewName_9 : decode y_Reader_isNewName.2.1 9 = .ok (.aload_n 1, 1) := by decide +kernel
theorem d_Reader_isNewName_10 : decode y_Reader_isNewName.2.1 10 = .ok (.arraylength, 1) := by decide +kernel
theorem d_Reader_isNewName_11 : decode y_Reader_isNewName.2.1 11 = .ok (.if_icmp .lt 10, 3) := by decide +kernel
theorem d_Reader_isNewName_14 : decode y_Reader_isNewName.2.1 14 = .ok (.aload_n 0, 1) := by decide +kernel
theorem d_Reader_isNewName_15 : decode y_Reader_isNewName.2.1 15 = .ok (.iconst 2, 1) := by decide +kernel
theorem d_Reader_isNewName_16 : decode y_Reader_isNewName.2.1 16 = .ok (.invokevirtual 71, 3) := by decide +kernel
theorem d_Reader_isNewName_19 : decode y_Reader_isNewName.2.1 19 = .ok (.iconst 0, 1) := by decide +kernel
theorem d_Reader_isNewName_20 : decode y_Reader_isNewName.2.1 20 = .ok (.ireturn, 1) := by decide +kernel
theorem d_Reader_isNewName_21 : decode y_Reader_isNewName.2.1 21 = .ok (.iconst 0, 1) := by decide +kernel
theorem d_Reader_isNewName_22 : decode y_Reader_isNewName.2.1 22 = .ok (.istore_n 3, 1) := by decide +kernel
theorem d_Reader_isNewName_23 : decode y_Reader_isNewName.2.1 23 = .ok (.iload_n 3, 1) := by decide +kernel
theorem d_Reader_isNewName_24 : decode y_Reader_isNewName.2.1 24 = .ok (.iload_n 2, 1) := by decide +kernel
theorem d_Reader_isNewName_25 : decode y_Reader_isNewName.2.1 25 = .ok (.if_icmp .ge 27, 3) := by decide +kernel
theorem d_Reader_isNewName_28 : decode y_Reader_isNewName.2.1 28 = .ok (.aload_n 1, 1) := by decide +kernel
theorem d_Reader_isNewName_29 : decode y_Reader_isNewName.2.1 29 = .ok (.iload_n 3, 1) := by decide +kernel
theorem d_Reader_isNewName_30 : decode y_Reader_isNewName.2.1 30 = .ok (.laload, 1) := by decide +kernel
theorem d_Reader_isNewName_31 : decode y_Reader_isNewName.2.1 31 = .ok (.aload_n 0, 1) := by decide +kernel
theorem d_Reader_isNewName_32 : decode y_Reader_isNewName.2.1 32 = .ok (.getfield 75, 3) := by decide +kernel
theorem d_Reader_isNewName_35 : decode y_Reader_isNewName.2.1 35 = .ok (.lcmp, 1) := by decide +kernel
theorem d_Reader_isNewName_36 : decode y_Reader_isNewName.2.1 36 = .ok (.ifCond .ne 10, 3) := by decide +kernel
theorem d_Reader_isNewName_39 : decode y_Reader_isNewName.2.1 39 = .ok (.aload_n 0, 1) := by decide +kernel
theorem d_Reader_isNewName_40 : decode y_Reader_isNewName.2.1 40 = .ok (.iconst 3, 1) := by decide +kernel
theorem d_Reader_isNewName_41 : decode y_Reader_isNewName.2.1 41 = .ok (.invokevirtual 71, 3) := by decide +kernel
theorem d_Reader_isNewName_44 : decode y_Reader_isNewName.2.1 44 = .ok (.iconst 0, 1) := by decide +kernel
theorem d_Reader_isNewName_45 : decode y_Reader_isNewName.2.1 45 = .ok (.ireturn, 1) := by decide +kernel
theorem d_Reader_isNewName_46 : decode y_Reader_isNewName.2.1 46 = .ok (.iinc 3 1, 3) := by decide +kernel
theorem d_Reader_isNewName_49 : decode y_Reader_isNewName.2.1 49 = .ok (.goto (-26), 3) := by decide +kernel
theorem d_Reader_isNewName_52 : decode y_Reader_isNewName.2.1 52 = .ok (.iconst 1, 1) := by decide +kernel
theorem d_Reader_isNewName_53 : decode y_Reader_isNewName.2.1 53 = .ok (.ireturn, 1) := by decide +kernel

abbrev y_Reader_readKind : MI := (⟨"CricketHay$Reader", "readKind", "()V"⟩, prog_11_method_18_code, 1, none)
theorem hy_Reader_readKind : y_Reader_readKind.1.cls ≠ "java/lang/invoke/MethodHandle" ∧ y_Reader_readKind.1.cls ≠ "java/lang/invoke/VarHandle" ∧ (parseMethodDescriptor y_Reader_readKind.1.desc).map (fun d => d.parameters.length) = some 0 := by decide +kernel
theorem d_Reader_readKind_0 : decode y_Reader_readKind.2.1 0 = .ok (.aload_n 0, 1) := by decide +kernel
theorem d_Reader_readKind_1 : decode y_Reader_readKind.2.1 1 = .ok (.aload_n 0, 1) := by decide +kernel
theorem d_Reader_readKind_2 : decode y_Reader_readKind.2.1 2 = .ok (.getfield 25, 3) := by decide +kernel
theorem d_Reader_readKind_5 : decode y_Reader_readKind.2.1 5 = .ok (.getfield 140, 3) := by decide +kernel
theorem d_Reader_readKind_8 : decode y_Reader_readKind.2.1 8 = .ok (.aload_n 0, 1) := by decide +kernel
theorem d_Reader_readKind_9 : decode y_Reader_readKind.2.1 9 = .ok (.getfield 25, 3) := by decide +kernel
theorem d_Reader_readKind_12 : decode y_Reader_readKind.2.1 12 = .ok (.getfield 131, 3) := by decide +kernel
theorem d_Reader_readKind_15 : decode y_Reader_readKind.2.1 15 = .ok (.invokevirtual 144, 3) := by decide +kernel
theorem d_Reader_readKind_18 : decode y_Reader_readKind.2.1 18 = .ok (.ifCond .eq 39, 3) := by decide +kernel
theorem d_Reader_readKind_21 : decode y_Reader_readKind.2.1 21 = .ok (.aload_n 0, 1) := by decide +kernel
theorem d_Reader_readKind_22 : decode y_Reader_readKind.2.1 22 = .ok (.getfield 25, 3) := by decide +kernel
theorem d_Reader_readKind_25 : decode y_Reader_readKind.2.1 25 = .ok (.getfield 140, 3) := by decide +kernel
theorem d_Reader_readKind_28 : decode y_Reader_readKind.2.1 28 = .ok (.aload_n 0, 1) := by decide +kernel
theorem d_Reader_readKind_29 : decode y_Reader_readKind.2.1 29 = .ok (.getfield 25, 3) := by decide +kernel
theorem d_Reader_readKind_32 : decode y_Reader_readKind.2.1 32 = .ok (.getfield 131, 3) := by decide +kernel
theorem d_Reader_readKind_35 : decode y_Reader_readKind.2.1 35 = .ok (.aload_n 0, 1) := by decide +kernel
theorem d_Reader_readKind_36 : decode y_Reader_readKind.2.1 36 = .ok (.getfield 75, 3) := by decide +kernel
theorem d_Reader_readKind_39 : decode y_Reader_readKind.2.1 39 = .ok (.lastore, 1) := by decide +kernel
theorem d_Reader_readKind_40 : decode y_Reader_readKind.2.1 40 = .ok (.aload_n 0, 1) := by decide +kernel
theorem d_Reader_readKind_41 : decode y_Reader_readKind.2.1 41 = .ok (.getfield 25, 3) := by decide +kernel
theorem d_Reader_readKind_44 : decode y_Reader_readKind.2.1 44 = .ok (.dup, 1) := by decide +kernel
theorem d_Reader_readKind_45 : decode y_Reader_readKind.2.1 45 = .ok (.getfield 131, 3) := by decide +kernel
theorem d_Reader_readKind_48 : decode y_Reader_readKind.2.1 48 = .ok (.iconst 1, 1) := by decide +kernel
theorem d_Reader_readKind_49 : decode y_Reader_readKind.2.1 49 = .ok (.iadd, 1) := by decide +kernel
theorem d_Reader_readKind_50 : decode y_Reader_readKind.2.1 50 = .ok (.putfield 131, 3) := by decide +kernel
theorem d_Reader_readKind_53 : decode y_Reader_readKind.2.1 53 = .ok (.aload_n 0, 1) := by decide +kernel
theorem d_Reader_readKind_54 : decode y_Reader_readKind.2.1 54 = .ok (.invokevirtual 40, 3) := by decide +kernel
theorem d_Reader_readKind_57 : decode y_Reader_readKind.2.1 57 = .ok (.return_, 1) := by decide +kernel

abbrev y_Reader_need : MI := (⟨"CricketHay$Reader", "need", "(I)V"⟩, prog_11_method_13_code, 2, none)
theorem hy_Reader_need : y_Reader_need.1.cls ≠ "java/lang/invoke/MethodHandle" ∧ y_Reader_need.1.cls ≠ "java/lang/invoke/VarHandle" ∧ (parseMethodDescriptor y_Reader_need.1.desc).map (fun d => d.parameters.length) = some 1 := by decide +kernel
theorem d_Reader_need_0 : decode y_Reader_need.2.1 0 = .ok (.aload_n 0, 1) := by decide +kernel
theorem d_Reader_need_1 : decode y_Reader_need.2.1 1 = .ok (.getfield 43, 3) := by decide +kernel
theorem d_Reader_need_4 : decode y_Reader_need.2.1 4 = .ok (.iload_n 1, 1) := by decide +kernel
theorem d_Reader_need_5 : decode y_Reader_need.2.1 5 = .ok (.if_icmp .ne 10, 3) := by decide +kernel
theorem d_Reader_need_8 : decode y_Reader_need.2.1 8 = .ok (.aload_n 0, 1) := by decide +kernel
theorem d_Reader_need_9 : decode y_Reader_need.2.1 9 = .ok (.invokevirtual 40, 3) := by decide +kernel
theorem d_Reader_need_12 : decode y_Reader_need.2.1 12 = .ok (.goto 8, 3) := by decide +kernel
theorem d_Reader_need_15 : decode y_Reader_need.2.1 15 = .ok (.aload_n 0, 1) := by decide +kernel
theorem d_Reader_need_16 : decode y_Reader_need.2.1 16 = .ok (.iconst 2, 1) := by decide +kernel
theorem d_Reader_need_17 : decode y_Reader_need.2.1 17 = .ok (.invokevirtual 71, 3) := by decide +kernel
theorem d_Reader_need_20 : decode y_Reader_need.2.1 20 = .ok (.return_, 1) := by decide +kernel

abbrev y_Reader_needKind : MI := (⟨"CricketHay$Reader", "needKind", "()I"⟩, prog_11_method_21_code, 2, (some .int))
theorem hy_Reader_needKind : y_Reader_needKind.1.cls ≠ "java/lang/invoke/MethodHandle" ∧ y_Reader_needKind.1.cls ≠ "java/lang/invoke/VarHandle" ∧ (parseMethodDescriptor y_Reader_needKind.1.desc).map (fun d => d.parameters.length) = some 0 := by decide +kernel
theorem d_Reader_needKind_0 : decode y_Reader_needKind.2.1 0 = .ok (.aload_n 0, 1) := by decide +kernel
theorem d_Reader_needKind_1 : decode y_Reader_needKind.2.1 1 = .ok (.getfield 43, 3) := by decide +kernel
theorem d_Reader_needKind_4 : decode y_Reader_needKind.2.1 4 = .ok (.iconst 2, 1) := by decide +kernel
theorem d_Reader_needKind_5 : decode y_Reader_needKind.2.1 5 = .ok (.if_icmp .eq 10, 3) := by decide +kernel
theorem d_Reader_needKind_8 : decode y_Reader_needKind.2.1 8 = .ok (.aload_n 0, 1) := by decide +kernel
theorem d_Reader_needKind_9 : decode y_Reader_needKind.2.1 9 = .ok (.iconst 2, 1) := by decide +kernel
theorem d_Reader_needKind_10 : decode y_Reader_needKind.2.1 10 = .ok (.invokevirtual 71, 3) := by decide +kernel
theorem d_Reader_needKind_13 : decode y_Reader_needKind.2.1 13 = .ok (.iconst 0, 1) := by decide +kernel
theorem d_Reader_needKind_14 : decode y_Reader_needKind.2.1 14 = .ok (.ireturn, 1) := by decide +kernel
theorem d_Reader_needKind_15 : decode y_Reader_needKind.2.1 15 = .ok (.iconst 0, 1) := by decide +kernel
theorem d_Reader_needKind_16 : decode y_Reader_needKind.2.1 16 = .ok (.istore_n 1, 1) := by decide +kernel
theorem d_Reader_needKind_17 : decode y_Reader_needKind.2.1 17 = .ok (.iload_n 1, 1) := by decide +kernel
theorem d_Reader_needKind_18 : decode y_Reader_needKind.2.1 18 = .ok (.aload_n 0, 1) := by decide +kernel
theorem d_Reader_needKind_19 : decode y_Reader_needKind.2.1 19 = .ok (.getfield 25, 3) := by decide +kernel
theorem d_Reader_needKind_22 : decode y_Reader_needKind.2.1 22 = .ok (.getfield 131, 3) := by decide +kernel
theorem d_Reader_needKind_25 : decode y_Reader_needKind.2.1 25 = .ok (.if_icmp .ge 32, 3) := by decide +kernel
theorem d_Reader_needKind_28 : decode y_Reader_needKind.2.1 28 = .ok (.aload_n 0, 1) := by decide +kernel
theorem d_Reader_needKind_29 : decode y_Reader_needKind.2.1 29 = .ok (.getfield 25, 3) := by decide +kernel
theorem d_Reader_needKind_32 : decode y_Reader_needKind.2.1 32 = .ok (.getfield 140, 3) := by decide +kernel
theorem d_Reader_needKind_35 : decode y_Reader_needKind.2.1 35 = .ok (.iload_n 1, 1) := by decide +kernel
theorem d_Reader_needKind_36 : decode y_Reader_needKind.2.1 36 = .ok (.laload, 1) := by decide +kernel
theorem d_Reader_needKind_37 : decode y_Reader_needKind.2.1 37 = .ok (.aload_n 0, 1) := by decide +kernel
theorem d_Reader_needKind_38 : decode y_Reader_needKind.2.1 38 = .ok (.getfield 75, 3) := by decide +kernel
theorem d_Reader_needKind_41 : decode y_Reader_needKind.2.1 41 = .ok (.lcmp, 1) := by decide +kernel
theorem d_Reader_needKind_42 : decode y_Reader_needKind.2.1 42 = .ok (.ifCond .ne 9, 3) := by decide +kernel
theorem d_Reader_needKind_45 : decode y_Reader_needKind.2.1 45 = .ok (.aload_n 0, 1) := by decide +kernel
theorem d_Reader_needKind_46 : decode y_Reader_needKind.2.1 46 = .ok (.invokevirtual 40, 3) := by decide +kernel
theorem d_Reader_needKind_49 : decode y_Reader_needKind.2.1 49 = .ok (.iload_n 1, 1) := by decide +kernel
theorem d_Reader_needKind_50 : decode y_Reader_needKind.2.1 50 = .ok (.ireturn, 1) := by decide +kernel
theorem d_Reader_needKind_51 : decode y_Reader_needKind.2.1 51 = .ok (.iinc 1 1, 3) := by decide +kernel
theorem d_Reader_needKind_54 : decode y_Reader_needKind.2.1 54 = .ok (.goto (-37), 3) := by decide +kernel
theorem d_Reader_needKind_57 : decode y_Reader_needKind.2.1 57 = .ok (.aload_n 0, 1) := by decide +kernel
theorem d_Reader_needKind_58 : decode y_Reader_needKind.2.1 58 = .ok (.iconst 5, 1) := by decide +kernel
theorem d_Reader_needKind_59 : decode y_Reader_needKind.2.1 59 = .ok (.invokevirtual 71, 3) := by decide +kernel
theorem d_Reader_needKind_62 : decode y_Reader_needKind.2.1 62 = .ok (.iconst 0, 1) := by decide +kernel
theorem d_Reader_needKind_63 : decode y_Reader_needKind.2.1 63 = .ok (.ireturn, 1) := by decide +kernel

abbrev y_Reader_needNumber : MI := (⟨"CricketHay$Reader", "needNumber", "(II)I"⟩, prog_11_method_14_code, 4, (some .int))
theorem hy_Reader_needNumber : y_Reader_needNumber.1.cls ≠ "java/lang/invoke/MethodHandle" ∧ y_Reader_needNumber.1.cls ≠ "java/lang/invoke/VarHandle" ∧ (parseMethodDescriptor y_Reader_needNumber.1.desc).map (fun d => d.parameters.length) = some 2 := by decide +kernel
theorem d_Reader_needNumber_0 : decode y_Reader_needNumber.2.1 0 = .ok (.aload_n 0, 1) := by decide +kernel
theorem d_Reader_needNumber_1 : decode y_Reader_needNumber.2.1 1 = .ok (.getfield 43, 3) := by decide +kernel
theorem d_Reader_needNumber_4 : decode y_Reader_needNumber.2.1 4 = .ok (.iconst 1, 1) := by decide +kernel
theorem d_Reader_needNumber_5 : decode y_Reader_needNumber.2.1 5 = .ok (.if_icmp .eq 10, 3) := by decide +kernel
theorem d_Reader_needNumber_8 : decode y_Reader_needNumber.2.1 8 = .ok (.aload_n 0, 1) := by decide +kernel
theorem d_Reader_needNumber_9 : decode y_Reader_needNumber.2.1 9 = .ok (.iconst 2, 1) := by decide +kernel
theorem d_Reader_needNumber_10 : decode y_Reader_needNumber.2.1 10 = .ok (.invokevirtual 71, 3) := by decide +kernel
theorem d_Reader_needNumber_13 : decode y_Reader_needNumber.2.1 13 = .ok (.iconst 0, 1) := by decide +kernel
theorem d_Reader_needNumber_14 : decode y_Reader_needNumber.2.1 14 = .ok (.ireturn, 1) := by decide +kernel
theorem d_Reader_needNumber_15 : decode y_Reader_needNumber.2.1 15 = .ok (.aload_n 0, 1) := by decide +kernel
theorem d_Reader_needNumber_16 : decode y_Reader_needNumber.2.1 16 = .ok (.getfield 90, 3) := by decide +kernel
theorem d_Reader_needNumber_19 : decode y_Reader_needNumber.2.1 19 = .ok (.istore_n 3, 1) := by decide +kernel
theorem d_Reader_needNumber_20 : decode y_Reader_needNumber.2.1 20 = .ok (.iload_n 3, 1) := by decide +kernel
theorem d_Reader_needNumber_21 : decode y_Reader_needNumber.2.1 21 = .ok (.iload_n 1, 1) := by decide +kernel
theorem d_Reader_needNumber_22 : decode y_Reader_needNumber.2.1 22 = .ok (.if_icmp .lt 8, 3) := by decide +kernel
theorem d_Reader_needNumber_25 : decode y_Reader_needNumber.2.1 25 = .ok (.iload_n 3, 1) := by decide +kernel
theorem d_Reader_needNumber_26 : decode y_Reader_needNumber.2.1 26 = .ok (.iload_n 2, 1) := by decide +kernel
theorem d_Reader_needNumber_27 : decode y_Reader_needNumber.2.1 27 = .ok (.if_icmp .le 10, 3) := by decide +kernel
theorem d_Reader_needNumber_30 : decode y_Reader_needNumber.2.1 30 = .ok (.aload_n 0, 1) := by decide +kernel
theorem d_Reader_needNumber_31 : decode y_Reader_needNumber.2.1 31 = .ok (.iconst 4, 1) := by decide +kernel
theorem d_Reader_needNumber_32 : decode y_Reader_needNumber.2.1 32 = .ok (.invokevirtual 71, 3) := by decide +kernel
theorem d_Reader_needNumber_35 : decode y_Reader_needNumber.2.1 35 = .ok (.iconst 0, 1) := by decide +kernel
theorem d_Reader_needNumber_36 : decode y_Reader_needNumber.2.1 36 = .ok (.ireturn, 1) := by decide +kernel
theorem d_Reader_needNumber_37 : decode y_Reader_needNumber.2.1 37 = .ok (.aload_n 0, 1) := by decide +kernel
theorem d_Reader_needNumber_38 : decode y_Reader_needNumber.2.1 38 = .ok (.invokevirtual 40, 3) := by decide +kernel
theorem d_Reader_needNumber_41 : decode y_Reader_needNumber.2.1 41 = .ok (.iload_n 3, 1) := by decide +kernel
theorem d_Reader_needNumber_42 : decode y_Reader_needNumber.2.1 42 = .ok (.ireturn, 1) := by decide +kernel

abbrev y_Reader_take : MI := (⟨"CricketHay$Reader", "take", "(I)Z"⟩, prog_11_method_12_code, 2, (some .boolean))
theorem hy_Reader_take : y_Reader_take.1.cls ≠ "java/lang/invoke/MethodHandle" ∧ y_Reader_take.1.cls ≠ "java/lang/invoke/VarHandle" ∧ (parseMethodDescriptor y_Reader_take.1.desc).map (fun d => d.parameters.length) = some 1 := by decide +kernel
theorem d_Reader_take_0 : decode y_Reader_take.2.1 0 = .ok (.aload_n 0, 1) := by decide +kernel
theorem d_Reader_take_1 : decode y_Reader_take.2.1 1 = .ok (.getfield 43, 3) := by decide +kernel
theorem d_Reader_take_4 : decode y_Reader_take.2.1 4 = .ok (.iload_n 1, 1) := by decide +kernel
theorem d_Reader_take_5 : decode y_Reader_take.2.1 5 = .ok (.if_icmp .eq 5, 3) := by decide +kernel
theorem d_Reader_take_8 : decode y_Reader_take.2.1 8 = .ok (.iconst 0, 1) := by decide +kernel
theorem d_Reader_take_9 : decode y_Reader_take.2.1 9 = .ok (.ireturn, 1) := by decide +kernel
theorem d_Reader_take_10 : decode y_Reader_take.2.1 10 = .ok (.aload_n 0, 1) := by decide +kernel
theorem d_Reader_take_11 : decode y_Reader_take.2.1 11 = .ok (.invokevirtual 40, 3) := by decide +kernel
theorem d_Reader_take_14 : decode y_Reader_take.2.1 14 = .ok (.iconst 1, 1) := by decide +kernel
theorem d_Reader_take_15 : decode y_Reader_take.2.1 15 = .ok (.ireturn, 1) := by decide +kernel

abbrev y_Reader_readDealer : MI := (⟨"CricketHay$Reader", "readDealer", "()V"⟩, prog_11_method_19_code, 2, none)
theorem hy_Reader_readDealer : y_Reader_readDealer.1.cls ≠ "java/lang/invoke/MethodHandle" ∧ y_Reader_readDealer.1.cls ≠ "java/lang/invoke/VarHandle" ∧ (parseMethodDescriptor y_Reader_readDealer.1.desc).map (fun d => d.parameters.length) = some 0 := by decide +kernel
theorem d_Reader_readDealer_0 : decode y_Reader_readDealer.2.1 0 = .ok (.aload_n 0, 1) := by decide +kernel
theorem d_Reader_readDealer_1 : decode y_Reader_readDealer.2.1 1 = .ok (.getfield 25, 3) := by decide +kernel
theorem d_Reader_readDealer_4 : decode y_Reader_readDealer.2.1 4 = .ok (.getfield 134, 3) := by decide +kernel
theorem d_Reader_readDealer_7 : decode y_Reader_readDealer.2.1 7 = .ok (.istore_n 1, 1) := by decide +kernel
theorem d_Reader_readDealer_8 : decode y_Reader_readDealer.2.1 8 = .ok (.aload_n 0, 1) := by decide +kernel
theorem d_Reader_readDealer_9 : decode y_Reader_readDealer.2.1 9 = .ok (.aload_n 0, 1) := by decide +kernel
theorem d_Reader_readDealer_10 : decode y_Reader_readDealer.2.1 10 = .ok (.getfield 25, 3) := by decide +kernel
theorem d_Reader_readDealer_13 : decode y_Reader_readDealer.2.1 13 = .ok (.getfield 148, 3) := by decide +kernel
theorem d_Reader_readDealer_16 : decode y_Reader_readDealer.2.1 16 = .ok (.iload_n 1, 1) := by decide +kernel
theorem d_Reader_readDealer_17 : decode y_Reader_readDealer.2.1 17 = .ok (.invokevirtual 144, 3) := by decide +kernel
theorem d_Reader_readDealer_20 : decode y_Reader_readDealer.2.1 20 = .ok (.ifCond .ne 4, 3) := by decide +kernel
theorem d_Reader_readDealer_23 : decode y_Reader_readDealer.2.1 23 = .ok (.return_, 1) := by decide +kernel
theorem d_Reader_readDealer_24 : decode y_Reader_readDealer.2.1 24 = .ok (.aload_n 0, 1) := by decide +kernel
theorem d_Reader_readDealer_25 : decode y_Reader_readDealer.2.1 25 = .ok (.getfield 25, 3) := by decide +kernel
theorem d_Reader_readDealer_28 : decode y_Reader_readDealer.2.1 28 = .ok (.getfield 148, 3) := by decide +kernel
theorem d_Reader_readDealer_31 : decode y_Reader_readDealer.2.1 31 = .ok (.iload_n 1, 1) := by decide +kernel
theorem d_Reader_readDealer_32 : decode y_Reader_readDealer.2.1 32 = .ok (.aload_n 0, 1) := by decide +kernel
theorem d_Reader_readDealer_33 : decode y_Reader_readDealer.2.1 33 = .ok (.getfield 75, 3) := by decide +kernel
theorem d_Reader_readDealer_36 : decode y_Reader_readDealer.2.1 36 = .ok (.lastore, 1) := by decide +kernel
theorem d_Reader_readDealer_37 : decode y_Reader_readDealer.2.1 37 = .ok (.aload_n 0, 1) := by decide +kernel
theorem d_Reader_readDealer_38 : decode y_Reader_readDealer.2.1 38 = .ok (.getfield 25, 3) := by decide +kernel
theorem d_Reader_readDealer_41 : decode y_Reader_readDealer.2.1 41 = .ok (.dup, 1) := by decide +kernel
theorem d_Reader_readDealer_42 : decode y_Reader_readDealer.2.1 42 = .ok (.getfield 134, 3) := by decide +kernel
theorem d_Reader_readDealer_45 : decode y_Reader_readDealer.2.1 45 = .ok (.iconst 1, 1) := by decide +kernel
theorem d_Reader_readDealer_46 : decode y_Reader_readDealer.2.1 46 = .ok (.iadd, 1) := by decide +kernel
theorem d_Reader_readDealer_47 : decode y_Reader_readDealer.2.1 47 = .ok (.putfield 134, 3) := by decide +kernel
theorem d_Reader_readDealer_50 : decode y_Reader_readDealer.2.1 50 = .ok (.aload_n 0, 1) := by decide +kernel
theorem d_Reader_readDealer_51 : decode y_Reader_readDealer.2.1 51 = .ok (.invokevirtual 40, 3) := by decide +kernel
theorem d_Reader_readDealer_54 : decode y_Reader_readDealer.2.1 54 = .ok (.aload_n 0, 1) := by decide +kernel
theorem d_Reader_readDealer_55 : decode y_Reader_readDealer.2.1 55 = .ok (.sipush 258, 3) := by decide +kernel
theorem d_Reader_readDealer_58 : decode y_Reader_readDealer.2.1 58 = .ok (.invokevirtual 128, 3) := by decide +kernel
theorem d_Reader_readDealer_61 : decode y_Reader_readDealer.2.1 61 = .ok (.aload_n 0, 1) := by decide +kernel
theorem d_Reader_readDealer_62 : decode y_Reader_readDealer.2.1 62 = .ok (.getfield 25, 3) := by decide +kernel
theorem d_Reader_readDealer_65 : decode y_Reader_readDealer.2.1 65 = .ok (.getfield 151, 3) := by decide +kernel
theorem d_Reader_readDealer_68 : decode y_Reader_readDealer.2.1 68 = .ok (.iload_n 1, 1) := by decide +kernel
theorem d_Reader_readDealer_69 : decode y_Reader_readDealer.2.1 69 = .ok (.aload_n 0, 1) := by decide +kernel
theorem d_Reader_readDealer_70 : decode y_Reader_readDealer.2.1 70 = .ok (.invokevirtual 154, 3) := by decide +kernel
theorem d_Reader_readDealer_73 : decode y_Reader_readDealer.2.1 73 = .ok (.iastore, 1) := by decide +kernel
theorem d_Reader_readDealer_74 : decode y_Reader_readDealer.2.1 74 = .ok (.aload_n 0, 1) := by decide +kernel
theorem d_Reader_readDealer_75 : decode y_Reader_readDealer.2.1 75 = .ok (.sipush 259, 3) := by decide +kernel
theorem d_Reader_readDealer_78 : decode y_Reader_readDealer.2.1 78 = .ok (.invokevirtual 128, 3) := by decide +kernel
theorem d_Reader_readDealer_81 : decode y_Reader_readDealer.2.1 81 = .ok (.aload_n 0, 1) := by decide +kernel
theorem d_Reader_readDealer_82 : decode y_Reader_readDealer.2.1 82 = .ok (.getfield 25, 3) := by decide +kernel
theorem d_Reader_readDealer_85 : decode y_Reader_readDealer.2.1 85 = .ok (.getfield 157, 3) := by decide +kernel
theorem d_Reader_readDealer_88 : decode y_Reader_readDealer.2.1 88 = .ok (.iload_n 1, 1) := by decide +kernel
theorem d_Reader_readDealer_89 : decode y_Reader_readDealer.2.1 89 = .ok (.aload_n 0, 1) := by decide +kernel
theorem d_Reader_readDealer_90 : decode y_Reader_readDealer.2.1 90 = .ok (.iconst 0, 1) := by decide +kernel
theorem d_Reader_readDealer_91 : decode y_Reader_readDealer.2.1 91 = .ok (.bipush 9, 2) := by decide +kernel
theorem d_Reader_readDealer_93 : decode y_Reader_readDealer.2.1 93 = .ok (.invokevirtual 118, 3) := by decide +kernel
theorem d_Reader_readDealer_96 : decode y_Reader_readDealer.2.1 96 = .ok (.iastore, 1) := by decide +kernel
theorem d_Reader_readDealer_97 : decode y_Reader_readDealer.2.1 97 = .ok (.aload_n 0, 1) := by decide +kernel
theorem d_Reader_readDealer_98 : decode y_Reader_readDealer.2.1 98 = .ok (.getfield 25, 3) := by decide +kernel
theorem d_Reader_readDealer_101 : decode y_Reader_readDealer.2.1 101 = .ok (.getfield 160, 3) := by decide +kernel
theorem d_Reader_readDealer_104 : decode y_Reader_readDealer.2.1 104 = .ok (.iload_n 1, 1) := by decide +kernel
theorem d_Reader_readDealer_105 : decode y_Reader_readDealer.2.1 105 = .ok (.aload_n 0, 1) := by decide +kernel
theorem d_Reader_readDealer_106 : decode y_Reader_readDealer.2.1 106 = .ok (.sipush 260, 3) := by decide +kernel
theorem d_Reader_readDealer_109 : decode y_Reader_readDealer.2.1 109 = .ok (.invokevirtual 163, 3) := by decide +kernel
theorem d_Reader_readDealer_112 : decode y_Reader_readDealer.2.1 112 = .ok (.ifCond .eq 13, 3) := by decide +kernel
theorem d_Reader_readDealer_115 : decode y_Reader_readDealer.2.1 115 = .ok (.aload_n 0, 1) := by decide +kernel
theorem d_Reader_readDealer_116 : decode y_Reader_readDealer.2.1 116 = .ok (.iconst 0, 1) := by decide +kernel
theorem d_Reader_readDealer_117 : decode y_Reader_readDealer.2.1 117 = .ok (.bipush 99, 2) := by decide +kernel
theorem d_Reader_readDealer_119 : decode y_Reader_readDealer.2.1 119 = .ok (.invokevirtual 118, 3) := by decide +kernel
theorem d_Reader_readDealer_122 : decode y_Reader_readDealer.2.1 122 = .ok (.goto 4, 3) := by decide +kernel
theorem d_Reader_readDealer_125 : decode y_Reader_readDealer.2.1 125 = .ok (.iconst 0, 1) := by decide +kernel
theorem d_Reader_readDealer_126 : decode y_Reader_readDealer.2.1 126 = .ok (.iastore, 1) := by decide +kernel
theorem d_Reader_readDealer_127 : decode y_Reader_readDealer.2.1 127 = .ok (.aload_n 0, 1) := by decide +kernel
theorem d_Reader_readDealer_128 : decode y_Reader_readDealer.2.1 128 = .ok (.getfield 25, 3) := by decide +kernel
theorem d_Reader_readDealer_131 : decode y_Reader_readDealer.2.1 131 = .ok (.getfield 166, 3) := by decide +kernel
theorem d_Reader_readDealer_134 : decode y_Reader_readDealer.2.1 134 = .ok (.iload_n 1, 1) := by decide +kernel
theorem d_Reader_readDealer_135 : decode y_Reader_readDealer.2.1 135 = .ok (.aload_n 0, 1) := by decide +kernel
theorem d_Reader_readDealer_136 : decode y_Reader_readDealer.2.1 136 = .ok (.sipush 261, 3) := by decide +kernel
theorem d_Reader_readDealer_139 : decode y_Reader_readDealer.2.1 139 = .ok (.invokevirtual 163, 3) := by decide +kernel
theorem d_Reader_readDealer_142 : decode y_Reader_readDealer.2.1 142 = .ok (.ifCond .eq 14, 3) := by decide +kernel
theorem d_Reader_readDealer_145 : decode y_Reader_readDealer.2.1 145 = .ok (.aload_n 0, 1) := by decide +kernel
theorem d_Reader_readDealer_146 : decode y_Reader_readDealer.2.1 146 = .ok (.iconst 0, 1) := by decide +kernel
theorem d_Reader_readDealer_147 : decode y_Reader_readDealer.2.1 147 = .ok (.sipush 9999, 3) := by decide +kernel
theorem d_Reader_readDealer_150 : decode y_Reader_readDealer.2.1 150 = .ok (.invokevirtual 118, 3) := by decide +kernel
theorem d_Reader_readDealer_153 : decode y_Reader_readDealer.2.1 153 = .ok (.goto 4, 3) := by decide +kernel
theorem d_Reader_readDealer_156 : decode y_Reader_readDealer.2.1 156 = .ok (.iconst 0, 1) := by decide +kernel
theorem d_Reader_readDealer_157 : decode y_Reader_readDealer.2.1 157 = .ok (.iastore, 1) := by decide +kernel
theorem d_Reader_readDealer_158 : decode y_Reader_readDealer.2.1 158 = .ok (.aload_n 0, 1) := by decide +kernel
theorem d_Reader_readDealer_159 : decode y_Reader_readDealer.2.1 159 = .ok (.getfield 25, 3) := by decide +kernel
theorem d_Reader_readDealer_162 : decode y_Reader_readDealer.2.1 162 = .ok (.getfield 169, 3) := by decide +kernel
theorem d_Reader_readDealer_165 : decode y_Reader_readDealer.2.1 165 = .ok (.iload_n 1, 1) := by decide +kernel
theorem d_Reader_readDealer_166 : decode y_Reader_readDealer.2.1 166 = .ok (.aload_n 0, 1) := by decide +kernel
theorem d_Reader_readDealer_167 : decode y_Reader_readDealer.2.1 167 = .ok (.sipush 262, 3) := by decide +kernel
theorem d_Reader_readDealer_170 : decode y_Reader_readDealer.2.1 170 = .ok (.invokevirtual 163, 3) := by decide +kernel
theorem d_Reader_readDealer_173 : decode y_Reader_readDealer.2.1 173 = .ok (.ifCond .eq 13, 3) := by decide +kernel
theorem d_Reader_readDealer_176 : decode y_Reader_readDealer.2.1 176 = .ok (.aload_n 0, 1) := by decide +kernel
theorem d_Reader_readDealer_177 : decode y_Reader_readDealer.2.1 177 = .ok (.iconst 0, 1) := by decide +kernel
theorem d_Reader_readDealer_178 : decode y_Reader_readDealer.2.1 178 = .ok (.bipush 99, 2) := by decide +kernel
theorem d_Reader_readDealer_180 : decode y_Reader_readDealer.2.1 180 = .ok (.invokevirtual 118, 3) := by decide +kernel
theorem d_Reader_readDealer_183 : decode y_Reader_readDealer.2.1 183 = .ok (.goto 4, 3) := by decide +kernel
theorem d_Reader_readDealer_186 : decode y_Reader_readDealer.2.1 186 = .ok (.iconst 0, 1) := by decide +kernel
theorem d_Reader_readDealer_187 : decode y_Reader_readDealer.2.1 187 = .ok (.iastore, 1) := by decide +kernel
theorem d_Reader_readDealer_188 : decode y_Reader_readDealer.2.1 188 = .ok (.aload_n 0, 1) := by decide +kernel
theorem d_Reader_readDealer_189 : decode y_Reader_readDealer.2.1 189 = .ok (.getfield 25, 3) := by decide +kernel
theorem d_Reader_readDealer_192 : decode y_Reader_readDealer.2.1 192 = .ok (.getfield 172, 3) := by decide +kernel
theorem d_Reader_readDealer_195 : decode y_Reader_readDealer.2.1 195 = .ok (.iload_n 1, 1) := by decide +kernel
theorem d_Reader_readDealer_196 : decode y_Reader_readDealer.2.1 196 = .ok (.aload_n 0, 1) := by decide +kernel
theorem d_Reader_readDealer_197 : decode y_Reader_readDealer.2.1 197 = .ok (.sipush 263, 3) := by decide +kernel
theorem d_Reader_readDealer_200 : decode y_Reader_readDealer.2.1 200 = .ok (.invokevirtual 163, 3) := by decide +kernel
theorem d_Reader_readDealer_203 : decode y_Reader_readDealer.2.1 203 = .ok (.ifCond .eq 13, 3) := by decide +kernel
theorem d_Reader_readDealer_206 : decode y_Reader_readDealer.2.1 206 = .ok (.aload_n 0, 1) := by decide +kernel
theorem d_Reader_readDealer_207 : decode y_Reader_readDealer.2.1 207 = .ok (.iconst 0, 1) := by decide +kernel
theorem d_Reader_readDealer_208 : decode y_Reader_readDealer.2.1 208 = .ok (.bipush 9, 2) := by decide +kernel
theorem d_Reader_readDealer_210 : decode y_Reader_readDealer.2.1 210 = .ok (.invokevirtual 118, 3) := by decide +kernel
theorem d_Reader_readDealer_213 : decode y_Reader_readDealer.2.1 213 = .ok (.goto 4, 3) := by decide +kernel
theorem d_Reader_readDealer_216 : decode y_Reader_readDealer.2.1 216 = .ok (.iconst 0, 1) := by decide +kernel
theorem d_Reader_readDealer_217 : decode y_Reader_readDealer.2.1 217 = .ok (.iastore, 1) := by decide +kernel
theorem d_Reader_readDealer_218 : decode y_Reader_readDealer.2.1 218 = .ok (.return_, 1) := by decide +kernel

abbrev y_Formula_add : MI := (⟨"CricketHay$Formula", "add", "(II)V"⟩, prog_7_method_4_code, 3, none)
theorem hy_Formula_add : y_Formula_add.1.cls ≠ "java/lang/invoke/MethodHandle" ∧ y_Formula_add.1.cls ≠ "java/lang/invoke/VarHandle" ∧ (parseMethodDescriptor y_Formula_add.1.desc).map (fun d => d.parameters.length) = some 2 := by decide +kernel
theorem d_Formula_add_0 : decode y_Formula_add.2.1 0 = .ok (.aload_n 0, 1) := by decide +kernel
theorem d_Formula_add_1 : decode y_Formula_add.2.1 1 = .ok (.getfield 21, 3) := by decide +kernel
theorem d_Formula_add_4 : decode y_Formula_add.2.1 4 = .ok (.aload_n 0, 1) := by decide +kernel
theorem d_Formula_add_5 : decode y_Formula_add.2.1 5 = .ok (.getfield 9, 3) := by decide +kernel
theorem d_Formula_add_8 : decode y_Formula_add.2.1 8 = .ok (.arraylength, 1) := by decide +kernel
theorem d_Formula_add_9 : decode y_Formula_add.2.1 9 = .ok (.if_icmp .ge 33, 3) := by decide +kernel
theorem d_Formula_add_12 : decode y_Formula_add.2.1 12 = .ok (.aload_n 0, 1) := by decide +kernel
theorem d_Formula_add_13 : decode y_Formula_add.2.1 13 = .ok (.getfield 9, 3) := by decide +kernel
theorem d_Formula_add_16 : decode y_Formula_add.2.1 16 = .ok (.aload_n 0, 1) := by decide +kernel
theorem d_Formula_add_17 : decode y_Formula_add.2.1 17 = .ok (.getfield 21, 3) := by decide +kernel
theorem d_Formula_add_20 : decode y_Formula_add.2.1 20 = .ok (.iload_n 1, 1) := by decide +kernel
theorem d_Formula_add_21 : decode y_Formula_add.2.1 21 = .ok (.iastore, 1) := by decide +kernel
theorem d_Formula_add_22 : decode y_Formula_add.2.1 22 = .ok (.aload_n 0, 1) := by decide +kernel
theorem d_Formula_add_23 : decode y_Formula_add.2.1 23 = .ok (.getfield 15, 3) := by decide +kernel
theorem d_Formula_add_26 : decode y_Formula_add.2.1 26 = .ok (.aload_n 0, 1) := by decide +kernel
theorem d_Formula_add_27 : decode y_Formula_add.2.1 27 = .ok (.getfield 21, 3) := by decide +kernel
theorem d_Formula_add_30 : decode y_Formula_add.2.1 30 = .ok (.iload_n 2, 1) := by decide +kernel
theorem d_Formula_add_31 : decode y_Formula_add.2.1 31 = .ok (.iastore, 1) := by decide +kernel
theorem d_Formula_add_32 : decode y_Formula_add.2.1 32 = .ok (.aload_n 0, 1) := by decide +kernel
theorem d_Formula_add_33 : decode y_Formula_add.2.1 33 = .ok (.dup, 1) := by decide +kernel
theorem d_Formula_add_34 : decode y_Formula_add.2.1 34 = .ok (.getfield 21, 3) := by decide +kernel
theorem d_Formula_add_37 : decode y_Formula_add.2.1 37 = .ok (.iconst 1, 1) := by decide +kernel
theorem d_Formula_add_38 : decode y_Formula_add.2.1 38 = .ok (.iadd, 1) := by decide +kernel
theorem d_Formula_add_39 : decode y_Formula_add.2.1 39 = .ok (.putfield 21, 3) := by decide +kernel
theorem d_Formula_add_42 : decode y_Formula_add.2.1 42 = .ok (.return_, 1) := by decide +kernel

abbrev y_Reader_readSnap : MI := (⟨"CricketHay$Reader", "readSnap", "()V"⟩, prog_11_method_22_code, 1, none)
theorem hy_Reader_readSnap : y_Reader_readSnap.1.cls ≠ "java/lang/invoke/MethodHandle" ∧ y_Reader_readSnap.1.cls ≠ "java/lang/invoke/VarHandle" ∧ (parseMethodDescriptor y_Reader_readSnap.1.desc).map (fun d => d.parameters.length) = some 0 := by decide +kernel
theorem d_Reader_readSnap_0 : decode y_Reader_readSnap.2.1 0 = .ok (.aload_n 0, 1) := by decide +kernel
theorem d_Reader_readSnap_1 : decode y_Reader_readSnap.2.1 1 = .ok (.getfield 25, 3) := by decide +kernel
theorem d_Reader_readSnap_4 : decode y_Reader_readSnap.2.1 4 = .ok (.aload_n 0, 1) := by decide +kernel
theorem d_Reader_readSnap_5 : decode y_Reader_readSnap.2.1 5 = .ok (.iconst 0, 1) := by decide +kernel
theorem d_Reader_readSnap_6 : decode y_Reader_readSnap.2.1 6 = .ok (.bipush 100, 2) := by decide +kernel
theorem d_Reader_readSnap_8 : decode y_Reader_readSnap.2.1 8 = .ok (.invokevirtual 118, 3) := by decide +kernel
theorem d_Reader_readSnap_11 : decode y_Reader_readSnap.2.1 11 = .ok (.putfield 175, 3) := by decide +kernel
theorem d_Reader_readSnap_14 : decode y_Reader_readSnap.2.1 14 = .ok (.aload_n 0, 1) := by decide +kernel
theorem d_Reader_readSnap_15 : decode y_Reader_readSnap.2.1 15 = .ok (.sipush 258, 3) := by decide +kernel
theorem d_Reader_readSnap_18 : decode y_Reader_readSnap.2.1 18 = .ok (.invokevirtual 128, 3) := by decide +kernel
theorem d_Reader_readSnap_21 : decode y_Reader_readSnap.2.1 21 = .ok (.aload_n 0, 1) := by decide +kernel
theorem d_Reader_readSnap_22 : decode y_Reader_readSnap.2.1 22 = .ok (.getfield 25, 3) := by decide +kernel
theorem d_Reader_readSnap_25 : decode y_Reader_readSnap.2.1 25 = .ok (.aload_n 0, 1) := by decide +kernel
theorem d_Reader_readSnap_26 : decode y_Reader_readSnap.2.1 26 = .ok (.iconst 1, 1) := by decide +kernel
theorem d_Reader_readSnap_27 : decode y_Reader_readSnap.2.1 27 = .ok (.bipush 20, 2) := by decide +kernel
theorem d_Reader_readSnap_29 : decode y_Reader_readSnap.2.1 29 = .ok (.invokevirtual 118, 3) := by decide +kernel
theorem d_Reader_readSnap_32 : decode y_Reader_readSnap.2.1 32 = .ok (.putfield 178, 3) := by decide +kernel
theorem d_Reader_readSnap_35 : decode y_Reader_readSnap.2.1 35 = .ok (.return_, 1) := by decide +kernel

abbrev y_Reader_readInner : MI := (⟨"CricketHay$Reader", "readInner", "(I)V"⟩, prog_11_method_29_code, 2, none)
theorem hy_Reader_readInner : y_Reader_readInner.1.cls ≠ "java/lang/invoke/MethodHandle" ∧ y_Reader_readInner.1.cls ≠ "java/lang/invoke/VarHandle" ∧ (parseMethodDescriptor y_Reader_readInner.1.desc).map (fun d => d.parameters.length) = some 1 := by decide +kernel
theorem d_Reader_readInner_0 : decode y_Reader_readInner.2.1 0 = .ok (.iload_n 1, 1) := by decide +kernel
theorem d_Reader_readInner_1 : decode y_Reader_readInner.2.1 1 = .ok (.bipush 6, 2) := by decide +kernel
theorem d_Reader_readInner_3 : decode y_Reader_readInner.2.1 3 = .ok (.if_icmp .le 9, 3) := by decide +kernel
theorem d_Reader_readInner_6 : decode y_Reader_readInner.2.1 6 = .ok (.aload_n 0, 1) := by decide +kernel
theorem d_Reader_readInner_7 : decode y_Reader_readInner.2.1 7 = .ok (.iconst 2, 1) := by decide +kernel
theorem d_Reader_readInner_8 : decode y_Reader_readInner.2.1 8 = .ok (.invokevirtual 71, 3) := by decide +kernel
theorem d_Reader_readInner_11 : decode y_Reader_readInner.2.1 11 = .ok (.return_, 1) := by decide +kernel
theorem d_Reader_readInner_12 : decode y_Reader_readInner.2.1 12 = .ok (.aload_n 0, 1) := by decide +kernel
theorem d_Reader_readInner_13 : decode y_Reader_readInner.2.1 13 = .ok (.invokevirtual 40, 3) := by decide +kernel
theorem d_Reader_readInner_16 : decode y_Reader_readInner.2.1 16 = .ok (.aload_n 0, 1) := by decide +kernel
theorem d_Reader_readInner_17 : decode y_Reader_readInner.2.1 17 = .ok (.iload_n 1, 1) := by decide +kernel
theorem d_Reader_readInner_18 : decode y_Reader_readInner.2.1 18 = .ok (.iconst 1, 1) := by decide +kernel
theorem d_Reader_readInner_19 : decode y_Reader_readInner.2.1 19 = .ok (.iadd, 1) := by decide +kernel
theorem d_Reader_readInner_20 : decode y_Reader_readInner.2.1 20 = .ok (.invokevirtual 109, 3) := by decide +kernel
theorem d_Reader_readInner_23 : decode y_Reader_readInner.2.1 23 = .ok (.aload_n 0, 1) := by decide +kernel
theorem d_Reader_readInner_24 : decode y_Reader_readInner.2.1 24 = .ok (.bipush 41, 2) := by decide +kernel
theorem d_Reader_readInner_26 : decode y_Reader_readInner.2.1 26 = .ok (.invokevirtual 128, 3) := by decide +kernel
theorem d_Reader_readInner_29 : decode y_Reader_readInner.2.1 29 = .ok (.return_, 1) := by decide +kernel

abbrev y_Reader_readUnit : MI := (⟨"CricketHay$Reader", "readUnit", "(I)V"⟩, prog_11_method_28_code, 2, none)
theorem hy_Reader_readUnit : y_Reader_readUnit.1.cls ≠ "java/lang/invoke/MethodHandle" ∧ y_Reader_readUnit.1.cls ≠ "java/lang/invoke/VarHandle" ∧ (parseMethodDescriptor y_Reader_readUnit.1.desc).map (fun d => d.parameters.length) = some 1 := by decide +kernel
theorem d_Reader_readUnit_0 : decode y_Reader_readUnit.2.1 0 = .ok (.aload_n 0, 1) := by decide +kernel
theorem d_Reader_readUnit_1 : decode y_Reader_readUnit.2.1 1 = .ok (.getfield 106, 3) := by decide +kernel
theorem d_Reader_readUnit_4 : decode y_Reader_readUnit.2.1 4 = .ok (.getfield 202, 3) := by decide +kernel
theorem d_Reader_readUnit_7 : decode y_Reader_readUnit.2.1 7 = .ok (.bipush 30, 2) := by decide +kernel
theorem d_Reader_readUnit_9 : decode y_Reader_readUnit.2.1 9 = .ok (.if_icmp .lt 9, 3) := by decide +kernel
theorem d_Reader_readUnit_12 : decode y_Reader_readUnit.2.1 12 = .ok (.aload_n 0, 1) := by decide +kernel
theorem d_Reader_readUnit_13 : decode y_Reader_readUnit.2.1 13 = .ok (.iconst 2, 1) := by decide +kernel
theorem d_Reader_readUnit_14 : decode y_Reader_readUnit.2.1 14 = .ok (.invokevirtual 71, 3) := by decide +kernel
theorem d_Reader_readUnit_17 : decode y_Reader_readUnit.2.1 17 = .ok (.return_, 1) := by decide +kernel
theorem d_Reader_readUnit_18 : decode y_Reader_readUnit.2.1 18 = .ok (.aload_n 0, 1) := by decide +kernel
theorem d_Reader_readUnit_19 : decode y_Reader_readUnit.2.1 19 = .ok (.getfield 106, 3) := by decide +kernel
theorem d_Reader_readUnit_22 : decode y_Reader_readUnit.2.1 22 = .ok (.dup, 1) := by decide +kernel
theorem d_Reader_readUnit_23 : decode y_Reader_readUnit.2.1 23 = .ok (.getfield 202, 3) := by decide +kernel
theorem d_Reader_readUnit_26 : decode y_Reader_readUnit.2.1 26 = .ok (.iconst 1, 1) := by decide +kernel
theorem d_Reader_readUnit_27 : decode y_Reader_readUnit.2.1 27 = .ok (.iadd, 1) := by decide +kernel
theorem d_Reader_readUnit_28 : decode y_Reader_readUnit.2.1 28 = .ok (.putfield 202, 3) := by decide +kernel
theorem d_Reader_readUnit_31 : decode y_Reader_readUnit.2.1 31 = .ok (.aload_n 0, 1) := by decide +kernel
theorem d_Reader_readUnit_32 : decode y_Reader_readUnit.2.1 32 = .ok (.getfield 43, 3) := by decide +kernel
theorem d_Reader_readUnit_35 : decode y_Reader_readUnit.2.1 35 = .ok (.lookupswitch 103 #[(1, 73), (40, 95), (259, 73), (260, 73), (265, 73), (272, 73), (273, 73), (274, 73)], 73) := by decide +kernel
theorem d_Reader_readUnit_108 : decode y_Reader_readUnit.2.1 108 = .ok (.aload_n 0, 1) := by decide +kernel
theorem d_Reader_readUnit_109 : decode y_Reader_readUnit.2.1 109 = .ok (.getfield 106, 3) := by decide +kernel
theorem d_Reader_readUnit_112 : decode y_Reader_readUnit.2.1 112 = .ok (.aload_n 0, 1) := by decide +kernel
theorem d_Reader_readUnit_113 : decode y_Reader_readUnit.2.1 113 = .ok (.getfield 43, 3) := by decide +kernel
theorem d_Reader_readUnit_116 : decode y_Reader_readUnit.2.1 116 = .ok (.aload_n 0, 1) := by decide +kernel
theorem d_Reader_readUnit_117 : decode y_Reader_readUnit.2.1 117 = .ok (.getfield 90, 3) := by decide +kernel
theorem d_Reader_readUnit_120 : decode y_Reader_readUnit.2.1 120 = .ok (.invokevirtual 184, 3) := by decide +kernel
theorem d_Reader_readUnit_123 : decode y_Reader_readUnit.2.1 123 = .ok (.aload_n 0, 1) := by decide +kernel
theorem d_Reader_readUnit_124 : decode y_Reader_readUnit.2.1 124 = .ok (.invokevirtual 40, 3) := by decide +kernel
theorem d_Reader_readUnit_127 : decode y_Reader_readUnit.2.1 127 = .ok (.goto 16, 3) := by decide +kernel
theorem d_Reader_readUnit_130 : decode y_Reader_readUnit.2.1 130 = .ok (.aload_n 0, 1) := by decide +kernel
theorem d_Reader_readUnit_131 : decode y_Reader_readUnit.2.1 131 = .ok (.iload_n 1, 1) := by decide +kernel
theorem d_Reader_readUnit_132 : decode y_Reader_readUnit.2.1 132 = .ok (.invokevirtual 205, 3) := by decide +kernel
theorem d_Reader_readUnit_135 : decode y_Reader_readUnit.2.1 135 = .ok (.goto 8, 3) := by decide +kernel
theorem d_Reader_readUnit_138 : decode y_Reader_readUnit.2.1 138 = .ok (.aload_n 0, 1) := by decide +kernel
theorem d_Reader_readUnit_139 : decode y_Reader_readUnit.2.1 139 = .ok (.iconst 2, 1) := by decide +kernel
theorem d_Reader_readUnit_140 : decode y_Reader_readUnit.2.1 140 = .ok (.invokevirtual 71, 3) := by decide +kernel
theorem d_Reader_readUnit_143 : decode y_Reader_readUnit.2.1 143 = .ok (.return_, 1) := by decide +kernel

abbrev y_Reader_readTerm : MI := (⟨"CricketHay$Reader", "readTerm", "(I)V"⟩, prog_11_method_27_code, 4, none)
theorem hy_Reader_readTerm : y_Reader_readTerm.1.cls ≠ "java/lang/invoke/MethodHandle" ∧ y_Reader_readTerm.1.cls ≠ "java/lang/invoke/VarHandle" ∧ (parseMethodDescriptor y_Reader_readTerm.1.desc).map (fun d => d.parameters.length) = some 1 := by decide +kernel
theorem d_Reader_readTerm_0 : decode y_Reader_readTerm.2.1 0 = .ok (.aload_n 0, 1) := by decide +kernel
theorem d_Reader_readTerm_1 : decode y_Reader_readTerm.2.1 1 = .ok (.iload_n 1, 1) := by decide +kernel
theorem d_Reader_readTerm_2 : decode y_Reader_readTerm.2.1 2 = .ok (.invokevirtual 199, 3) := by decide +kernel
theorem d_Reader_readTerm_5 : decode y_Reader_readTerm.2.1 5 = .ok (.iconst 0, 1) := by decide +kernel
theorem d_Reader_readTerm_6 : decode y_Reader_readTerm.2.1 6 = .ok (.istore_n 2, 1) := by decide +kernel
theorem d_Reader_readTerm_7 : decode y_Reader_readTerm.2.1 7 = .ok (.iload_n 2, 1) := by decide +kernel
theorem d_Reader_readTerm_8 : decode y_Reader_readTerm.2.1 8 = .ok (.bipush 30, 2) := by decide +kernel
theorem d_Reader_readTerm_10 : decode y_Reader_readTerm.2.1 10 = .ok (.if_icmp .ge 59, 3) := by decide +kernel
theorem d_Reader_readTerm_13 : decode y_Reader_readTerm.2.1 13 = .ok (.aload_n 0, 1) := by decide +kernel
theorem d_Reader_readTerm_14 : decode y_Reader_readTerm.2.1 14 = .ok (.getfield 43, 3) := by decide +kernel
theorem d_Reader_readTerm_17 : decode y_Reader_readTerm.2.1 17 = .ok (.bipush 42, 2) := by decide +kernel
theorem d_Reader_readTerm_19 : decode y_Reader_readTerm.2.1 19 = .ok (.if_icmp .eq 21, 3) := by decide +kernel
theorem d_Reader_readTerm_22 : decode y_Reader_readTerm.2.1 22 = .ok (.aload_n 0, 1) := by decide +kernel
theorem d_Reader_readTerm_23 : decode y_Reader_readTerm.2.1 23 = .ok (.getfield 43, 3) := by decide +kernel
theorem d_Reader_readTerm_26 : decode y_Reader_readTerm.2.1 26 = .ok (.bipush 47, 2) := by decide +kernel
theorem d_Reader_readTerm_28 : decode y_Reader_readTerm.2.1 28 = .ok (.if_icmp .eq 12, 3) := by decide +kernel
theorem d_Reader_readTerm_31 : decode y_Reader_readTerm.2.1 31 = .ok (.aload_n 0, 1) := by decide +kernel
theorem d_Reader_readTerm_32 : decode y_Reader_readTerm.2.1 32 = .ok (.getfield 43, 3) := by decide +kernel
theorem d_Reader_readTerm_35 : decode y_Reader_readTerm.2.1 35 = .ok (.bipush 37, 2) := by decide +kernel
theorem d_Reader_readTerm_37 : decode y_Reader_readTerm.2.1 37 = .ok (.if_icmp .ne 32, 3) := by decide +kernel
theorem d_Reader_readTerm_40 : decode y_Reader_readTerm.2.1 40 = .ok (.aload_n 0, 1) := by decide +kernel
theorem d_Reader_readTerm_41 : decode y_Reader_readTerm.2.1 41 = .ok (.getfield 43, 3) := by decide +kernel
theorem d_Reader_readTerm_44 : decode y_Reader_readTerm.2.1 44 = .ok (.istore_n 3, 1) := by decide +kernel
theorem d_Reader_readTerm_45 : decode y_Reader_readTerm.2.1 45 = .ok (.aload_n 0, 1) := by decide +kernel
theorem d_Reader_readTerm_46 : decode y_Reader_readTerm.2.1 46 = .ok (.invokevirtual 40, 3) := by decide +kernel
theorem d_Reader_readTerm_49 : decode y_Reader_readTerm.2.1 49 = .ok (.aload_n 0, 1) := by decide +kernel
theorem d_Reader_readTerm_50 : decode y_Reader_readTerm.2.1 50 = .ok (.iload_n 1, 1) := by decide +kernel
theorem d_Reader_readTerm_51 : decode y_Reader_readTerm.2.1 51 = .ok (.invokevirtual 199, 3) := by decide +kernel
theorem d_Reader_readTerm_54 : decode y_Reader_readTerm.2.1 54 = .ok (.aload_n 0, 1) := by decide +kernel
theorem d_Reader_readTerm_55 : decode y_Reader_readTerm.2.1 55 = .ok (.getfield 106, 3) := by decide +kernel
theorem d_Reader_readTerm_58 : decode y_Reader_readTerm.2.1 58 = .ok (.iload_n 3, 1) := by decide +kernel
theorem d_Reader_readTerm_59 : decode y_Reader_readTerm.2.1 59 = .ok (.iconst 0, 1) := by decide +kernel
theorem d_Reader_readTerm_60 : decode y_Reader_readTerm.2.1 60 = .ok (.invokevirtual 184, 3) := by decide +kernel
theorem d_Reader_readTerm_63 : decode y_Reader_readTerm.2.1 63 = .ok (.iinc 2 1, 3) := by decide +kernel
theorem d_Reader_readTerm_66 : decode y_Reader_readTerm.2.1 66 = .ok (.goto (-59), 3) := by decide +kernel
theorem d_Reader_readTerm_69 : decode y_Reader_readTerm.2.1 69 = .ok (.return_, 1) := by decide +kernel

abbrev y_Reader_readSum : MI := (⟨"CricketHay$Reader", "readSum", "(I)V"⟩, prog_11_method_26_code, 4, none)
theorem hy_Reader_readSum : y_Reader_readSum.1.cls ≠ "java/lang/invoke/MethodHandle" ∧ y_Reader_readSum.1.cls ≠ "java/lang/invoke/VarHandle" ∧ (parseMethodDescriptor y_Reader_readSum.1.desc).map (fun d => d.parameters.length) = some 1 := by decide +kernel
theorem d_Reader_readSum_0 : decode y_Reader_readSum.2.1 0 = .ok (.aload_n 0, 1) := by decide +kernel
theorem d_Reader_readSum_1 : decode y_Reader_readSum.2.1 1 = .ok (.iload_n 1, 1) := by decide +kernel
theorem d_Reader_readSum_2 : decode y_Reader_readSum.2.1 2 = .ok (.invokevirtual 196, 3) := by decide +kernel
theorem d_Reader_readSum_5 : decode y_Reader_readSum.2.1 5 = .ok (.iconst 0, 1) := by decide +kernel
theorem d_Reader_readSum_6 : decode y_Reader_readSum.2.1 6 = .ok (.istore_n 2, 1) := by decide +kernel
theorem d_Reader_readSum_7 : decode y_Reader_readSum.2.1 7 = .ok (.iload_n 2, 1) := by decide +kernel
theorem d_Reader_readSum_8 : decode y_Reader_readSum.2.1 8 = .ok (.bipush 30, 2) := by decide +kernel
theorem d_Reader_readSum_10 : decode y_Reader_readSum.2.1 10 = .ok (.if_icmp .ge 50, 3) := by decide +kernel
theorem d_Reader_readSum_13 : decode y_Reader_readSum.2.1 13 = .ok (.aload_n 0, 1) := by decide +kernel
theorem d_Reader_readSum_14 : decode y_Reader_readSum.2.1 14 = .ok (.getfield 43, 3) := by decide +kernel
theorem d_Reader_readSum_17 : decode y_Reader_readSum.2.1 17 = .ok (.bipush 43, 2) := by decide +kernel
theorem d_Reader_readSum_19 : decode y_Reader_readSum.2.1 19 = .ok (.if_icmp .eq 12, 3) := by decide +kernel
theorem d_Reader_readSum_22 : decode y_Reader_readSum.2.1 22 = .ok (.aload_n 0, 1) := by decide +kernel
theorem d_Reader_readSum_23 : decode y_Reader_readSum.2.1 23 = .ok (.getfield 43, 3) := by decide +kernel
theorem d_Reader_readSum_26 : decode y_Reader_readSum.2.1 26 = .ok (.bipush 45, 2) := by decide +kernel
theorem d_Reader_readSum_28 : decode y_Reader_readSum.2.1 28 = .ok (.if_icmp .ne 32, 3) := by decide +kernel
theorem d_Reader_readSum_31 : decode y_Reader_readSum.2.1 31 = .ok (.aload_n 0, 1) := by decide +kernel
theorem d_Reader_readSum_32 : decode y_Reader_readSum.2.1 32 = .ok (.getfield 43, 3) := by decide +kernel
theorem d_Reader_readSum_35 : decode y_Reader_readSum.2.1 35 = .ok (.istore_n 3, 1) := by decide +kernel
theorem d_Reader_readSum_36 : decode y_Reader_readSum.2.1 36 = .ok (.aload_n 0, 1) := by decide +kernel
theorem d_Reader_readSum_37 : decode y_Reader_readSum.2.1 37 = .ok (.invokevirtual 40, 3) := by decide +kernel
theorem d_Reader_readSum_40 : decode y_Reader_readSum.2.1 40 = .ok (.aload_n 0, 1) := by decide +kernel
theorem d_Reader_readSum_41 : decode y_Reader_readSum.2.1 41 = .ok (.iload_n 1, 1) := by decide +kernel
theorem d_Reader_readSum_42 : decode y_Reader_readSum.2.1 42 = .ok (.invokevirtual 196, 3) := by decide +kernel
theorem d_Reader_readSum_45 : decode y_Reader_readSum.2.1 45 = .ok (.aload_n 0, 1) := by decide +kernel
theorem d_Reader_readSum_46 : decode y_Reader_readSum.2.1 46 = .ok (.getfield 106, 3) := by decide +kernel
theorem d_Reader_readSum_49 : decode y_Reader_readSum.2.1 49 = .ok (.iload_n 3, 1) := by decide +kernel
theorem d_Reader_readSum_50 : decode y_Reader_readSum.2.1 50 = .ok (.iconst 0, 1) := by decide +kernel
theorem d_Reader_readSum_51 : decode y_Reader_readSum.2.1 51 = .ok (.invokevirtual 184, 3) := by decide +kernel
theorem d_Reader_readSum_54 : decode y_Reader_readSum.2.1 54 = .ok (.iinc 2 1, 3) := by decide +kernel
theorem d_Reader_readSum_57 : decode y_Reader_readSum.2.1 57 = .ok (.goto (-50), 3) := by decide +kernel
theorem d_Reader_readSum_60 : decode y_Reader_readSum.2.1 60 = .ok (.return_, 1) := by decide +kernel

abbrev y_Reader_readOne : MI := (⟨"CricketHay$Reader", "readOne", "(I)V"⟩, prog_11_method_25_code, 3, none)
theorem hy_Reader_readOne : y_Reader_readOne.1.cls ≠ "java/lang/invoke/MethodHandle" ∧ y_Reader_readOne.1.cls ≠ "java/lang/invoke/VarHandle" ∧ (parseMethodDescriptor y_Reader_readOne.1.desc).map (fun d => d.parameters.length) = some 1 := by decide +kernel
theorem d_Reader_readOne_0 : decode y_Reader_readOne.2.1 0 = .ok (.aload_n 0, 1) := by decide +kernel
theorem d_Reader_readOne_1 : decode y_Reader_readOne.2.1 1 = .ok (.getfield 43, 3) := by decide +kernel
theorem d_Reader_readOne_4 : decode y_Reader_readOne.2.1 4 = .ok (.sipush 271, 3) := by decide +kernel
theorem d_Reader_readOne_7 : decode y_Reader_readOne.2.1 7 = .ok (.if_icmp .ne 38, 3) := by decide +kernel
theorem d_Reader_readOne_10 : decode y_Reader_readOne.2.1 10 = .ok (.iload_n 1, 1) := by decide +kernel
theorem d_Reader_readOne_11 : decode y_Reader_readOne.2.1 11 = .ok (.bipush 6, 2) := by decide +kernel
theorem d_Reader_readOne_13 : decode y_Reader_readOne.2.1 13 = .ok (.if_icmp .le 9, 3) := by decide +kernel
theorem d_Reader_readOne_16 : decode y_Reader_readOne.2.1 16 = .ok (.aload_n 0, 1) := by decide +kernel
theorem d_Reader_readOne_17 : decode y_Reader_readOne.2.1 17 = .ok (.iconst 2, 1) := by decide +kernel
theorem d_Reader_readOne_18 : decode y_Reader_readOne.2.1 18 = .ok (.invokevirtual 71, 3) := by decide +kernel
theorem d_Reader_readOne_21 : decode y_Reader_readOne.2.1 21 = .ok (.return_, 1) := by decide +kernel
theorem d_Reader_readOne_22 : decode y_Reader_readOne.2.1 22 = .ok (.aload_n 0, 1) := by decide +kernel
theorem d_Reader_readOne_23 : decode y_Reader_readOne.2.1 23 = .ok (.invokevirtual 40, 3) := by decide +kernel
theorem d_Reader_readOne_26 : decode y_Reader_readOne.2.1 26 = .ok (.aload_n 0, 1) := by decide +kernel
theorem d_Reader_readOne_27 : decode y_Reader_readOne.2.1 27 = .ok (.iload_n 1, 1) := by decide +kernel
theorem d_Reader_readOne_28 : decode y_Reader_readOne.2.1 28 = .ok (.iconst 1, 1) := by decide +kernel
theorem d_Reader_readOne_29 : decode y_Reader_readOne.2.1 29 = .ok (.iadd, 1) := by decide +kernel
theorem d_Reader_readOne_30 : decode y_Reader_readOne.2.1 30 = .ok (.invokevirtual 190, 3) := by decide +kernel
theorem d_Reader_readOne_33 : decode y_Reader_readOne.2.1 33 = .ok (.aload_n 0, 1) := by decide +kernel
theorem d_Reader_readOne_34 : decode y_Reader_readOne.2.1 34 = .ok (.getfield 106, 3) := by decide +kernel
theorem d_Reader_readOne_37 : decode y_Reader_readOne.2.1 37 = .ok (.sipush 271, 3) := by decide +kernel
theorem d_Reader_readOne_40 : decode y_Reader_readOne.2.1 40 = .ok (.iconst 0, 1) := by decide +kernel
theorem d_Reader_readOne_41 : decode y_Reader_readOne.2.1 41 = .ok (.invokevirtual 184, 3) := by decide +kernel
theorem d_Reader_readOne_44 : decode y_Reader_readOne.2.1 44 = .ok (.return_, 1) := by decide +kernel
theorem d_Reader_readOne_45 : decode y_Reader_readOne.2.1 45 = .ok (.aload_n 0, 1) := by decide +kernel
theorem d_Reader_readOne_46 : decode y_Reader_readOne.2.1 46 = .ok (.iload_n 1, 1) := by decide +kernel
theorem d_Reader_readOne_47 : decode y_Reader_readOne.2.1 47 = .ok (.invokevirtual 193, 3) := by decide +kernel
theorem d_Reader_readOne_50 : decode y_Reader_readOne.2.1 50 = .ok (.aload_n 0, 1) := by decide +kernel
theorem d_Reader_readOne_51 : decode y_Reader_readOne.2.1 51 = .ok (.getfield 43, 3) := by decide +kernel
theorem d_Reader_readOne_54 : decode y_Reader_readOne.2.1 54 = .ok (.istore_n 2, 1) := by decide +kernel
theorem d_Reader_readOne_55 : decode y_Reader_readOne.2.1 55 = .ok (.iload_n 2, 1) := by decide +kernel
theorem d_Reader_readOne_56 : decode y_Reader_readOne.2.1 56 = .ok (.bipush 60, 2) := by decide +kernel
theorem d_Reader_readOne_58 : decode y_Reader_readOne.2.1 58 = .ok (.if_icmp .eq 15, 3) := by decide +kernel
theorem d_Reader_readOne_61 : decode y_Reader_readOne.2.1 61 = .ok (.iload_n 2, 1) := by decide +kernel
theorem d_Reader_readOne_62 : decode y_Reader_readOne.2.1 62 = .ok (.bipush 62, 2) := by decide +kernel
theorem d_Reader_readOne_64 : decode y_Reader_readOne.2.1 64 = .ok (.if_icmp .eq 9, 3) := by decide +kernel
theorem d_Reader_readOne_67 : decode y_Reader_readOne.2.1 67 = .ok (.iload_n 2, 1) := by decide +kernel
theorem d_Reader_readOne_68 : decode y_Reader_readOne.2.1 68 = .ok (.bipush 61, 2) := by decide +kernel
theorem d_Reader_readOne_70 : decode y_Reader_readOne.2.1 70 = .ok (.if_icmp .ne 21, 3) := by decide +kernel
theorem d_Reader_readOne_73 : decode y_Reader_readOne.2.1 73 = .ok (.aload_n 0, 1) := by decide +kernel
theorem d_Reader_readOne_74 : decode y_Reader_readOne.2.1 74 = .ok (.invokevirtual 40, 3) := by decide +kernel
theorem d_Reader_readOne_77 : decode y_Reader_readOne.2.1 77 = .ok (.aload_n 0, 1) := by decide +kernel
theorem d_Reader_readOne_78 : decode y_Reader_readOne.2.1 78 = .ok (.iload_n 1, 1) := by decide +kernel
theorem d_Reader_readOne_79 : decode y_Reader_readOne.2.1 79 = .ok (.invokevirtual 193, 3) := by decide +kernel
theorem d_Reader_readOne_82 : decode y_Reader_readOne.2.1 82 = .ok (.aload_n 0, 1) := by decide +kernel
theorem d_Reader_readOne_83 : decode y_Reader_readOne.2.1 83 = .ok (.getfield 106, 3) := by decide +kernel
theorem d_Reader_readOne_86 : decode y_Reader_readOne.2.1 86 = .ok (.iload_n 2, 1) := by decide +kernel
theorem d_Reader_readOne_87 : decode y_Reader_readOne.2.1 87 = .ok (.iconst 0, 1) := by decide +kernel
theorem d_Reader_readOne_88 : decode y_Reader_readOne.2.1 88 = .ok (.invokevirtual 184, 3) := by decide +kernel
theorem d_Reader_readOne_91 : decode y_Reader_readOne.2.1 91 = .ok (.return_, 1) := by decide +kernel

abbrev y_Reader_readBoth : MI := (⟨"CricketHay$Reader", "readBoth", "(I)V"⟩, prog_11_method_24_code, 3, none)
theorem hy_Reader_readBoth : y_Reader_readBoth.1.cls ≠ "java/lang/invoke/MethodHandle" ∧ y_Reader_readBoth.1.cls ≠ "java/lang/invoke/VarHandle" ∧ (parseMethodDescriptor y_Reader_readBoth.1.desc).map (fun d => d.parameters.length) = some 1 := by decide +kernel
theorem d_Reader_readBoth_0 : decode y_Reader_readBoth.2.1 0 = .ok (.aload_n 0, 1) := by decide +kernel
theorem d_Reader_readBoth_1 : decode y_Reader_readBoth.2.1 1 = .ok (.iload_n 1, 1) := by decide +kernel
theorem d_Reader_readBoth_2 : decode y_Reader_readBoth.2.1 2 = .ok (.invokevirtual 190, 3) := by decide +kernel
theorem d_Reader_readBoth_5 : decode y_Reader_readBoth.2.1 5 = .ok (.iconst 0, 1) := by decide +kernel
theorem d_Reader_readBoth_6 : decode y_Reader_readBoth.2.1 6 = .ok (.istore_n 2, 1) := by decide +kernel
theorem d_Reader_readBoth_7 : decode y_Reader_readBoth.2.1 7 = .ok (.iload_n 2, 1) := by decide +kernel
theorem d_Reader_readBoth_8 : decode y_Reader_readBoth.2.1 8 = .ok (.bipush 30, 2) := by decide +kernel
theorem d_Reader_readBoth_10 : decode y_Reader_readBoth.2.1 10 = .ok (.if_icmp .ge 35, 3) := by decide +kernel
theorem d_Reader_readBoth_13 : decode y_Reader_readBoth.2.1 13 = .ok (.aload_n 0, 1) := by decide +kernel
theorem d_Reader_readBoth_14 : decode y_Reader_readBoth.2.1 14 = .ok (.sipush 270, 3) := by decide +kernel
theorem d_Reader_readBoth_17 : decode y_Reader_readBoth.2.1 17 = .ok (.invokevirtual 163, 3) := by decide +kernel
theorem d_Reader_readBoth_20 : decode y_Reader_readBoth.2.1 20 = .ok (.ifCond .eq 25, 3) := by decide +kernel
theorem d_Reader_readBoth_23 : decode y_Reader_readBoth.2.1 23 = .ok (.aload_n 0, 1) := by decide +kernel
theorem d_Reader_readBoth_24 : decode y_Reader_readBoth.2.1 24 = .ok (.iload_n 1, 1) := by decide +kernel
theorem d_Reader_readBoth_25 : decode y_Reader_readBoth.2.1 25 = .ok (.invokevirtual 190, 3) := by decide +kernel
theorem d_Reader_readBoth_28 : decode y_Reader_readBoth.2.1 28 = .ok (.aload_n 0, 1) := by decide +kernel
theorem d_Reader_readBoth_29 : decode y_Reader_readBoth.2.1 29 = .ok (.getfield 106, 3) := by decide +kernel
theorem d_Reader_readBoth_32 : decode y_Reader_readBoth.2.1 32 = .ok (.sipush 270, 3) := by decide +kernel
theorem d_Reader_readBoth_35 : decode y_Reader_readBoth.2.1 35 = .ok (.iconst 0, 1) := by decide +kernel
theorem d_Reader_readBoth_36 : decode y_Reader_readBoth.2.1 36 = .ok (.invokevirtual 184, 3) := by decide +kernel
theorem d_Reader_readBoth_39 : decode y_Reader_readBoth.2.1 39 = .ok (.iinc 2 1, 3) := by decide +kernel
theorem d_Reader_readBoth_42 : decode y_Reader_readBoth.2.1 42 = .ok (.goto (-35), 3) := by decide +kernel
theorem d_Reader_readBoth_45 : decode y_Reader_readBoth.2.1 45 = .ok (.return_, 1) := by decide +kernel

abbrev y_Reader_readEither : MI := (⟨"CricketHay$Reader", "readEither", "(I)V"⟩, prog_11_method_23_code, 3, none)
theorem hy_Reader_readEither : y_Reader_readEither.1.cls ≠ "java/lang/invoke/MethodHandle" ∧ y_Reader_readEither.1.cls ≠ "java/lang/invoke/VarHandle" ∧ (parseMethodDescriptor y_Reader_readEither.1.desc).map (fun d => d.parameters.length) = some 1 := by decide +kernel
theorem d_Reader_readEither_0 : decode y_Reader_readEither.2.1 0 = .ok (.aload_n 0, 1) := by decide +kernel
theorem d_Reader_readEither_1 : decode y_Reader_readEither.2.1 1 = .ok (.iload_n 1, 1) := by decide +kernel
theorem d_Reader_readEither_2 : decode y_Reader_readEither.2.1 2 = .ok (.invokevirtual 181, 3) := by decide +kernel
theorem d_Reader_readEither_5 : decode y_Reader_readEither.2.1 5 = .ok (.iconst 0, 1) := by decide +kernel
theorem d_Reader_readEither_6 : decode y_Reader_readEither.2.1 6 = .ok (.istore_n 2, 1) := by decide +kernel
theorem d_Reader_readEither_7 : decode y_Reader_readEither.2.1 7 = .ok (.iload_n 2, 1) := by decide +kernel
theorem d_Reader_readEither_8 : decode y_Reader_readEither.2.1 8 = .ok (.bipush 30, 2) := by decide +kernel
theorem d_Reader_readEither_10 : decode y_Reader_readEither.2.1 10 = .ok (.if_icmp .ge 35, 3) := by decide +kernel
theorem d_Reader_readEither_13 : decode y_Reader_readEither.2.1 13 = .ok (.aload_n 0, 1) := by decide +kernel
theorem d_Reader_readEither_14 : decode y_Reader_readEither.2.1 14 = .ok (.sipush 269, 3) := by decide +kernel
theorem d_Reader_readEither_17 : decode y_Reader_readEither.2.1 17 = .ok (.invokevirtual 163, 3) := by decide +kernel
theorem d_Reader_readEither_20 : decode y_Reader_readEither.2.1 20 = .ok (.ifCond .eq 25, 3) := by decide +kernel
theorem d_Reader_readEither_23 : decode y_Reader_readEither.2.1 23 = .ok (.aload_n 0, 1) := by decide +kernel
theorem d_Reader_readEither_24 : decode y_Reader_readEither.2.1 24 = .ok (.iload_n 1, 1) := by decide +kernel
theorem d_Reader_readEither_25 : decode y_Reader_readEither.2.1 25 = .ok (.invokevirtual 181, 3) := by decide +kernel
theorem d_Reader_readEither_28 : decode y_Reader_readEither.2.1 28 = .ok (.aload_n 0, 1) := by decide +kernel
theorem d_Reader_readEither_29 : decode y_Reader_readEither.2.1 29 = .ok (.getfield 106, 3) := by decide +kernel
theorem d_Reader_readEither_32 : decode y_Reader_readEither.2.1 32 = .ok (.sipush 269, 3) := by decide +kernel
theorem d_Reader_readEither_35 : decode y_Reader_readEither.2.1 35 = .ok (.iconst 0, 1) := by decide +kernel
theorem d_Reader_readEither_36 : decode y_Reader_readEither.2.1 36 = .ok (.invokevirtual 184, 3) := by decide +kernel
theorem d_Reader_readEither_39 : decode y_Reader_readEither.2.1 39 = .ok (.iinc 2 1, 3) := by decide +kernel
theorem d_Reader_readEither_42 : decode y_Reader_readEither.2.1 42 = .ok (.goto (-35), 3) := by decide +kernel
theorem d_Reader_readEither_45 : decode y_Reader_readEither.2.1 45 = .ok (.return_, 1) := by decide +kernel

abbrev y_Reader_readLine : MI := (⟨"CricketHay$Reader", "readLine", "()V"⟩, prog_11_method_15_code, 2, none)
theorem hy_Reader_readLine : y_Reader_readLine.1.cls ≠ "java/lang/invoke/MethodHandle" ∧ y_Reader_readLine.1.cls ≠ "java/lang/invoke/VarHandle" ∧ (parseMethodDescriptor y_Reader_readLine.1.desc).map (fun d => d.parameters.length) = some 0 := by decide +kernel
theorem d_Reader_readLine_0 : decode y_Reader_readLine.2.1 0 = .ok (.aload_n 0, 1) := by decide +kernel
theorem d_Reader_readLine_1 : decode y_Reader_readLine.2.1 1 = .ok (.getfield 43, 3) := by decide +kernel
theorem d_Reader_readLine_4 : decode y_Reader_readLine.2.1 4 = .ok (.istore_n 1, 1) := by decide +kernel
theorem d_Reader_readLine_5 : decode y_Reader_readLine.2.1 5 = .ok (.aload_n 0, 1) := by decide +kernel
theorem d_Reader_readLine_6 : decode y_Reader_readLine.2.1 6 = .ok (.iload_n 1, 1) := by decide +kernel
theorem d_Reader_readLine_7 : decode y_Reader_readLine.2.1 7 = .ok (.invokevirtual 93, 3) := by decide +kernel
theorem d_Reader_readLine_10 : decode y_Reader_readLine.2.1 10 = .ok (.ifCond .ne 9, 3) := by decide +kernel
theorem d_Reader_readLine_13 : decode y_Reader_readLine.2.1 13 = .ok (.aload_n 0, 1) := by decide +kernel
theorem d_Reader_readLine_14 : decode y_Reader_readLine.2.1 14 = .ok (.iconst 2, 1) := by decide +kernel
theorem d_Reader_readLine_15 : decode y_Reader_readLine.2.1 15 = .ok (.invokevirtual 71, 3) := by decide +kernel
theorem d_Reader_readLine_18 : decode y_Reader_readLine.2.1 18 = .ok (.return_, 1) := by decide +kernel
theorem d_Reader_readLine_19 : decode y_Reader_readLine.2.1 19 = .ok (.aload_n 0, 1) := by decide +kernel
theorem d_Reader_readLine_20 : decode y_Reader_readLine.2.1 20 = .ok (.invokevirtual 40, 3) := by decide +kernel
theorem d_Reader_readLine_23 : decode y_Reader_readLine.2.1 23 = .ok (.iload_n 1, 1) := by decide +kernel
theorem d_Reader_readLine_24 : decode y_Reader_readLine.2.1 24 = .ok (.tableswitch 140 256 267 #[64, 71, 140, 140, 140, 140, 140, 140, 78, 97, 116, 123], 64) := by decide +kernel
theorem d_Reader_readLine_88 : decode y_Reader_readLine.2.1 88 = .ok (.aload_n 0, 1) := by decide +kernel
theorem d_Reader_readLine_89 : decode y_Reader_readLine.2.1 89 = .ok (.invokevirtual 96, 3) := by decide +kernel
theorem d_Reader_readLine_92 : decode y_Reader_readLine.2.1 92 = .ok (.goto 87, 3) := by decide +kernel
theorem d_Reader_readLine_95 : decode y_Reader_readLine.2.1 95 = .ok (.aload_n 0, 1) := by decide +kernel
theorem d_Reader_readLine_96 : decode y_Reader_readLine.2.1 96 = .ok (.invokevirtual 99, 3) := by decide +kernel
theorem d_Reader_readLine_99 : decode y_Reader_readLine.2.1 99 = .ok (.goto 80, 3) := by decide +kernel
theorem d_Reader_readLine_102 : decode y_Reader_readLine.2.1 102 = .ok (.aload_n 0, 1) := by decide +kernel
theorem d_Reader_readLine_103 : decode y_Reader_readLine.2.1 103 = .ok (.aload_n 0, 1) := by decide +kernel
theorem d_Reader_readLine_104 : decode y_Reader_readLine.2.1 104 = .ok (.getfield 25, 3) := by decide +kernel
theorem d_Reader_readLine_107 : decode y_Reader_readLine.2.1 107 = .ok (.getfield 102, 3) := by decide +kernel
theorem d_Reader_readLine_110 : decode y_Reader_readLine.2.1 110 = .ok (.putfield 106, 3) := by decide +kernel
theorem d_Reader_readLine_113 : decode y_Reader_readLine.2.1 113 = .ok (.aload_n 0, 1) := by decide +kernel
theorem d_Reader_readLine_114 : decode y_Reader_readLine.2.1 114 = .ok (.iconst 0, 1) := by decide +kernel
theorem d_Reader_readLine_115 : decode y_Reader_readLine.2.1 115 = .ok (.invokevirtual 109, 3) := by decide +kernel
theorem d_Reader_readLine_118 : decode y_Reader_readLine.2.1 118 = .ok (.goto 61, 3) := by decide +kernel
theorem d_Reader_readLine_121 : decode y_Reader_readLine.2.1 121 = .ok (.aload_n 0, 1) := by decide +kernel
theorem d_Reader_readLine_122 : decode y_Reader_readLine.2.1 122 = .ok (.aload_n 0, 1) := by decide +kernel
theorem d_Reader_readLine_123 : decode y_Reader_readLine.2.1 123 = .ok (.getfield 25, 3) := by decide +kernel
theorem d_Reader_readLine_126 : decode y_Reader_readLine.2.1 126 = .ok (.getfield 112, 3) := by decide +kernel
theorem d_Reader_readLine_129 : decode y_Reader_readLine.2.1 129 = .ok (.putfield 106, 3) := by decide +kernel
theorem d_Reader_readLine_132 : decode y_Reader_readLine.2.1 132 = .ok (.aload_n 0, 1) := by decide +kernel
theorem d_Reader_readLine_133 : decode y_Reader_readLine.2.1 133 = .ok (.iconst 0, 1) := by decide +kernel
theorem d_Reader_readLine_134 : decode y_Reader_readLine.2.1 134 = .ok (.invokevirtual 109, 3) := by decide +kernel
theorem d_Reader_readLine_137 : decode y_Reader_readLine.2.1 137 = .ok (.goto 42, 3) := by decide +kernel
theorem d_Reader_readLine_140 : decode y_Reader_readLine.2.1 140 = .ok (.aload_n 0, 1) := by decide +kernel
theorem d_Reader_readLine_141 : decode y_Reader_readLine.2.1 141 = .ok (.invokevirtual 115, 3) := by decide +kernel
theorem d_Reader_readLine_144 : decode y_Reader_readLine.2.1 144 = .ok (.goto 35, 3) := by decide +kernel
theorem d_Reader_readLine_147 : decode y_Reader_readLine.2.1 147 = .ok (.aload_n 0, 1) := by decide +kernel
theorem d_Reader_readLine_148 : decode y_Reader_readLine.2.1 148 = .ok (.getfield 25, 3) := by decide +kernel
theorem d_Reader_readLine_151 : decode y_Reader_readLine.2.1 151 = .ok (.aload_n 0, 1) := by decide +kernel
theorem d_Reader_readLine_152 : decode y_Reader_readLine.2.1 152 = .ok (.iconst 1, 1) := by decide +kernel
theorem d_Reader_readLine_153 : decode y_Reader_readLine.2.1 153 = .ok (.bipush 9, 2) := by decide +kernel
theorem d_Reader_readLine_155 : decode y_Reader_readLine.2.1 155 = .ok (.invokevirtual 118, 3) := by decide +kernel
theorem d_Reader_readLine_158 : decode y_Reader_readLine.2.1 158 = .ok (.putfield 122, 3) := by decide +kernel
theorem d_Reader_readLine_161 : decode y_Reader_readLine.2.1 161 = .ok (.goto 18, 3) := by decide +kernel
theorem d_Reader_readLine_164 : decode y_Reader_readLine.2.1 164 = .ok (.aload_n 0, 1) := by decide +kernel
theorem d_Reader_readLine_165 : decode y_Reader_readLine.2.1 165 = .ok (.getfield 25, 3) := by decide +kernel
theorem d_Reader_readLine_168 : decode y_Reader_readLine.2.1 168 = .ok (.aload_n 0, 1) := by decide +kernel
theorem d_Reader_readLine_169 : decode y_Reader_readLine.2.1 169 = .ok (.iconst 0, 1) := by decide +kernel
theorem d_Reader_readLine_170 : decode y_Reader_readLine.2.1 170 = .ok (.sipush 999, 3) := by decide +kernel
theorem d_Reader_readLine_173 : decode y_Reader_readLine.2.1 173 = .ok (.invokevirtual 118, 3) := by decide +kernel
theorem d_Reader_readLine_176 : decode y_Reader_readLine.2.1 176 = .ok (.putfield 125, 3) := by decide +kernel
theorem d_Reader_readLine_179 : decode y_Reader_readLine.2.1 179 = .ok (.aload_n 0, 1) := by decide +kernel
theorem d_Reader_readLine_180 : decode y_Reader_readLine.2.1 180 = .ok (.bipush 59, 2) := by decide +kernel
theorem d_Reader_readLine_182 : decode y_Reader_readLine.2.1 182 = .ok (.invokevirtual 128, 3) := by decide +kernel
theorem d_Reader_readLine_185 : decode y_Reader_readLine.2.1 185 = .ok (.return_, 1) := by decide +kernel

abbrev y_Reader_read : MI := (⟨"CricketHay$Reader", "read", "(LCricketHay$Market;)Z"⟩, prog_11_method_3_code, 3, (some .boolean))
theorem hy_Reader_read : y_Reader_read.1.cls ≠ "java/lang/invoke/MethodHandle" ∧ y_Reader_read.1.cls ≠ "java/lang/invoke/VarHandle" ∧ (parseMethodDescriptor y_Reader_read.1.desc).map (fun d => d.parameters.length) = some 1 := by decide +kernel
theorem d_Reader_read_0 : decode y_Reader_read.2.1 0 = .ok (.aload_n 0, 1) := by decide +kernel
theorem d_Reader_read_1 : decode y_Reader_read.2.1 1 = .ok (.aload_n 1, 1) := by decide +kernel
theorem d_Reader_read_2 : decode y_Reader_read.2.1 2 = .ok (.putfield 25, 3) := by decide +kernel
theorem d_Reader_read_5 : decode y_Reader_read.2.1 5 = .ok (.aload_n 0, 1) := by decide +kernel
theorem d_Reader_read_6 : decode y_Reader_read.2.1 6 = .ok (.getfield 25, 3) := by decide +kernel
theorem d_Reader_read_9 : decode y_Reader_read.2.1 9 = .ok (.invokevirtual 29, 3) := by decide +kernel
theorem d_Reader_read_12 : decode y_Reader_read.2.1 12 = .ok (.aload_n 0, 1) := by decide +kernel
theorem d_Reader_read_13 : decode y_Reader_read.2.1 13 = .ok (.iconst 0, 1) := by decide +kernel
theorem d_Reader_read_14 : decode y_Reader_read.2.1 14 = .ok (.putfield 34, 3) := by decide +kernel
theorem d_Reader_read_17 : decode y_Reader_read.2.1 17 = .ok (.aload_n 0, 1) := by decide +kernel
theorem d_Reader_read_18 : decode y_Reader_read.2.1 18 = .ok (.iconst 0, 1) := by decide +kernel
theorem d_Reader_read_19 : decode y_Reader_read.2.1 19 = .ok (.putfield 37, 3) := by decide +kernel
theorem d_Reader_read_22 : decode y_Reader_read.2.1 22 = .ok (.aload_n 0, 1) := by decide +kernel
theorem d_Reader_read_23 : decode y_Reader_read.2.1 23 = .ok (.iconst 0, 1) := by decide +kernel
theorem d_Reader_read_24 : decode y_Reader_read.2.1 24 = .ok (.putfield 19, 3) := by decide +kernel
theorem d_Reader_read_27 : decode y_Reader_read.2.1 27 = .ok (.aload_n 0, 1) := by decide +kernel
theorem d_Reader_read_28 : decode y_Reader_read.2.1 28 = .ok (.iconst (-1), 1) := by decide +kernel
theorem d_Reader_read_29 : decode y_Reader_read.2.1 29 = .ok (.putfield 22, 3) := by decide +kernel
theorem d_Reader_read_32 : decode y_Reader_read.2.1 32 = .ok (.aload_n 0, 1) := by decide +kernel
theorem d_Reader_read_33 : decode y_Reader_read.2.1 33 = .ok (.invokevirtual 40, 3) := by decide +kernel
theorem d_Reader_read_36 : decode y_Reader_read.2.1 36 = .ok (.iconst 0, 1) := by decide +kernel
theorem d_Reader_read_37 : decode y_Reader_read.2.1 37 = .ok (.istore_n 2, 1) := by decide +kernel
theorem d_Reader_read_38 : decode y_Reader_read.2.1 38 = .ok (.iload_n 2, 1) := by decide +kernel
theorem d_Reader_read_39 : decode y_Reader_read.2.1 39 = .ok (.sipush 1600, 3) := by decide +kernel
theorem d_Reader_read_42 : decode y_Reader_read.2.1 42 = .ok (.if_icmp .gt 27, 3) := by decide +kernel
theorem d_Reader_read_45 : decode y_Reader_read.2.1 45 = .ok (.aload_n 0, 1) := by decide +kernel
theorem d_Reader_read_46 : decode y_Reader_read.2.1 46 = .ok (.getfield 19, 3) := by decide +kernel
theorem d_Reader_read_49 : decode y_Reader_read.2.1 49 = .ok (.ifCond .ne 20, 3) := by decide +kernel
theorem d_Reader_read_52 : decode y_Reader_read.2.1 52 = .ok (.aload_n 0, 1) := by decide +kernel
theorem d_Reader_read_53 : decode y_Reader_read.2.1 53 = .ok (.getfield 43, 3) := by decide +kernel
theorem d_Reader_read_56 : decode y_Reader_read.2.1 56 = .ok (.ifCond .eq 13, 3) := by decide +kernel
theorem d_Reader_read_59 : decode y_Reader_read.2.1 59 = .ok (.aload_n 0, 1) := by decide +kernel
theorem d_Reader_read_60 : decode y_Reader_read.2.1 60 = .ok (.invokevirtual 46, 3) := by decide +kernel
theorem d_Reader_read_63 : decode y_Reader_read.2.1 63 = .ok (.iinc 2 1, 3) := by decide +kernel
theorem d_Reader_read_66 : decode y_Reader_read.2.1 66 = .ok (.goto (-28), 3) := by decide +kernel
theorem d_Reader_read_69 : decode y_Reader_read.2.1 69 = .ok (.aload_n 0, 1) := by decide +kernel
theorem d_Reader_read_70 : decode y_Reader_read.2.1 70 = .ok (.getfield 19, 3) := by decide +kernel
theorem d_Reader_read_73 : decode y_Reader_read.2.1 73 = .ok (.ifCond .ne 7, 3) := by decide +kernel
theorem d_Reader_read_76 : decode y_Reader_read.2.1 76 = .ok (.iconst 1, 1) := by decide +kernel
theorem d_Reader_read_77 : decode y_Reader_read.2.1 77 = .ok (.goto 4, 3) := by decide +kernel
theorem d_Reader_read_80 : decode y_Reader_read.2.1 80 = .ok (.iconst 0, 1) := by decide +kernel
theorem d_Reader_read_81 : decode y_Reader_read.2.1 81 = .ok (.ireturn, 1) := by decide +kernel

abbrev y_Yard_open : MI := (⟨"CricketHay$Yard", "open", "(LCricketHay$Market;)V"⟩, prog_12_method_2_code, 3, none)
theorem hy_Yard_open : y_Yard_open.1.cls ≠ "java/lang/invoke/MethodHandle" ∧ y_Yard_open.1.cls ≠ "java/lang/invoke/VarHandle" ∧ (parseMethodDescriptor y_Yard_open.1.desc).map (fun d => d.parameters.length) = some 1 := by decide +kernel
theorem d_Yard_open_0 : decode y_Yard_open.2.1 0 = .ok (.iconst 0, 1) := by decide +kernel
theorem d_Yard_open_1 : decode y_Yard_open.2.1 1 = .ok (.istore_n 2, 1) := by decide +kernel
theorem d_Yard_open_2 : decode y_Yard_open.2.1 2 = .ok (.iload_n 2, 1) := by decide +kernel
theorem d_Yard_open_3 : decode y_Yard_open.2.1 3 = .ok (.bipush 6, 2) := by decide +kernel
theorem d_Yard_open_5 : decode y_Yard_open.2.1 5 = .ok (.if_icmp .ge 66, 3) := by decide +kernel
theorem d_Yard_open_8 : decode y_Yard_open.2.1 8 = .ok (.aload_n 0, 1) := by decide +kernel
theorem d_Yard_open_9 : decode y_Yard_open.2.1 9 = .ok (.getfield 9, 3) := by decide +kernel
theorem d_Yard_open_12 : decode y_Yard_open.2.1 12 = .ok (.iload_n 2, 1) := by decide +kernel
theorem d_Yard_open_13 : decode y_Yard_open.2.1 13 = .ok (.aload_n 1, 1) := by decide +kernel
theorem d_Yard_open_14 : decode y_Yard_open.2.1 14 = .ok (.getfield 43, 3) := by decide +kernel
theorem d_Yard_open_17 : decode y_Yard_open.2.1 17 = .ok (.iload_n 2, 1) := by decide +kernel
theorem d_Yard_open_18 : decode y_Yard_open.2.1 18 = .ok (.iaload, 1) := by decide +kernel
theorem d_Yard_open_19 : decode y_Yard_open.2.1 19 = .ok (.iastore, 1) := by decide +kernel
theorem d_Yard_open_20 : decode y_Yard_open.2.1 20 = .ok (.aload_n 0, 1) := by decide +kernel
theorem d_Yard_open_21 : decode y_Yard_open.2.1 21 = .ok (.getfield 15, 3) := by decide +kernel
theorem d_Yard_open_24 : decode y_Yard_open.2.1 24 = .ok (.iload_n 2, 1) := by decide +kernel
theorem d_Yard_open_25 : decode y_Yard_open.2.1 25 = .ok (.aload_n 1, 1) := by decide +kernel
theorem d_Yard_open_26 : decode y_Yard_open.2.1 26 = .ok (.getfield 46, 3) := by decide +kernel
theorem d_Yard_open_29 : decode y_Yard_open.2.1 29 = .ok (.iload_n 2, 1) := by decide +kernel
theorem d_Yard_open_30 : decode y_Yard_open.2.1 30 = .ok (.iaload, 1) := by decide +kernel
theorem d_Yard_open_31 : decode y_Yard_open.2.1 31 = .ok (.iastore, 1) := by decide +kernel
theorem d_Yard_open_32 : decode y_Yard_open.2.1 32 = .ok (.aload_n 0, 1) := by decide +kernel
theorem d_Yard_open_33 : decode y_Yard_open.2.1 33 = .ok (.getfield 18, 3) := by decide +kernel
theorem d_Yard_open_36 : decode y_Yard_open.2.1 36 = .ok (.iload_n 2, 1) := by decide +kernel
theorem d_Yard_open_37 : decode y_Yard_open.2.1 37 = .ok (.iconst 0, 1) := by decide +kernel
theorem d_Yard_open_38 : decode y_Yard_open.2.1 38 = .ok (.iastore, 1) := by decide +kernel
theorem d_Yard_open_39 : decode y_Yard_open.2.1 39 = .ok (.aload_n 0, 1) := by decide +kernel
theorem d_Yard_open_40 : decode y_Yard_open.2.1 40 = .ok (.getfield 21, 3) := by decide +kernel
theorem d_Yard_open_43 : decode y_Yard_open.2.1 43 = .ok (.iload_n 2, 1) := by decide +kernel
theorem d_Yard_open_44 : decode y_Yard_open.2.1 44 = .ok (.aload_n 1, 1) := by decide +kernel
theorem d_Yard_open_45 : decode y_Yard_open.2.1 45 = .ok (.getfield 47, 3) := by decide +kernel
theorem d_Yard_open_48 : decode y_Yard_open.2.1 48 = .ok (.iload_n 2, 1) := by decide +kernel
theorem d_Yard_open_49 : decode y_Yard_open.2.1 49 = .ok (.iaload, 1) := by decide +kernel
theorem d_Yard_open_50 : decode y_Yard_open.2.1 50 = .ok (.iastore, 1) := by decide +kernel
theorem d_Yard_open_51 : decode y_Yard_open.2.1 51 = .ok (.aload_n 0, 1) := by decide +kernel
theorem d_Yard_open_52 : decode y_Yard_open.2.1 52 = .ok (.getfield 24, 3) := by decide +kernel
theorem d_Yard_open_55 : decode y_Yard_open.2.1 55 = .ok (.iload_n 2, 1) := by decide +kernel
theorem d_Yard_open_56 : decode y_Yard_open.2.1 56 = .ok (.iconst 0, 1) := by decide +kernel
theorem d_Yard_open_57 : decode y_Yard_open.2.1 57 = .ok (.iastore, 1) := by decide +kernel
theorem d_Yard_open_58 : decode y_Yard_open.2.1 58 = .ok (.aload_n 0, 1) := by decide +kernel
theorem d_Yard_open_59 : decode y_Yard_open.2.1 59 = .ok (.getfield 27, 3) := by decide +kernel
theorem d_Yard_open_62 : decode y_Yard_open.2.1 62 = .ok (.iload_n 2, 1) := by decide +kernel
theorem d_Yard_open_63 : decode y_Yard_open.2.1 63 = .ok (.iconst 0, 1) := by decide +kernel
theorem d_Yard_open_64 : decode y_Yard_open.2.1 64 = .ok (.iastore, 1) := by decide +kernel
theorem d_Yard_open_65 : decode y_Yard_open.2.1 65 = .ok (.iinc 2 1, 3) := by decide +kernel
theorem d_Yard_open_68 : decode y_Yard_open.2.1 68 = .ok (.goto (-66), 3) := by decide +kernel
theorem d_Yard_open_71 : decode y_Yard_open.2.1 71 = .ok (.aload_n 0, 1) := by decide +kernel
theorem d_Yard_open_72 : decode y_Yard_open.2.1 72 = .ok (.iconst 0, 1) := by decide +kernel
theorem d_Yard_open_73 : decode y_Yard_open.2.1 73 = .ok (.putfield 30, 3) := by decide +kernel
theorem d_Yard_open_76 : decode y_Yard_open.2.1 76 = .ok (.aload_n 0, 1) := by decide +kernel
theorem d_Yard_open_77 : decode y_Yard_open.2.1 77 = .ok (.iconst 0, 1) := by decide +kernel
theorem d_Yard_open_78 : decode y_Yard_open.2.1 78 = .ok (.putfield 34, 3) := by decide +kernel
theorem d_Yard_open_81 : decode y_Yard_open.2.1 81 = .ok (.aload_n 0, 1) := by decide +kernel
theorem d_Yard_open_82 : decode y_Yard_open.2.1 82 = .ok (.iconst 0, 1) := by decide +kernel
theorem d_Yard_open_83 : decode y_Yard_open.2.1 83 = .ok (.putfield 37, 3) := by decide +kernel
theorem d_Yard_open_86 : decode y_Yard_open.2.1 86 = .ok (.aload_n 0, 1) := by decide +kernel
theorem d_Yard_open_87 : decode y_Yard_open.2.1 87 = .ok (.aload_n 1, 1) := by decide +kernel
theorem d_Yard_open_88 : decode y_Yard_open.2.1 88 = .ok (.getfield 48, 3) := by decide +kernel
theorem d_Yard_open_91 : decode y_Yard_open.2.1 91 = .ok (.putfield 40, 3) := by decide +kernel
theorem d_Yard_open_94 : decode y_Yard_open.2.1 94 = .ok (.return_, 1) := by decide +kernel

abbrev y_Acts_forget : MI := (⟨"CricketHay$Acts", "forget", "()V"⟩, prog_2_method_2_code, 1, none)
theorem hy_Acts_forget : y_Acts_forget.1.cls ≠ "java/lang/invoke/MethodHandle" ∧ y_Acts_forget.1.cls ≠ "java/lang/invoke/VarHandle" ∧ (parseMethodDescriptor y_Acts_forget.1.desc).map (fun d => d.parameters.length) = some 0 := by decide +kernel
theorem d_Acts_forget_0 : decode y_Acts_forget.2.1 0 = .ok (.aload_n 0, 1) := by decide +kernel
theorem d_Acts_forget_1 : decode y_Acts_forget.2.1 1 = .ok (.iconst 0, 1) := by decide +kernel
theorem d_Acts_forget_2 : decode y_Acts_forget.2.1 2 = .ok (.putfield 17, 3) := by decide +kernel
theorem d_Acts_forget_5 : decode y_Acts_forget.2.1 5 = .ok (.aload_n 0, 1) := by decide +kernel
theorem d_Acts_forget_6 : decode y_Acts_forget.2.1 6 = .ok (.iconst 0, 1) := by decide +kernel
theorem d_Acts_forget_7 : decode y_Acts_forget.2.1 7 = .ok (.putfield 21, 3) := by decide +kernel
theorem d_Acts_forget_10 : decode y_Acts_forget.2.1 10 = .ok (.return_, 1) := by decide +kernel

abbrev y_Boxes_empty : MI := (⟨"CricketHay$Boxes", "empty", "()V"⟩, prog_3_method_2_code, 2, none)
theorem hy_Boxes_empty : y_Boxes_empty.1.cls ≠ "java/lang/invoke/MethodHandle" ∧ y_Boxes_empty.1.cls ≠ "java/lang/invoke/VarHandle" ∧ (parseMethodDescriptor y_Boxes_empty.1.desc).map (fun d => d.parameters.length) = some 0 := by decide +kernel
theorem d_Boxes_empty_0 : decode y_Boxes_empty.2.1 0 = .ok (.iconst 0, 1) := by decide +kernel
theorem d_Boxes_empty_1 : decode y_Boxes_empty.2.1 1 = .ok (.istore_n 1, 1) := by decide +kernel
theorem d_Boxes_empty_2 : decode y_Boxes_empty.2.1 2 = .ok (.iload_n 1, 1) := by decide +kernel
theorem d_Boxes_empty_3 : decode y_Boxes_empty.2.1 3 = .ok (.iconst 3, 1) := by decide +kernel
theorem d_Boxes_empty_4 : decode y_Boxes_empty.2.1 4 = .ok (.if_icmp .ge 16, 3) := by decide +kernel
theorem d_Boxes_empty_7 : decode y_Boxes_empty.2.1 7 = .ok (.aload_n 0, 1) := by decide +kernel
theorem d_Boxes_empty_8 : decode y_Boxes_empty.2.1 8 = .ok (.getfield 17, 3) := by decide +kernel
theorem d_Boxes_empty_11 : decode y_Boxes_empty.2.1 11 = .ok (.iload_n 1, 1) := by decide +kernel
theorem d_Boxes_empty_12 : decode y_Boxes_empty.2.1 12 = .ok (.iconst 0, 1) := by decide +kernel
theorem d_Boxes_empty_13 : decode y_Boxes_empty.2.1 13 = .ok (.bastore, 1) := by decide +kernel
theorem d_Boxes_empty_14 : decode y_Boxes_empty.2.1 14 = .ok (.iinc 1 1, 3) := by decide +kernel
theorem d_Boxes_empty_17 : decode y_Boxes_empty.2.1 17 = .ok (.goto (-15), 3) := by decide +kernel
theorem d_Boxes_empty_20 : decode y_Boxes_empty.2.1 20 = .ok (.return_, 1) := by decide +kernel

abbrev y_Ears_forget : MI := (⟨"CricketHay$Ears", "forget", "()V"⟩, prog_6_method_2_code, 1, none)
theorem hy_Ears_forget : y_Ears_forget.1.cls ≠ "java/lang/invoke/MethodHandle" ∧ y_Ears_forget.1.cls ≠ "java/lang/invoke/VarHandle" ∧ (parseMethodDescriptor y_Ears_forget.1.desc).map (fun d => d.parameters.length) = some 0 := by decide +kernel
theorem d_Ears_forget_0 : decode y_Ears_forget.2.1 0 = .ok (.aload_n 0, 1) := by decide +kernel
theorem d_Ears_forget_1 : decode y_Ears_forget.2.1 1 = .ok (.iconst 0, 1) := by decide +kernel
theorem d_Ears_forget_2 : decode y_Ears_forget.2.1 2 = .ok (.putfield 44, 3) := by decide +kernel
theorem d_Ears_forget_5 : decode y_Ears_forget.2.1 5 = .ok (.aload_n 0, 1) := by decide +kernel
theorem d_Ears_forget_6 : decode y_Ears_forget.2.1 6 = .ok (.iconst (-1), 1) := by decide +kernel
theorem d_Ears_forget_7 : decode y_Ears_forget.2.1 7 = .ok (.putfield 34, 3) := by decide +kernel
theorem d_Ears_forget_10 : decode y_Ears_forget.2.1 10 = .ok (.return_, 1) := by decide +kernel

abbrev y_Lie_wipe : MI := (⟨"CricketHay$Lie", "wipe", "()V"⟩, prog_8_method_2_code, 1, none)
theorem hy_Lie_wipe : y_Lie_wipe.1.cls ≠ "java/lang/invoke/MethodHandle" ∧ y_Lie_wipe.1.cls ≠ "java/lang/invoke/VarHandle" ∧ (parseMethodDescriptor y_Lie_wipe.1.desc).map (fun d => d.parameters.length) = some 0 := by decide +kernel
theorem d_Lie_wipe_0 : decode y_Lie_wipe.2.1 0 = .ok (.aload_n 0, 1) := by decide +kernel
theorem d_Lie_wipe_1 : decode y_Lie_wipe.2.1 1 = .ok (.iconst 0, 1) := by decide +kernel
theorem d_Lie_wipe_2 : decode y_Lie_wipe.2.1 2 = .ok (.putfield 15, 3) := by decide +kernel
theorem d_Lie_wipe_5 : decode y_Lie_wipe.2.1 5 = .ok (.return_, 1) := by decide +kernel

abbrev y_H_market : MI := (⟨"CricketHay", "market", "()I"⟩, prog_1_method_4_code, 3, (some .int))
theorem hy_H_market : y_H_market.1.cls ≠ "java/lang/invoke/MethodHandle" ∧ y_H_market.1.cls ≠ "java/lang/invoke/VarHandle" ∧ (parseMethodDescriptor y_H_market.1.desc).map (fun d => d.parameters.length) = some 0 := by decide +kernel
theorem d_H_market_0 : decode y_H_market.2.1 0 = .ok (.aload_n 0, 1) := by decide +kernel
theorem d_H_market_1 : decode y_H_market.2.1 1 = .ok (.getfield 12, 3) := by decide +kernel
theorem d_H_market_4 : decode y_H_market.2.1 4 = .ok (.aload_n 0, 1) := by decide +kernel
theorem d_H_market_5 : decode y_H_market.2.1 5 = .ok (.getfield 23, 3) := by decide +kernel
theorem d_H_market_8 : decode y_H_market.2.1 8 = .ok (.invokevirtual 101, 3) := by decide +kernel
theorem d_H_market_11 : decode y_H_market.2.1 11 = .ok (.istore_n 1, 1) := by decide +kernel
theorem d_H_market_12 : decode y_H_market.2.1 12 = .ok (.aload_n 0, 1) := by decide +kernel
theorem d_H_market_13 : decode y_H_market.2.1 13 = .ok (.getfield 12, 3) := by decide +kernel
theorem d_H_market_16 : decode y_H_market.2.1 16 = .ok (.iconst 0, 1) := by decide +kernel
theorem d_H_market_17 : decode y_H_market.2.1 17 = .ok (.putfield 93, 3) := by decide +kernel
theorem d_H_market_20 : decode y_H_market.2.1 20 = .ok (.iload_n 1, 1) := by decide +kernel
theorem d_H_market_21 : decode y_H_market.2.1 21 = .ok (.ifCond .ne 5, 3) := by decide +kernel
theorem d_H_market_24 : decode y_H_market.2.1 24 = .ok (.iconst (-1), 1) := by decide +kernel
theorem d_H_market_25 : decode y_H_market.2.1 25 = .ok (.ireturn, 1) := by decide +kernel
theorem d_H_market_26 : decode y_H_market.2.1 26 = .ok (.aload_n 0, 1) := by decide +kernel
theorem d_H_market_27 : decode y_H_market.2.1 27 = .ok (.getfield 19, 3) := by decide +kernel
theorem d_H_market_30 : decode y_H_market.2.1 30 = .ok (.astore_n 2, 1) := by decide +kernel
theorem d_H_market_31 : decode y_H_market.2.1 31 = .ok (.aload_n 0, 1) := by decide +kernel
theorem d_H_market_32 : decode y_H_market.2.1 32 = .ok (.aload_n 0, 1) := by decide +kernel
theorem d_H_market_33 : decode y_H_market.2.1 33 = .ok (.getfield 23, 3) := by decide +kernel
theorem d_H_market_36 : decode y_H_market.2.1 36 = .ok (.putfield 19, 3) := by decide +kernel
theorem d_H_market_39 : decode y_H_market.2.1 39 = .ok (.aload_n 0, 1) := by decide +kernel
theorem d_H_market_40 : decode y_H_market.2.1 40 = .ok (.aload_n 2, 1) := by decide +kernel
theorem d_H_market_41 : decode y_H_market.2.1 41 = .ok (.putfield 23, 3) := by decide +kernel
theorem d_H_market_44 : decode y_H_market.2.1 44 = .ok (.aload_n 0, 1) := by decide +kernel
theorem d_H_market_45 : decode y_H_market.2.1 45 = .ok (.getfield 29, 3) := by decide +kernel
theorem d_H_market_48 : decode y_H_market.2.1 48 = .ok (.aload_n 0, 1) := by decide +kernel
theorem d_H_market_49 : decode y_H_market.2.1 49 = .ok (.getfield 19, 3) := by decide +kernel
theorem d_H_market_52 : decode y_H_market.2.1 52 = .ok (.invokevirtual 89, 3) := by decide +kernel
theorem d_H_market_55 : decode y_H_market.2.1 55 = .ok (.aload_n 0, 1) := by decide +kernel
theorem d_H_market_56 : decode y_H_market.2.1 56 = .ok (.getfield 46, 3) := by decide +kernel
theorem d_H_market_59 : decode y_H_market.2.1 59 = .ok (.invokevirtual 105, 3) := by decide +kernel
theorem d_H_market_62 : decode y_H_market.2.1 62 = .ok (.aload_n 0, 1) := by decide +kernel
theorem d_H_market_63 : decode y_H_market.2.1 63 = .ok (.getfield 53, 3) := by decide +kernel
theorem d_H_market_66 : decode y_H_market.2.1 66 = .ok (.invokevirtual 108, 3) := by decide +kernel
theorem d_H_market_69 : decode y_H_market.2.1 69 = .ok (.aload_n 0, 1) := by decide +kernel
theorem d_H_market_70 : decode y_H_market.2.1 70 = .ok (.getfield 60, 3) := by decide +kernel
theorem d_H_market_73 : decode y_H_market.2.1 73 = .ok (.invokevirtual 111, 3) := by decide +kernel
theorem d_H_market_76 : decode y_H_market.2.1 76 = .ok (.aload_n 0, 1) := by decide +kernel
theorem d_H_market_77 : decode y_H_market.2.1 77 = .ok (.getfield 81, 3) := by decide +kernel
theorem d_H_market_80 : decode y_H_market.2.1 80 = .ok (.invokevirtual 112, 3) := by decide +kernel
theorem d_H_market_83 : decode y_H_market.2.1 83 = .ok (.aload_n 0, 1) := by decide +kernel
theorem d_H_market_84 : decode y_H_market.2.1 84 = .ok (.getfield 19, 3) := by decide +kernel
theorem d_H_market_87 : decode y_H_market.2.1 87 = .ok (.getfield 115, 3) := by decide +kernel
theorem d_H_market_90 : decode y_H_market.2.1 90 = .ok (.ireturn, 1) := by decide +kernel
def f_Reader_put_l3  (a1 : Int32)  : Nat → Int32 → AH → Option AH
  | 0, _, _ => none
  | n + 1, x2, h =>
    if x2 < 0 then
      some h
    else
      if (nI 1600) ≤ (hI h 1 9) then
        lt (x2 + (-8 : Int32)) fun xq1 =>
        f_Reader_put_l3 a1 n xq1 h
      else
        gx (hI h 1 9) 1600 <|
        lt (sI h 2 (ix (hI h 1 9)) ((ushr a1 x2) &&& (255 : Int32))) fun hq3 =>
        lt (sI hq3 1 9 ((hI hq3 1 9) + (1 : Int32))) fun hq4 =>
        lt (x2 + (-8 : Int32)) fun xq5 =>
        f_Reader_put_l3 a1 n xq5 hq4
set_option maxHeartbeats 2000000 in
theorem o_Reader_put_l3 {G : AE} {n : Nat} (hn : NN ≤ n)  {a1 : Int32}   : ∀ (n0 : Nat) (x2 : Int32) (h : AH), AJ G n y_Reader_put (1) φV 3 [some (.ref 1), some (.int a1), some (.int x2)] [] h (f_Reader_put_l3 a1 n0 x2 h) := by
  intro n0
  induction n0 with
  | zero => intros; exact r_none
  | succ n0 ih =>
    intro x2 h
    rw [f_Reader_put_l3]
    refine r_iload_n (pc := 3) (i := 2) d_Reader_put_3 rfl rfl ?_
    refine r_if_lt (pc := 4) (tgt := 51) d_Reader_put_4 (by rfl) ?_ ?_
    · exact r_vret (pc := 51) rfl d_Reader_put_51
    · refine r_aload_n (pc := 7) (i := 0) d_Reader_put_7 rfl rfl ?_
      refine r_getf (pc := 8) (ci := 9) (k := 9) (C := "CricketHay$Reader") (T := F_9) (N := 12) (v := .int (hI h 1 9)) (fun s => Std.k s (lc hn rfl) kq_1) rfl (Nat.le_of_ble_eq_true rfl) rfl w_45 (fun _ => rfl) d_Reader_put_8 ?_
      refine r_aload_n (pc := 11) (i := 0) d_Reader_put_11 rfl rfl ?_
      refine r_getf (pc := 12) (ci := 9) (k := 0) (C := "CricketHay$Reader") (T := F_9) (N := 12) (v := .ref 2) (fun s => Std.k s (lc hn rfl) kq_1) rfl (Nat.le_of_ble_eq_true rfl) rfl w_36 (fun s => vr rfl (Std.r s (lc hn rfl) rq_1_0)) d_Reader_put_12 ?_
      refine r_alen (pc := 15) (n := 1600) (fun s => Std.k s (lc hn rfl) kq_2) d_Reader_put_15 ?_
      refine r_icmp_ge (pc := 16) (tgt := 45) d_Reader_put_16 (by rfl) ?_ ?_
      · refine r_ltE (fun xq1 exq1 => ?_)
        refine r_iinc (pc := 45) (v := xq1) (lv1 := [some (.ref 1), some (.int a1), some (.int xq1)]) d_Reader_put_45 rfl exq1.symm (Nat.le_of_ble_eq_true rfl) rfl ?_
        refine r_goto (pc := 48) (tgt := 3) d_Reader_put_48 (by rfl) ?_
        exact r_wk (ih xq1 h) ⟨rfl, ⟨rfl, ⟨rfl, trivial⟩⟩⟩
      · refine r_aload_n (pc := 19) (i := 0) d_Reader_put_19 rfl rfl ?_
        refine r_getf (pc := 20) (ci := 9) (k := 0) (C := "CricketHay$Reader") (T := F_9) (N := 12) (v := .ref 2) (fun s => Std.k s (lc hn rfl) kq_1) rfl (Nat.le_of_ble_eq_true rfl) rfl w_36 (fun s => vr rfl (Std.r s (lc hn rfl) rq_1_0)) d_Reader_put_20 ?_
        refine r_aload_n (pc := 23) (i := 0) d_Reader_put_23 rfl rfl ?_
        refine r_getf (pc := 24) (ci := 9) (k := 9) (C := "CricketHay$Reader") (T := F_9) (N := 12) (v := .int (hI h 1 9)) (fun s => Std.k s (lc hn rfl) kq_1) rfl (Nat.le_of_ble_eq_true rfl) rfl w_45 (fun _ => rfl) d_Reader_put_24 ?_
        refine r_iload_n (pc := 27) (i := 1) d_Reader_put_27 rfl rfl ?_
        refine r_iload_n (pc := 28) (i := 2) d_Reader_put_28 rfl rfl ?_
        refine r_iushr (pc := 29) d_Reader_put_29 ?_
        refine r_sipush (pc := 30) (v := 255) d_Reader_put_30 (by rfl) ?_
        refine r_iand (pc := 33) d_Reader_put_33 ?_
        refine r_gx (fun zq2 => ?_)
        refine r_iast (pc := 34) (n := 1600) (i0 := (ix (hI h 1 9))) (fun s => Std.k s (lc hn rfl) kq_2) zq2 rfl (fun s => Std.sI s _ _ _) d_Reader_put_34 ?_
        refine r_ltH (fun hq3 => ?_)
        refine r_aload_n (pc := 35) (i := 0) d_Reader_put_35 rfl rfl ?_
        refine r_dup (pc := 36) d_Reader_put_36 rfl ?_
        refine r_getf (pc := 37) (ci := 9) (k := 9) (C := "CricketHay$Reader") (T := F_9) (N := 12) (v := .int (hI hq3 1 9)) (fun s => Std.k s (lc hn rfl) kq_1) rfl (Nat.le_of_ble_eq_true rfl) rfl w_45 (fun _ => rfl) d_Reader_put_37 ?_
        refine r_iconst (pc := 40) (v := 1) d_Reader_put_40 (by rfl) ?_
        refine r_iadd (pc := 41) d_Reader_put_41 ?_
        refine r_putI (pc := 42) (ci := 9) (k := 9) (C := "CricketHay$Reader") (T := F_9) (N := 12) (fun s => Std.k s (lc hn rfl) kq_1) rfl (Nat.le_of_ble_eq_true rfl) rfl rfl w_45 (fun _ _ => rfl) (fun _ => rfl) (fun _ => rfl) (fun s => Std.sI s _ _ _) d_Reader_put_42 ?_
        refine r_ltH (fun hq4 => ?_)
        refine r_ltE (fun xq5 exq5 => ?_)
        refine r_iinc (pc := 45) (v := xq5) (lv1 := [some (.ref 1), some (.int a1), some (.int xq5)]) d_Reader_put_45 rfl exq5.symm (Nat.le_of_ble_eq_true rfl) rfl ?_
        refine r_goto (pc := 48) (tgt := 3) d_Reader_put_48 (by rfl) ?_
        exact r_wk (ih xq5 hq4) ⟨rfl, ⟨rfl, ⟨rfl, trivial⟩⟩⟩
def f_Reader_put  (a1 : Int32) (h : AH) : Option AH :=
  f_Reader_put_l3 a1 FU (24 : Int32) h
set_option maxHeartbeats 2000000 in
theorem ok_Reader_put {G : AE} {n : Nat} (hn : NN ≤ n)  (a1 : Int32) (h : AH) : OK G n y_Reader_put (1) φV [.ref 1, .int a1] h (f_Reader_put a1 h) := by
  refine ok_of (y := y_Reader_put) (lv0 := [some (.ref 1), some (.int a1), none]) (by decide +kernel) (Nat.le_of_ble_eq_true rfl) ⟨rfl, ⟨rfl, trivial⟩⟩ ?_
  rw [f_Reader_put]
  refine r_bipush (pc := 0) (v := 24) d_Reader_put_0 (by rfl) ?_
  refine r_istore_n (pc := 2) (i := 2) (lv1 := [some (.ref 1), some (.int a1), some (.int (24 : Int32))]) d_Reader_put_2 rfl (Nat.le_of_ble_eq_true rfl) rfl ?_
  exact r_wk (o_Reader_put_l3 hn FU (24 : Int32) h) ⟨rfl, ⟨rfl, ⟨rfl, trivial⟩⟩⟩

def f_H_feed  (a1 : Int32) (a2 : Int32) (a3 : Int32) (a4 : Int32) (a5 : Int32) (h : AH) : Option (Int32 × AH) :=
  if (hI h 1 9) ≤ (1580 : Int32) then
    bV (f_Reader_put a1 h) fun hq1 =>
    bV (f_Reader_put a2 hq1) fun hq2 =>
    bV (f_Reader_put a3 hq2) fun hq3 =>
    bV (f_Reader_put a4 hq3) fun hq4 =>
    bV (f_Reader_put a5 hq4) fun hq5 =>
    some ((hI hq5 1 9), hq5)
  else
    some ((-1 : Int32), h)
set_option maxHeartbeats 2000000 in
theorem ok_H_feed {G : AE} {n : Nat} (hn : NN ≤ n)  (a1 : Int32) (a2 : Int32) (a3 : Int32) (a4 : Int32) (a5 : Int32) (h : AH) : OK G n y_H_feed (2) φI [.ref 0, .int a1, .int a2, .int a3, .int a4, .int a5] h (f_H_feed a1 a2 a3 a4 a5 h) := by
  refine ok_of (y := y_H_feed) (lv0 := [some (.ref 0), some (.int a1), some (.int a2), some (.int a3), some (.int a4), some (.int a5)]) (by decide +kernel) (Nat.le_of_ble_eq_true rfl) ⟨rfl, ⟨rfl, ⟨rfl, ⟨rfl, ⟨rfl, ⟨rfl, trivial⟩⟩⟩⟩⟩⟩ ?_
  rw [f_H_feed]
  refine r_aload_n (pc := 0) (i := 0) d_H_feed_0 rfl rfl ?_
  refine r_getf (pc := 1) (ci := 11) (k := 0) (C := "CricketHay") (T := F_11) (N := 13) (v := .ref 1) (fun s => Std.k s (lc hn rfl) kq_0) rfl (Nat.le_of_ble_eq_true rfl) rfl w_422 (fun s => vr rfl (Std.r s (lc hn rfl) rq_0_0)) d_H_feed_1 ?_
  refine r_getf (pc := 4) (ci := 9) (k := 9) (C := "CricketHay$Reader") (T := F_9) (N := 12) (v := .int (hI h 1 9)) (fun s => Std.k s (lc hn rfl) kq_1) rfl (Nat.le_of_ble_eq_true rfl) rfl w_46 (fun _ => rfl) d_H_feed_4 ?_
  refine r_sipush (pc := 7) (v := 1580) d_H_feed_7 (by rfl) ?_
  refine r_icmp_le (pc := 10) (tgt := 15) d_H_feed_10 (by rfl) ?_ ?_
  · refine r_aload_n (pc := 15) (i := 0) d_H_feed_15 rfl rfl ?_
    refine r_getf (pc := 16) (ci := 11) (k := 0) (C := "CricketHay") (T := F_11) (N := 13) (v := .ref 1) (fun s => Std.k s (lc hn rfl) kq_0) rfl (Nat.le_of_ble_eq_true rfl) rfl w_422 (fun s => vr rfl (Std.r s (lc hn rfl) rq_0_0)) d_H_feed_16 ?_
    refine r_iload_n (pc := 19) (i := 1) d_H_feed_19 rfl rfl ?_
    refine r_cVv (pc := 20) (T := F_9) (N := 12) (st := []) (ok_Reader_put hn a1 h) (fun s => Std.k s (lc hn rfl) kq_1) rfl w_469 w_2 w_466 w_467 w_468 hy_Reader_put ⟨Nat.le_of_ble_eq_true rfl, Nat.le_of_ble_eq_true rfl⟩ ⟨Nat.le_of_ble_eq_true rfl, Nat.le_of_ble_eq_true rfl⟩ rfl (Nat.le_of_ble_eq_true rfl) d_H_feed_20 (fun hq1 => ?_)
    refine r_aload_n (pc := 23) (i := 0) d_H_feed_23 rfl rfl ?_
    refine r_getf (pc := 24) (ci := 11) (k := 0) (C := "CricketHay") (T := F_11) (N := 13) (v := .ref 1) (fun s => Std.k s (lc hn rfl) kq_0) rfl (Nat.le_of_ble_eq_true rfl) rfl w_422 (fun s => vr rfl (Std.r s (lc hn rfl) rq_0_0)) d_H_feed_24 ?_
    refine r_iload_n (pc := 27) (i := 2) d_H_feed_27 rfl rfl ?_
    refine r_cVv (pc := 28) (T := F_9) (N := 12) (st := []) (ok_Reader_put hn a2 hq1) (fun s => Std.k s (lc hn rfl) kq_1) rfl w_469 w_2 w_466 w_467 w_468 hy_Reader_put ⟨Nat.le_of_ble_eq_true rfl, Nat.le_of_ble_eq_true rfl⟩ ⟨Nat.le_of_ble_eq_true rfl, Nat.le_of_ble_eq_true rfl⟩ rfl (Nat.le_of_ble_eq_true rfl) d_H_feed_28 (fun hq2 => ?_)
    refine r_aload_n (pc := 31) (i := 0) d_H_feed_31 rfl rfl ?_
    refine r_getf (pc := 32) (ci := 11) (k := 0) (C := "CricketHay") (T := F_11) (N := 13) (v := .ref 1) (fun s => Std.k s (lc hn rfl) kq_0) rfl (Nat.le_of_ble_eq_true rfl) rfl w_422 (fun s => vr rfl (Std.r s (lc hn rfl) rq_0_0)) d_H_feed_32 ?_
    refine r_iload_n (pc := 35) (i := 3) d_H_feed_35 rfl rfl ?_
    refine r_cVv (pc := 36) (T := F_9) (N := 12) (st := []) (ok_Reader_put hn a3 hq2) (fun s => Std.k s (lc hn rfl) kq_1) rfl w_469 w_2 w_466 w_467 w_468 hy_Reader_put ⟨Nat.le_of_ble_eq_true rfl, Nat.le_of_ble_eq_true rfl⟩ ⟨Nat.le_of_ble_eq_true rfl, Nat.le_of_ble_eq_true rfl⟩ rfl (Nat.le_of_ble_eq_true rfl) d_H_feed_36 (fun hq3 => ?_)
    refine r_aload_n (pc := 39) (i := 0) d_H_feed_39 rfl rfl ?_
    refine r_getf (pc := 40) (ci := 11) (k := 0) (C := "CricketHay") (T := F_11) (N := 13) (v := .ref 1) (fun s => Std.k s (lc hn rfl) kq_0) rfl (Nat.le_of_ble_eq_true rfl) rfl w_422 (fun s => vr rfl (Std.r s (lc hn rfl) rq_0_0)) d_H_feed_40 ?_
    refine r_iload (pc := 43) d_H_feed_43 rfl ?_
    refine r_cVv (pc := 45) (T := F_9) (N := 12) (st := []) (ok_Reader_put hn a4 hq3) (fun s => Std.k s (lc hn rfl) kq_1) rfl w_469 w_2 w_466 w_467 w_468 hy_Reader_put ⟨Nat.le_of_ble_eq_true rfl, Nat.le_of_ble_eq_true rfl⟩ ⟨Nat.le_of_ble_eq_true rfl, Nat.le_of_ble_eq_true rfl⟩ rfl (Nat.le_of_ble_eq_true rfl) d_H_feed_45 (fun hq4 => ?_)
    refine r_aload_n (pc := 48) (i := 0) d_H_feed_48 rfl rfl ?_
    refine r_getf (pc := 49) (ci := 11) (k := 0) (C := "CricketHay") (T := F_11) (N := 13) (v := .ref 1) (fun s => Std.k s (lc hn rfl) kq_0) rfl (Nat.le_of_ble_eq_true rfl) rfl w_422 (fun s => vr rfl (Std.r s (lc hn rfl) rq_0_0)) d_H_feed_49 ?_
    refine r_iload (pc := 52) d_H_feed_52 rfl ?_
    refine r_cVv (pc := 54) (T := F_9) (N := 12) (st := []) (ok_Reader_put hn a5 hq4) (fun s => Std.k s (lc hn rfl) kq_1) rfl w_469 w_2 w_466 w_467 w_468 hy_Reader_put ⟨Nat.le_of_ble_eq_true rfl, Nat.le_of_ble_eq_true rfl⟩ ⟨Nat.le_of_ble_eq_true rfl, Nat.le_of_ble_eq_true rfl⟩ rfl (Nat.le_of_ble_eq_true rfl) d_H_feed_54 (fun hq5 => ?_)
    refine r_aload_n (pc := 57) (i := 0) d_H_feed_57 rfl rfl ?_
    refine r_getf (pc := 58) (ci := 11) (k := 0) (C := "CricketHay") (T := F_11) (N := 13) (v := .ref 1) (fun s => Std.k s (lc hn rfl) kq_0) rfl (Nat.le_of_ble_eq_true rfl) rfl w_422 (fun s => vr rfl (Std.r s (lc hn rfl) rq_0_0)) d_H_feed_58 ?_
    refine r_getf (pc := 61) (ci := 9) (k := 9) (C := "CricketHay$Reader") (T := F_9) (N := 12) (v := .int (hI hq5 1 9)) (fun s => Std.k s (lc hn rfl) kq_1) rfl (Nat.le_of_ble_eq_true rfl) rfl w_46 (fun _ => rfl) d_H_feed_61 ?_
    exact r_iret (pc := 64) rfl d_H_feed_64
  · refine r_iconst (pc := 13) (v := -1) d_H_feed_13 (by rfl) ?_
    exact r_iret (pc := 14) rfl d_H_feed_14

def f_H_end  (a1 : Int32) (h : AH) : Option (Int32 × AH) :=
  if a1 < 0 then
    some ((-1 : Int32), h)
  else
    if a1 ≤ (hI h 1 9) then
      lt (sI h 1 9 a1) fun hq1 =>
      some (a1, hq1)
    else
      some ((-1 : Int32), h)
set_option maxHeartbeats 2000000 in
theorem ok_H_end {G : AE} {n : Nat} (hn : NN ≤ n)  (a1 : Int32) (h : AH) : OK G n y_H_end (1) φI [.ref 0, .int a1] h (f_H_end a1 h) := by
  refine ok_of (y := y_H_end) (lv0 := [some (.ref 0), some (.int a1)]) (by decide +kernel) (Nat.le_of_ble_eq_true rfl) ⟨rfl, ⟨rfl, trivial⟩⟩ ?_
  rw [f_H_end]
  refine r_iload_n (pc := 0) (i := 1) d_H_end_0 rfl rfl ?_
  refine r_if_lt (pc := 1) (tgt := 15) d_H_end_1 (by rfl) ?_ ?_
  · refine r_iconst (pc := 15) (v := -1) d_H_end_15 (by rfl) ?_
    exact r_iret (pc := 16) rfl d_H_end_16
  · refine r_iload_n (pc := 4) (i := 1) d_H_end_4 rfl rfl ?_
    refine r_aload_n (pc := 5) (i := 0) d_H_end_5 rfl rfl ?_
    refine r_getf (pc := 6) (ci := 11) (k := 0) (C := "CricketHay") (T := F_11) (N := 13) (v := .ref 1) (fun s => Std.k s (lc hn rfl) kq_0) rfl (Nat.le_of_ble_eq_true rfl) rfl w_422 (fun s => vr rfl (Std.r s (lc hn rfl) rq_0_0)) d_H_end_6 ?_
    refine r_getf (pc := 9) (ci := 9) (k := 9) (C := "CricketHay$Reader") (T := F_9) (N := 12) (v := .int (hI h 1 9)) (fun s => Std.k s (lc hn rfl) kq_1) rfl (Nat.le_of_ble_eq_true rfl) rfl w_46 (fun _ => rfl) d_H_end_9 ?_
    refine r_icmp_le (pc := 12) (tgt := 17) d_H_end_12 (by rfl) ?_ ?_
    · refine r_aload_n (pc := 17) (i := 0) d_H_end_17 rfl rfl ?_
      refine r_getf (pc := 18) (ci := 11) (k := 0) (C := "CricketHay") (T := F_11) (N := 13) (v := .ref 1) (fun s => Std.k s (lc hn rfl) kq_0) rfl (Nat.le_of_ble_eq_true rfl) rfl w_422 (fun s => vr rfl (Std.r s (lc hn rfl) rq_0_0)) d_H_end_18 ?_
      refine r_iload_n (pc := 21) (i := 1) d_H_end_21 rfl rfl ?_
      refine r_putI (pc := 22) (ci := 9) (k := 9) (C := "CricketHay$Reader") (T := F_9) (N := 12) (fun s => Std.k s (lc hn rfl) kq_1) rfl (Nat.le_of_ble_eq_true rfl) rfl rfl w_46 (fun _ _ => rfl) (fun _ => rfl) (fun _ => rfl) (fun s => Std.sI s _ _ _) d_H_end_22 ?_
      refine r_ltH (fun hq1 => ?_)
      refine r_iload_n (pc := 25) (i := 1) d_H_end_25 rfl rfl ?_
      exact r_iret (pc := 26) rfl d_H_end_26
    · refine r_iconst (pc := 15) (v := -1) d_H_end_15 (by rfl) ?_
      exact r_iret (pc := 16) rfl d_H_end_16

def f_Formula_wipe  (t : Nat) (h : AH) : Option AH :=
  lt (sI h t 3 (0 : Int32)) fun hq1 =>
  lt (sI hq1 t 4 (0 : Int32)) fun hq2 =>
  some hq2
set_option maxHeartbeats 2000000 in
theorem ok_Formula_wipe {G : AE} {n : Nat} (hn : NN ≤ n)  (t : Nat) (ht : kdF t = .inr 5) (h : AH) : OK G n y_Formula_wipe (1) φV [.ref t] h (f_Formula_wipe t h) := by
  refine ok_of (y := y_Formula_wipe) (lv0 := [some (.ref t)]) (by decide +kernel) (Nat.le_of_ble_eq_true rfl) ⟨rfl, trivial⟩ ?_
  rw [f_Formula_wipe]
  refine r_aload_n (pc := 0) (i := 0) d_Formula_wipe_0 rfl rfl ?_
  refine r_iconst (pc := 1) (v := 0) d_Formula_wipe_1 (by rfl) ?_
  refine r_putI (pc := 2) (ci := 5) (k := 3) (C := "CricketHay$Formula") (T := F_5) (N := 5) (fun s => Std.k s (ltn (cm hn) (kl_F ht)) ht) rfl (Nat.le_of_ble_eq_true rfl) rfl rfl w_92 (fun _ _ => rfl) (fun _ => rfl) (fun _ => rfl) (fun s => Std.sI s _ _ _) d_Formula_wipe_2 ?_
  refine r_ltH (fun hq1 => ?_)
  refine r_aload_n (pc := 5) (i := 0) d_Formula_wipe_5 rfl rfl ?_
  refine r_iconst (pc := 6) (v := 0) d_Formula_wipe_6 (by rfl) ?_
  refine r_putI (pc := 7) (ci := 5) (k := 4) (C := "CricketHay$Formula") (T := F_5) (N := 5) (fun s => Std.k s (ltn (cm hn) (kl_F ht)) ht) rfl (Nat.le_of_ble_eq_true rfl) rfl rfl w_93 (fun _ _ => rfl) (fun _ => rfl) (fun _ => rfl) (fun s => Std.sI s _ _ _) d_Formula_wipe_7 ?_
  refine r_ltH (fun hq2 => ?_)
  exact r_vret (pc := 10) rfl d_Formula_wipe_10

def f_Market_reset  (t : Nat) (h : AH) : Option AH :=
  lt (sI h t 10 (0 : Int32)) fun hq1 =>
  lt (sI hq1 t 11 (0 : Int32)) fun hq2 =>
  bV (f_Formula_wipe (t + 9) hq2) fun hq3 =>
  bV (f_Formula_wipe (t + 13) hq3) fun hq4 =>
  lt (sI hq4 t 12 (0 : Int32)) fun hq5 =>
  lt (sI hq5 t 13 (1 : Int32)) fun hq6 =>
  lt (sI hq6 t 14 (3 : Int32)) fun hq7 =>
  lt (sI hq7 t 15 (0 : Int32)) fun hq8 =>
  some hq8
set_option maxHeartbeats 2000000 in
theorem ok_Market_reset {G : AE} {n : Nat} (hn : NN ≤ n)  (t : Nat) (ht : kdF t = .inr 7) (h : AH) : OK G n y_Market_reset (2) φV [.ref t] h (f_Market_reset t h) := by
  refine ok_of (y := y_Market_reset) (lv0 := [some (.ref t)]) (by decide +kernel) (Nat.le_of_ble_eq_true rfl) ⟨rfl, trivial⟩ ?_
  rw [f_Market_reset]
  refine r_aload_n (pc := 0) (i := 0) d_Market_reset_0 rfl rfl ?_
  refine r_iconst (pc := 1) (v := 0) d_Market_reset_1 (by rfl) ?_
  refine r_putI (pc := 2) (ci := 7) (k := 10) (C := "CricketHay$Market") (T := F_7) (N := 16) (fun s => Std.k s (ltn (cm hn) (kl_M ht)) ht) rfl (Nat.le_of_ble_eq_true rfl) rfl rfl w_149 (fun _ _ => rfl) (fun _ => rfl) (fun _ => rfl) (fun s => Std.sI s _ _ _) d_Market_reset_2 ?_
  refine r_ltH (fun hq1 => ?_)
  refine r_aload_n (pc := 5) (i := 0) d_Market_reset_5 rfl rfl ?_
  refine r_iconst (pc := 6) (v := 0) d_Market_reset_6 (by rfl) ?_
  refine r_putI (pc := 7) (ci := 7) (k := 11) (C := "CricketHay$Market") (T := F_7) (N := 16) (fun s => Std.k s (ltn (cm hn) (kl_M ht)) ht) rfl (Nat.le_of_ble_eq_true rfl) rfl rfl w_153 (fun _ _ => rfl) (fun _ => rfl) (fun _ => rfl) (fun s => Std.sI s _ _ _) d_Market_reset_7 ?_
  refine r_ltH (fun hq2 => ?_)
  refine r_aload_n (pc := 10) (i := 0) d_Market_reset_10 rfl rfl ?_
  refine r_getf (pc := 11) (ci := 7) (k := 8) (C := "CricketHay$Market") (T := F_7) (N := 16) (v := .ref (t + 9)) (fun s => Std.k s (ltn (cm hn) (kl_M ht)) ht) rfl (Nat.le_of_ble_eq_true rfl) rfl w_143 (fun s => vr rfl (Std.r s (ltn (cm hn) (kl_M ht)) (rr_M_8 ht))) d_Market_reset_11 ?_
  refine r_cVv (pc := 14) (T := F_5) (N := 5) (st := []) (ok_Formula_wipe hn (t + 9) (kk_M_8 ht) hq2) (fun s => Std.k s (ltn (cm hn) (kj_M_8 ht)) (kk_M_8 ht)) rfl w_115 w_4 w_112 w_113 w_114 hy_Formula_wipe ⟨Nat.le_of_ble_eq_true rfl, Nat.le_of_ble_eq_true rfl⟩ ⟨Nat.le_of_ble_eq_true rfl, Nat.le_of_ble_eq_true rfl⟩ rfl (Nat.le_of_ble_eq_true rfl) d_Market_reset_14 (fun hq3 => ?_)
  refine r_aload_n (pc := 17) (i := 0) d_Market_reset_17 rfl rfl ?_
  refine r_getf (pc := 18) (ci := 7) (k := 9) (C := "CricketHay$Market") (T := F_7) (N := 16) (v := .ref (t + 13)) (fun s => Std.k s (ltn (cm hn) (kl_M ht)) ht) rfl (Nat.le_of_ble_eq_true rfl) rfl w_146 (fun s => vr rfl (Std.r s (ltn (cm hn) (kl_M ht)) (rr_M_9 ht))) d_Market_reset_18 ?_
  refine r_cVv (pc := 21) (T := F_5) (N := 5) (st := []) (ok_Formula_wipe hn (t + 13) (kk_M_9 ht) hq3) (fun s => Std.k s (ltn (cm hn) (kj_M_9 ht)) (kk_M_9 ht)) rfl w_115 w_4 w_112 w_113 w_114 hy_Formula_wipe ⟨Nat.le_of_ble_eq_true rfl, Nat.le_of_ble_eq_true rfl⟩ ⟨Nat.le_of_ble_eq_true rfl, Nat.le_of_ble_eq_true rfl⟩ rfl (Nat.le_of_ble_eq_true rfl) d_Market_reset_21 (fun hq4 => ?_)
  refine r_aload_n (pc := 24) (i := 0) d_Market_reset_24 rfl rfl ?_
  refine r_iconst (pc := 25) (v := 0) d_Market_reset_25 (by rfl) ?_
  refine r_putI (pc := 26) (ci := 7) (k := 12) (C := "CricketHay$Market") (T := F_7) (N := 16) (fun s => Std.k s (ltn (cm hn) (kl_M ht)) ht) rfl (Nat.le_of_ble_eq_true rfl) rfl rfl w_158 (fun _ _ => rfl) (fun _ => rfl) (fun _ => rfl) (fun s => Std.sI s _ _ _) d_Market_reset_26 ?_
  refine r_ltH (fun hq5 => ?_)
  refine r_aload_n (pc := 29) (i := 0) d_Market_reset_29 rfl rfl ?_
  refine r_iconst (pc := 30) (v := 1) d_Market_reset_30 (by rfl) ?_
  refine r_putI (pc := 31) (ci := 7) (k := 13) (C := "CricketHay$Market") (T := F_7) (N := 16) (fun s => Std.k s (ltn (cm hn) (kl_M ht)) ht) rfl (Nat.le_of_ble_eq_true rfl) rfl rfl w_162 (fun _ _ => rfl) (fun _ => rfl) (fun _ => rfl) (fun s => Std.sI s _ _ _) d_Market_reset_31 ?_
  refine r_ltH (fun hq6 => ?_)
  refine r_aload_n (pc := 34) (i := 0) d_Market_reset_34 rfl rfl ?_
  refine r_iconst (pc := 35) (v := 3) d_Market_reset_35 (by rfl) ?_
  refine r_putI (pc := 36) (ci := 7) (k := 14) (C := "CricketHay$Market") (T := F_7) (N := 16) (fun s => Std.k s (ltn (cm hn) (kl_M ht)) ht) rfl (Nat.le_of_ble_eq_true rfl) rfl rfl w_165 (fun _ _ => rfl) (fun _ => rfl) (fun _ => rfl) (fun s => Std.sI s _ _ _) d_Market_reset_36 ?_
  refine r_ltH (fun hq7 => ?_)
  refine r_aload_n (pc := 39) (i := 0) d_Market_reset_39 rfl rfl ?_
  refine r_iconst (pc := 40) (v := 0) d_Market_reset_40 (by rfl) ?_
  refine r_putI (pc := 41) (ci := 7) (k := 15) (C := "CricketHay$Market") (T := F_7) (N := 16) (fun s => Std.k s (ltn (cm hn) (kl_M ht)) ht) rfl (Nat.le_of_ble_eq_true rfl) rfl rfl w_168 (fun _ _ => rfl) (fun _ => rfl) (fun _ => rfl) (fun s => Std.sI s _ _ _) d_Market_reset_41 ?_
  refine r_ltH (fun hq8 => ?_)
  exact r_vret (pc := 44) rfl d_Market_reset_44

def f_Reader_isBlank  (a0 : Int32) (h : AH) : Option (Int32 × AH) :=
  if a0 = (32 : Int32) then
    some ((1 : Int32), h)
  else
    if ¬ a0 = (10 : Int32) then
      some ((0 : Int32), h)
    else
      some ((1 : Int32), h)
set_option maxHeartbeats 2000000 in
theorem ok_Reader_isBlank {G : AE} {n : Nat} (hn : NN ≤ n)  (a0 : Int32) (h : AH) : OK G n y_Reader_isBlank (1) φI [.int a0] h (f_Reader_isBlank a0 h) := by
  refine ok_of (y := y_Reader_isBlank) (lv0 := [some (.int a0)]) (by decide +kernel) (Nat.le_of_ble_eq_true rfl) ⟨rfl, trivial⟩ ?_
  rw [f_Reader_isBlank]
  refine r_iload_n (pc := 0) (i := 0) d_Reader_isBlank_0 rfl rfl ?_
  refine r_bipush (pc := 1) (v := 32) d_Reader_isBlank_1 (by rfl) ?_
  refine r_icmp_eq (pc := 3) (tgt := 12) d_Reader_isBlank_3 (by rfl) ?_ ?_
  · refine r_iconst (pc := 12) (v := 1) d_Reader_isBlank_12 (by rfl) ?_
    refine r_goto (pc := 13) (tgt := 17) d_Reader_isBlank_13 (by rfl) ?_
    exact r_zret (pc := 17) rfl rfl d_Reader_isBlank_17
  · refine r_iload_n (pc := 6) (i := 0) d_Reader_isBlank_6 rfl rfl ?_
    refine r_bipush (pc := 7) (v := 10) d_Reader_isBlank_7 (by rfl) ?_
    refine r_icmp_ne (pc := 9) (tgt := 16) d_Reader_isBlank_9 (by rfl) ?_ ?_
    · refine r_iconst (pc := 16) (v := 0) d_Reader_isBlank_16 (by rfl) ?_
      exact r_zret (pc := 17) rfl rfl d_Reader_isBlank_17
    · refine r_iconst (pc := 12) (v := 1) d_Reader_isBlank_12 (by rfl) ?_
      refine r_goto (pc := 13) (tgt := 17) d_Reader_isBlank_13 (by rfl) ?_
      exact r_zret (pc := 17) rfl rfl d_Reader_isBlank_17

def f_Reader_isLetter  (a0 : Int32) (h : AH) : Option (Int32 × AH) :=
  if a0 < (97 : Int32) then
    some ((0 : Int32), h)
  else
    if (122 : Int32) < a0 then
      some ((0 : Int32), h)
    else
      some ((1 : Int32), h)
set_option maxHeartbeats 2000000 in
theorem ok_Reader_isLetter {G : AE} {n : Nat} (hn : NN ≤ n)  (a0 : Int32) (h : AH) : OK G n y_Reader_isLetter (1) φI [.int a0] h (f_Reader_isLetter a0 h) := by
  refine ok_of (y := y_Reader_isLetter) (lv0 := [some (.int a0)]) (by decide +kernel) (Nat.le_of_ble_eq_true rfl) ⟨rfl, trivial⟩ ?_
  rw [f_Reader_isLetter]
  refine r_iload_n (pc := 0) (i := 0) d_Reader_isLetter_0 rfl rfl ?_
  refine r_bipush (pc := 1) (v := 97) d_Reader_isLetter_1 (by rfl) ?_
  refine r_icmp_lt (pc := 3) (tgt := 16) d_Reader_isLetter_3 (by rfl) ?_ ?_
  · refine r_iconst (pc := 16) (v := 0) d_Reader_isLetter_16 (by rfl) ?_
    exact r_zret (pc := 17) rfl rfl d_Reader_isLetter_17
  · refine r_iload_n (pc := 6) (i := 0) d_Reader_isLetter_6 rfl rfl ?_
    refine r_bipush (pc := 7) (v := 122) d_Reader_isLetter_7 (by rfl) ?_
    refine r_icmp_gt (pc := 9) (tgt := 16) d_Reader_isLetter_9 (by rfl) ?_ ?_
    · refine r_iconst (pc := 16) (v := 0) d_Reader_isLetter_16 (by rfl) ?_
      exact r_zret (pc := 17) rfl rfl d_Reader_isLetter_17
    · refine r_iconst (pc := 12) (v := 1) d_Reader_isLetter_12 (by rfl) ?_
      refine r_goto (pc := 13) (tgt := 17) d_Reader_isLetter_13 (by rfl) ?_
      exact r_zret (pc := 17) rfl rfl d_Reader_isLetter_17

def f_Reader_fail  (a1 : Int32) (h : AH) : Option AH :=
  if ¬ (hI h 1 10) = 0 then
    lt (sI h 1 4 (3 : Int32)) fun hq1 =>
    some hq1
  else
    lt (sI h 1 10 a1) fun hq2 =>
    lt (sI hq2 1 11 (hI hq2 1 5)) fun hq3 =>
    lt (sI hq3 1 4 (3 : Int32)) fun hq4 =>
    some hq4
set_option maxHeartbeats 2000000 in
theorem ok_Reader_fail {G : AE} {n : Nat} (hn : NN ≤ n)  (a1 : Int32) (h : AH) : OK G n y_Reader_fail (1) φV [.ref 1, .int a1] h (f_Reader_fail a1 h) := by
  refine ok_of (y := y_Reader_fail) (lv0 := [some (.ref 1), some (.int a1)]) (by decide +kernel) (Nat.le_of_ble_eq_true rfl) ⟨rfl, ⟨rfl, trivial⟩⟩ ?_
  rw [f_Reader_fail]
  refine r_aload_n (pc := 0) (i := 0) d_Reader_fail_0 rfl rfl ?_
  refine r_getf (pc := 1) (ci := 9) (k := 10) (C := "CricketHay$Reader") (T := F_9) (N := 12) (v := .int (hI h 1 10)) (fun s => Std.k s (lc hn rfl) kq_1) rfl (Nat.le_of_ble_eq_true rfl) rfl w_47 (fun _ => rfl) d_Reader_fail_1 ?_
  refine r_if_ne (pc := 4) (tgt := 20) d_Reader_fail_4 (by rfl) ?_ ?_
  · refine r_aload_n (pc := 20) (i := 0) d_Reader_fail_20 rfl rfl ?_
    refine r_iconst (pc := 21) (v := 3) d_Reader_fail_21 (by rfl) ?_
    refine r_putI (pc := 22) (ci := 9) (k := 4) (C := "CricketHay$Reader") (T := F_9) (N := 12) (fun s => Std.k s (lc hn rfl) kq_1) rfl (Nat.le_of_ble_eq_true rfl) rfl rfl w_40 (fun _ _ => rfl) (fun _ => rfl) (fun _ => rfl) (fun s => Std.sI s _ _ _) d_Reader_fail_22 ?_
    refine r_ltH (fun hq1 => ?_)
    exact r_vret (pc := 25) rfl d_Reader_fail_25
  · refine r_aload_n (pc := 7) (i := 0) d_Reader_fail_7 rfl rfl ?_
    refine r_iload_n (pc := 8) (i := 1) d_Reader_fail_8 rfl rfl ?_
    refine r_putI (pc := 9) (ci := 9) (k := 10) (C := "CricketHay$Reader") (T := F_9) (N := 12) (fun s => Std.k s (lc hn rfl) kq_1) rfl (Nat.le_of_ble_eq_true rfl) rfl rfl w_47 (fun _ _ => rfl) (fun _ => rfl) (fun _ => rfl) (fun s => Std.sI s _ _ _) d_Reader_fail_9 ?_
    refine r_ltH (fun hq2 => ?_)
    refine r_aload_n (pc := 12) (i := 0) d_Reader_fail_12 rfl rfl ?_
    refine r_aload_n (pc := 13) (i := 0) d_Reader_fail_13 rfl rfl ?_
    refine r_getf (pc := 14) (ci := 9) (k := 5) (C := "CricketHay$Reader") (T := F_9) (N := 12) (v := .int (hI hq2 1 5)) (fun s => Std.k s (lc hn rfl) kq_1) rfl (Nat.le_of_ble_eq_true rfl) rfl w_41 (fun _ => rfl) d_Reader_fail_14 ?_
    refine r_putI (pc := 17) (ci := 9) (k := 11) (C := "CricketHay$Reader") (T := F_9) (N := 12) (fun s => Std.k s (lc hn rfl) kq_1) rfl (Nat.le_of_ble_eq_true rfl) rfl rfl w_49 (fun _ _ => rfl) (fun _ => rfl) (fun _ => rfl) (fun s => Std.sI s _ _ _) d_Reader_fail_17 ?_
    refine r_ltH (fun hq3 => ?_)
    refine r_aload_n (pc := 20) (i := 0) d_Reader_fail_20 rfl rfl ?_
    refine r_iconst (pc := 21) (v := 3) d_Reader_fail_21 (by rfl) ?_
    refine r_putI (pc := 22) (ci := 9) (k := 4) (C := "CricketHay$Reader") (T := F_9) (N := 12) (fun s => Std.k s (lc hn rfl) kq_1) rfl (Nat.le_of_ble_eq_true rfl) rfl rfl w_40 (fun _ _ => rfl) (fun _ => rfl) (fun _ => rfl) (fun s => Std.sI s _ _ _) d_Reader_fail_22 ?_
    refine r_ltH (fun hq4 => ?_)
    exact r_vret (pc := 25) rfl d_Reader_fail_25

def f_Reader_readWord_b171   (k97 : Int32 → AH → Option AH) (x1 : Int32) (x2 : Int32) (h : AH) : Option AH :=
  if ¬ x2 = (8 : Int32) then
    lt (x1 + (8 : Int32)) fun xq1 =>
    k97 xq1 h
  else
    lt (sI h 1 4 ((256 : Int32) + (x1 / (8 : Int32)))) fun hq2 =>
    lt (x1 + (8 : Int32)) fun xq3 =>
    k97 xq3 hq2
set_option maxHeartbeats 2000000 in
theorem o_Reader_readWord_b171 {G : AE} {n : Nat} (hn : NN ≤ n)    {k97 : Int32 → AH → Option AH} (hk97 : ∀ (x1 : Int32) (h : AH), AJ G n y_Reader_readWord (5) φV 97 [some (.ref 1), some (.int x1), none] [] h (k97 x1 h)) : ∀ (x1 : Int32) (x2 : Int32) (h : AH), AJ G n y_Reader_readWord (5) φV 171 [some (.ref 1), some (.int x1), some (.int x2)] [] h (f_Reader_readWord_b171 k97 x1 x2 h) := by
  intro x1 x2 h
  rw [f_Reader_readWord_b171]
  refine r_iload_n (pc := 171) (i := 2) d_Reader_readWord_171 rfl rfl ?_
  refine r_bipush (pc := 172) (v := 8) d_Reader_readWord_172 (by rfl) ?_
  refine r_icmp_ne (pc := 174) (tgt := 189) d_Reader_readWord_174 (by rfl) ?_ ?_
  · refine r_ltE (fun xq1 exq1 => ?_)
    refine r_iinc (pc := 189) (v := xq1) (lv1 := [some (.ref 1), some (.int xq1), some (.int x2)]) d_Reader_readWord_189 rfl exq1.symm (Nat.le_of_ble_eq_true rfl) rfl ?_
    refine r_goto (pc := 192) (tgt := 97) d_Reader_readWord_192 (by rfl) ?_
    exact r_wk (hk97 xq1 h) ⟨rfl, ⟨rfl, trivial⟩⟩
  · refine r_aload_n (pc := 177) (i := 0) d_Reader_readWord_177 rfl rfl ?_
    refine r_sipush (pc := 178) (v := 256) d_Reader_readWord_178 (by rfl) ?_
    refine r_iload_n (pc := 181) (i := 1) d_Reader_readWord_181 rfl rfl ?_
    refine r_bipush (pc := 182) (v := 8) d_Reader_readWord_182 (by rfl) ?_
    refine r_idivC (pc := 184) (by decide) d_Reader_readWord_184 ?_
    refine r_iadd (pc := 185) d_Reader_readWord_185 ?_
    refine r_putI (pc := 186) (ci := 9) (k := 4) (C := "CricketHay$Reader") (T := F_9) (N := 12) (fun s => Std.k s (lc hn rfl) kq_1) rfl (Nat.le_of_ble_eq_true rfl) rfl rfl w_40 (fun _ _ => rfl) (fun _ => rfl) (fun _ => rfl) (fun s => Std.sI s _ _ _) d_Reader_readWord_186 ?_
    refine r_ltH (fun hq2 => ?_)
    refine r_ltE (fun xq3 exq3 => ?_)
    refine r_iinc (pc := 189) (v := xq3) (lv1 := [some (.ref 1), some (.int xq3), some (.int x2)]) d_Reader_readWord_189 rfl exq3.symm (Nat.le_of_ble_eq_true rfl) rfl ?_
    refine r_goto (pc := 192) (tgt := 97) d_Reader_readWord_192 (by rfl) ?_
    exact r_wk (hk97 xq3 hq2) ⟨rfl, ⟨rfl, trivial⟩⟩
def f_Reader_readWord_b162   (k97 : Int32 → AH → Option AH) (k119 : Int32 → Int32 → AH → Option AH) (x1 : Int32) (x2 : Int32) (v0 : Int32) (v1 : Int32) (h : AH) : Option AH :=
  if ¬ v0 = v1 then
    f_Reader_readWord_b171 k97 x1 x2 h
  else
    lt (x2 + (1 : Int32)) fun xq1 =>
    k119 x1 xq1 h
set_option maxHeartbeats 2000000 in
theorem o_Reader_readWord_b162 {G : AE} {n : Nat} (hn : NN ≤ n)    {k97 : Int32 → AH → Option AH} (hk97 : ∀ (x1 : Int32) (h : AH), AJ G n y_Reader_readWord (5) φV 97 [some (.ref 1), some (.int x1), none] [] h (k97 x1 h)) {k119 : Int32 → Int32 → AH → Option AH} (hk119 : ∀ (x1 : Int32) (x2 : Int32) (h : AH), AJ G n y_Reader_readWord (5) φV 119 [some (.ref 1), some (.int x1), some (.int x2)] [] h (k119 x1 x2 h)) : ∀ (x1 : Int32) (x2 : Int32) (v0 : Int32) (v1 : Int32) (h : AH), AJ G n y_Reader_readWord (5) φV 162 [some (.ref 1), some (.int x1), some (.int x2)] [.int v1, .int v0] h (f_Reader_readWord_b162 k97 k119 x1 x2 v0 v1 h) := by
  intro x1 x2 v0 v1 h
  rw [f_Reader_readWord_b162]
  refine r_icmp_ne (pc := 162) (tgt := 171) d_Reader_readWord_162 (by rfl) ?_ ?_
  · exact r_wk (o_Reader_readWord_b171 hn hk97 x1 x2 h) ⟨rfl, ⟨rfl, ⟨rfl, trivial⟩⟩⟩
  · refine r_ltE (fun xq1 exq1 => ?_)
    refine r_iinc (pc := 165) (v := xq1) (lv1 := [some (.ref 1), some (.int x1), some (.int xq1)]) d_Reader_readWord_165 rfl exq1.symm (Nat.le_of_ble_eq_true rfl) rfl ?_
    refine r_goto (pc := 168) (tgt := 119) d_Reader_readWord_168 (by rfl) ?_
    exact r_wk (hk119 x1 xq1 h) ⟨rfl, ⟨rfl, ⟨rfl, trivial⟩⟩⟩
def f_Reader_readWord_l119   (k97 : Int32 → AH → Option AH) : Nat → Int32 → Int32 → AH → Option AH
  | 0, _, _, _ => none
  | n + 1, x1, x2, h =>
    if (8 : Int32) ≤ x2 then
      f_Reader_readWord_b171 k97 x1 x2 h
    else
      bI (f_JString_charAt (x1 + x2) h) fun rq1 hq2 =>
      if (hI hq2 1 3) ≤ ((hI hq2 1 5) + x2) then
        f_Reader_readWord_b162 k97 (f_Reader_readWord_l119 k97 n) x1 x2 rq1 (32 : Int32) hq2
      else
        gx ((hI hq2 1 5) + x2) 1600 <|
        f_Reader_readWord_b162 k97 (f_Reader_readWord_l119 k97 n) x1 x2 rq1 (hI hq2 2 (ix ((hI hq2 1 5) + x2))) hq2
set_option maxHeartbeats 2000000 in
theorem o_Reader_readWord_l119 {G : AE} {n : Nat} (hn : NN ≤ n)    {k97 : Int32 → AH → Option AH} (hk97 : ∀ (x1 : Int32) (h : AH), AJ G n y_Reader_readWord (5) φV 97 [some (.ref 1), some (.int x1), none] [] h (k97 x1 h)) : ∀ (n0 : Nat) (x1 : Int32) (x2 : Int32) (h : AH), AJ G n y_Reader_readWord (5) φV 119 [some (.ref 1), some (.int x1), some (.int x2)] [] h (f_Reader_readWord_l119 k97 n0 x1 x2 h) := by
  intro n0
  induction n0 with
  | zero => intros; exact r_none
  | succ n0 ih =>
    intro x1 x2 h
    rw [f_Reader_readWord_l119]
    refine r_iload_n (pc := 119) (i := 2) d_Reader_readWord_119 rfl rfl ?_
    refine r_bipush (pc := 120) (v := 8) d_Reader_readWord_120 (by rfl) ?_
    refine r_icmp_ge (pc := 122) (tgt := 171) d_Reader_readWord_122 (by rfl) ?_ ?_
    · exact r_wk (o_Reader_readWord_b171 hn hk97 x1 x2 h) ⟨rfl, ⟨rfl, ⟨rfl, trivial⟩⟩⟩
    · refine r_ldcS (pc := 125) rfl d_Reader_readWord_125 ?_
      refine r_iload_n (pc := 127) (i := 1) d_Reader_readWord_127 rfl rfl ?_
      refine r_iload_n (pc := 128) (i := 2) d_Reader_readWord_128 rfl rfl ?_
      refine r_iadd (pc := 129) d_Reader_readWord_129 ?_
      refine r_cXi (pc := 130) (st := []) (ok_JString_charAt hn (x1 + x2) h) rfl w_515 w_14 w_512 w_513 w_514 hy_JString_charAt ⟨Nat.le_of_ble_eq_true rfl, Nat.le_of_ble_eq_true rfl⟩ ⟨Nat.le_of_ble_eq_true rfl, Nat.le_of_ble_eq_true rfl⟩ rfl (Nat.le_of_ble_eq_true rfl) d_Reader_readWord_130 (fun rq1 hq2 => ?_)
      refine r_aload_n (pc := 133) (i := 0) d_Reader_readWord_133 rfl rfl ?_
      refine r_getf (pc := 134) (ci := 9) (k := 5) (C := "CricketHay$Reader") (T := F_9) (N := 12) (v := .int (hI hq2 1 5)) (fun s => Std.k s (lc hn rfl) kq_1) rfl (Nat.le_of_ble_eq_true rfl) rfl w_41 (fun _ => rfl) d_Reader_readWord_134 ?_
      refine r_iload_n (pc := 137) (i := 2) d_Reader_readWord_137 rfl rfl ?_
      refine r_iadd (pc := 138) d_Reader_readWord_138 ?_
      refine r_aload_n (pc := 139) (i := 0) d_Reader_readWord_139 rfl rfl ?_
      refine r_getf (pc := 140) (ci := 9) (k := 3) (C := "CricketHay$Reader") (T := F_9) (N := 12) (v := .int (hI hq2 1 3)) (fun s => Std.k s (lc hn rfl) kq_1) rfl (Nat.le_of_ble_eq_true rfl) rfl w_39 (fun _ => rfl) d_Reader_readWord_140 ?_
      refine r_icmp_ge (pc := 143) (tgt := 160) d_Reader_readWord_143 (by rfl) ?_ ?_
      · refine r_bipush (pc := 160) (v := 32) d_Reader_readWord_160 (by rfl) ?_
        exact r_wk (o_Reader_readWord_b162 hn hk97 ih x1 x2 rq1 (32 : Int32) hq2) ⟨rfl, ⟨rfl, ⟨rfl, trivial⟩⟩⟩
      · refine r_aload_n (pc := 146) (i := 0) d_Reader_readWord_146 rfl rfl ?_
        refine r_getf (pc := 147) (ci := 9) (k := 0) (C := "CricketHay$Reader") (T := F_9) (N := 12) (v := .ref 2) (fun s => Std.k s (lc hn rfl) kq_1) rfl (Nat.le_of_ble_eq_true rfl) rfl w_36 (fun s => vr rfl (Std.r s (lc hn rfl) rq_1_0)) d_Reader_readWord_147 ?_
        refine r_aload_n (pc := 150) (i := 0) d_Reader_readWord_150 rfl rfl ?_
        refine r_getf (pc := 151) (ci := 9) (k := 5) (C := "CricketHay$Reader") (T := F_9) (N := 12) (v := .int (hI hq2 1 5)) (fun s => Std.k s (lc hn rfl) kq_1) rfl (Nat.le_of_ble_eq_true rfl) rfl w_41 (fun _ => rfl) d_Reader_readWord_151 ?_
        refine r_iload_n (pc := 154) (i := 2) d_Reader_readWord_154 rfl rfl ?_
        refine r_iadd (pc := 155) d_Reader_readWord_155 ?_
        refine r_gx (fun zq3 => ?_)
        refine r_iald (pc := 156) (n := 1600) (i0 := (ix ((hI hq2 1 5) + x2))) (fun s => Std.k s (lc hn rfl) kq_2) zq3 rfl d_Reader_readWord_156 ?_
        refine r_goto (pc := 157) (tgt := 162) d_Reader_readWord_157 (by rfl) ?_
        exact r_wk (o_Reader_readWord_b162 hn hk97 ih x1 x2 rq1 (hI hq2 2 (ix ((hI hq2 1 5) + x2))) hq2) ⟨rfl, ⟨rfl, ⟨rfl, trivial⟩⟩⟩
def f_Reader_readWord_l97    : Nat → Int32 → AH → Option AH
  | 0, _, _ => none
  | n + 1, x1, h =>
    bI (f_JString_length h) fun rq1 hq2 =>
    if rq1 < (x1 + (8 : Int32)) then
      some hq2
    else
      if ¬ (hI hq2 1 4) = (2 : Int32) then
        some hq2
      else
        f_Reader_readWord_l119 (f_Reader_readWord_l97 n) FU x1 (0 : Int32) hq2
set_option maxHeartbeats 2000000 in
theorem o_Reader_readWord_l97 {G : AE} {n : Nat} (hn : NN ≤ n)     : ∀ (n0 : Nat) (x1 : Int32) (h : AH), AJ G n y_Reader_readWord (5) φV 97 [some (.ref 1), some (.int x1), none] [] h (f_Reader_readWord_l97 n0 x1 h) := by
  intro n0
  induction n0 with
  | zero => intros; exact r_none
  | succ n0 ih =>
    intro x1 h
    rw [f_Reader_readWord_l97]
    refine r_iload_n (pc := 97) (i := 1) d_Reader_readWord_97 rfl rfl ?_
    refine r_bipush (pc := 98) (v := 8) d_Reader_readWord_98 (by rfl) ?_
    refine r_iadd (pc := 100) d_Reader_readWord_100 ?_
    refine r_ldcS (pc := 101) rfl d_Reader_readWord_101 ?_
    refine r_cXi (pc := 103) (st := [.int (x1 + (8 : Int32))]) (ok_JString_length hn h) rfl w_505 w_14 w_502 w_503 w_504 hy_JString_length ⟨Nat.le_of_ble_eq_true rfl, Nat.le_of_ble_eq_true rfl⟩ ⟨Nat.le_of_ble_eq_true rfl, Nat.le_of_ble_eq_true rfl⟩ rfl (Nat.le_of_ble_eq_true rfl) d_Reader_readWord_103 (fun rq1 hq2 => ?_)
    refine r_icmp_gt (pc := 106) (tgt := 195) d_Reader_readWord_106 (by rfl) ?_ ?_
    · exact r_vret (pc := 195) rfl d_Reader_readWord_195
    · refine r_aload_n (pc := 109) (i := 0) d_Reader_readWord_109 rfl rfl ?_
      refine r_getf (pc := 110) (ci := 9) (k := 4) (C := "CricketHay$Reader") (T := F_9) (N := 12) (v := .int (hI hq2 1 4)) (fun s => Std.k s (lc hn rfl) kq_1) rfl (Nat.le_of_ble_eq_true rfl) rfl w_40 (fun _ => rfl) d_Reader_readWord_110 ?_
      refine r_iconst (pc := 113) (v := 2) d_Reader_readWord_113 (by rfl) ?_
      refine r_icmp_ne (pc := 114) (tgt := 195) d_Reader_readWord_114 (by rfl) ?_ ?_
      · exact r_vret (pc := 195) rfl d_Reader_readWord_195
      · refine r_iconst (pc := 117) (v := 0) d_Reader_readWord_117 (by rfl) ?_
        refine r_istore_n (pc := 118) (i := 2) (lv1 := [some (.ref 1), some (.int x1), some (.int (0 : Int32))]) d_Reader_readWord_118 rfl (Nat.le_of_ble_eq_true rfl) rfl ?_
        exact r_wk (o_Reader_readWord_l119 hn ih FU x1 (0 : Int32) hq2) ⟨rfl, ⟨rfl, ⟨rfl, trivial⟩⟩⟩
def f_Reader_readWord_b70     (h : AH) : Option AH :=
  if ((hI h 1 3) - (hI h 1 5)) ≤ (8 : Int32) then
    lt (sI h 1 4 (2 : Int32)) fun hq1 =>
    f_Reader_readWord_l97 FU (0 : Int32) hq1
  else
    bV (f_Reader_fail (1 : Int32) h) fun hq2 =>
    some hq2
set_option maxHeartbeats 2000000 in
theorem o_Reader_readWord_b70 {G : AE} {n : Nat} (hn : NN ≤ n)     : ∀  (h : AH), AJ G n y_Reader_readWord (5) φV 70 [some (.ref 1), none, none] [] h (f_Reader_readWord_b70 h) := by
  intro  h
  rw [f_Reader_readWord_b70]
  refine r_aload_n (pc := 70) (i := 0) d_Reader_readWord_70 rfl rfl ?_
  refine r_getf (pc := 71) (ci := 9) (k := 3) (C := "CricketHay$Reader") (T := F_9) (N := 12) (v := .int (hI h 1 3)) (fun s => Std.k s (lc hn rfl) kq_1) rfl (Nat.le_of_ble_eq_true rfl) rfl w_39 (fun _ => rfl) d_Reader_readWord_71 ?_
  refine r_aload_n (pc := 74) (i := 0) d_Reader_readWord_74 rfl rfl ?_
  refine r_getf (pc := 75) (ci := 9) (k := 5) (C := "CricketHay$Reader") (T := F_9) (N := 12) (v := .int (hI h 1 5)) (fun s => Std.k s (lc hn rfl) kq_1) rfl (Nat.le_of_ble_eq_true rfl) rfl w_41 (fun _ => rfl) d_Reader_readWord_75 ?_
  refine r_isub (pc := 78) d_Reader_readWord_78 ?_
  refine r_bipush (pc := 79) (v := 8) d_Reader_readWord_79 (by rfl) ?_
  refine r_icmp_le (pc := 81) (tgt := 90) d_Reader_readWord_81 (by rfl) ?_ ?_
  · refine r_aload_n (pc := 90) (i := 0) d_Reader_readWord_90 rfl rfl ?_
    refine r_iconst (pc := 91) (v := 2) d_Reader_readWord_91 (by rfl) ?_
    refine r_putI (pc := 92) (ci := 9) (k := 4) (C := "CricketHay$Reader") (T := F_9) (N := 12) (fun s => Std.k s (lc hn rfl) kq_1) rfl (Nat.le_of_ble_eq_true rfl) rfl rfl w_40 (fun _ _ => rfl) (fun _ => rfl) (fun _ => rfl) (fun s => Std.sI s _ _ _) d_Reader_readWord_92 ?_
    refine r_ltH (fun hq1 => ?_)
    refine r_iconst (pc := 95) (v := 0) d_Reader_readWord_95 (by rfl) ?_
    refine r_istore_n (pc := 96) (i := 1) (lv1 := [some (.ref 1), some (.int (0 : Int32)), none]) d_Reader_readWord_96 rfl (Nat.le_of_ble_eq_true rfl) rfl ?_
    exact r_wk (o_Reader_readWord_l97 hn FU (0 : Int32) hq1) ⟨rfl, ⟨rfl, trivial⟩⟩
  · refine r_aload_n (pc := 84) (i := 0) d_Reader_readWord_84 rfl rfl ?_
    refine r_iconst (pc := 85) (v := 1) d_Reader_readWord_85 (by rfl) ?_
    refine r_cVv (pc := 86) (T := F_9) (N := 12) (st := []) (ok_Reader_fail hn (1 : Int32) h) (fun s => Std.k s (lc hn rfl) kq_1) rfl w_500 w_2 w_497 w_499 ws_3 hy_Reader_fail ⟨Nat.le_of_ble_eq_true rfl, Nat.le_of_ble_eq_true rfl⟩ ⟨Nat.le_of_ble_eq_true rfl, Nat.le_of_ble_eq_true rfl⟩ rfl (Nat.le_of_ble_eq_true rfl) d_Reader_readWord_86 (fun hq2 => ?_)
    exact r_vret (pc := 89) rfl d_Reader_readWord_89
def f_Reader_readWord_l5    : Nat → AH → Option AH
  | 0, _ => none
  | n + 1, h =>
    if (hI h 1 9) ≤ (hI h 1 3) then
      f_Reader_readWord_b70 h
    else
      gx (hI h 1 3) 1600 <|
      bI (f_Reader_isLetter (hI h 2 (ix (hI h 1 3))) h) fun rq2 hq3 =>
      if rq2 = 0 then
        f_Reader_readWord_b70 hq3
      else
        gx (hI hq3 1 3) 1600 <|
        lt (sL hq3 1 7 ((lshl (hL hq3 1 7) (5 : Int32)) ||| (Int32.toInt64 (((hI hq3 2 (ix (hI hq3 1 3))) - (97 : Int32)) + (1 : Int32))))) fun hq5 =>
        lt (sI hq5 1 3 ((hI hq5 1 3) + (1 : Int32))) fun hq6 =>
        f_Reader_readWord_l5 n hq6
set_option maxHeartbeats 2000000 in
theorem o_Reader_readWord_l5 {G : AE} {n : Nat} (hn : NN ≤ n)     : ∀ (n0 : Nat)  (h : AH), AJ G n y_Reader_readWord (5) φV 5 [some (.ref 1), none, none] [] h (f_Reader_readWord_l5 n0 h) := by
  intro n0
  induction n0 with
  | zero => intros; exact r_none
  | succ n0 ih =>
    intro  h
    rw [f_Reader_readWord_l5]
    refine r_aload_n (pc := 5) (i := 0) d_Reader_readWord_5 rfl rfl ?_
    refine r_getf (pc := 6) (ci := 9) (k := 3) (C := "CricketHay$Reader") (T := F_9) (N := 12) (v := .int (hI h 1 3)) (fun s => Std.k s (lc hn rfl) kq_1) rfl (Nat.le_of_ble_eq_true rfl) rfl w_39 (fun _ => rfl) d_Reader_readWord_6 ?_
    refine r_aload_n (pc := 9) (i := 0) d_Reader_readWord_9 rfl rfl ?_
    refine r_getf (pc := 10) (ci := 9) (k := 9) (C := "CricketHay$Reader") (T := F_9) (N := 12) (v := .int (hI h 1 9)) (fun s => Std.k s (lc hn rfl) kq_1) rfl (Nat.le_of_ble_eq_true rfl) rfl w_45 (fun _ => rfl) d_Reader_readWord_10 ?_
    refine r_icmp_ge (pc := 13) (tgt := 70) d_Reader_readWord_13 (by rfl) ?_ ?_
    · exact r_wk (o_Reader_readWord_b70 hn h) ⟨rfl, trivial⟩
    · refine r_aload_n (pc := 16) (i := 0) d_Reader_readWord_16 rfl rfl ?_
      refine r_getf (pc := 17) (ci := 9) (k := 0) (C := "CricketHay$Reader") (T := F_9) (N := 12) (v := .ref 2) (fun s => Std.k s (lc hn rfl) kq_1) rfl (Nat.le_of_ble_eq_true rfl) rfl w_36 (fun s => vr rfl (Std.r s (lc hn rfl) rq_1_0)) d_Reader_readWord_17 ?_
      refine r_aload_n (pc := 20) (i := 0) d_Reader_readWord_20 rfl rfl ?_
      refine r_getf (pc := 21) (ci := 9) (k := 3) (C := "CricketHay$Reader") (T := F_9) (N := 12) (v := .int (hI h 1 3)) (fun s => Std.k s (lc hn rfl) kq_1) rfl (Nat.le_of_ble_eq_true rfl) rfl w_39 (fun _ => rfl) d_Reader_readWord_21 ?_
      refine r_gx (fun zq1 => ?_)
      refine r_iald (pc := 24) (n := 1600) (i0 := (ix (hI h 1 3))) (fun s => Std.k s (lc hn rfl) kq_2) zq1 rfl d_Reader_readWord_24 ?_
      refine r_cSi (pc := 25) (st := []) (ok_Reader_isLetter hn (hI h 2 (ix (hI h 1 3))) h) w_492 w_2 w_490 w_491 hy_Reader_isLetter ⟨Nat.le_of_ble_eq_true rfl, Nat.le_of_ble_eq_true rfl⟩ ⟨Nat.le_of_ble_eq_true rfl, Nat.le_of_ble_eq_true rfl⟩ rfl (Nat.le_of_ble_eq_true rfl) d_Reader_readWord_25 (fun rq2 hq3 => ?_)
      refine r_if_eq (pc := 28) (tgt := 70) d_Reader_readWord_28 (by rfl) ?_ ?_
      · exact r_wk (o_Reader_readWord_b70 hn hq3) ⟨rfl, trivial⟩
      · refine r_aload_n (pc := 31) (i := 0) d_Reader_readWord_31 rfl rfl ?_
        refine r_aload_n (pc := 32) (i := 0) d_Reader_readWord_32 rfl rfl ?_
        refine r_getf (pc := 33) (ci := 9) (k := 7) (C := "CricketHay$Reader") (T := F_9) (N := 12) (v := .long (hL hq3 1 7)) (fun s => Std.k s (lc hn rfl) kq_1) rfl (Nat.le_of_ble_eq_true rfl) rfl w_43 (fun _ => rfl) d_Reader_readWord_33 ?_
        refine r_iconst (pc := 36) (v := 5) d_Reader_readWord_36 (by rfl) ?_
        refine r_lshl (pc := 37) d_Reader_readWord_37 ?_
        refine r_aload_n (pc := 38) (i := 0) d_Reader_readWord_38 rfl rfl ?_
        refine r_getf (pc := 39) (ci := 9) (k := 0) (C := "CricketHay$Reader") (T := F_9) (N := 12) (v := .ref 2) (fun s => Std.k s (lc hn rfl) kq_1) rfl (Nat.le_of_ble_eq_true rfl) rfl w_36 (fun s => vr rfl (Std.r s (lc hn rfl) rq_1_0)) d_Reader_readWord_39 ?_
        refine r_aload_n (pc := 42) (i := 0) d_Reader_readWord_42 rfl rfl ?_
        refine r_getf (pc := 43) (ci := 9) (k := 3) (C := "CricketHay$Reader") (T := F_9) (N := 12) (v := .int (hI hq3 1 3)) (fun s => Std.k s (lc hn rfl) kq_1) rfl (Nat.le_of_ble_eq_true rfl) rfl w_39 (fun _ => rfl) d_Reader_readWord_43 ?_
        refine r_gx (fun zq4 => ?_)
        refine r_iald (pc := 46) (n := 1600) (i0 := (ix (hI hq3 1 3))) (fun s => Std.k s (lc hn rfl) kq_2) zq4 rfl d_Reader_readWord_46 ?_
        refine r_bipush (pc := 47) (v := 97) d_Reader_readWord_47 (by rfl) ?_
        refine r_isub (pc := 49) d_Reader_readWord_49 ?_
        refine r_iconst (pc := 50) (v := 1) d_Reader_readWord_50 (by rfl) ?_
        refine r_iadd (pc := 51) d_Reader_readWord_51 ?_
        refine r_i2l (pc := 52) d_Reader_readWord_52 ?_
        refine r_lor (pc := 53) d_Reader_readWord_53 ?_
        refine r_putL (pc := 54) (ci := 9) (k := 7) (C := "CricketHay$Reader") (T := F_9) (N := 12) (fun s => Std.k s (lc hn rfl) kq_1) rfl (Nat.le_of_ble_eq_true rfl) rfl rfl w_43 (fun _ _ => rfl) (fun _ => rfl) (fun _ => rfl) (fun s => Std.sL s _ _ _) d_Reader_readWord_54 ?_
        refine r_ltH (fun hq5 => ?_)
        refine r_aload_n (pc := 57) (i := 0) d_Reader_readWord_57 rfl rfl ?_
        refine r_dup (pc := 58) d_Reader_readWord_58 rfl ?_
        refine r_getf (pc := 59) (ci := 9) (k := 3) (C := "CricketHay$Reader") (T := F_9) (N := 12) (v := .int (hI hq5 1 3)) (fun s => Std.k s (lc hn rfl) kq_1) rfl (Nat.le_of_ble_eq_true rfl) rfl w_39 (fun _ => rfl) d_Reader_readWord_59 ?_
        refine r_iconst (pc := 62) (v := 1) d_Reader_readWord_62 (by rfl) ?_
        refine r_iadd (pc := 63) d_Reader_readWord_63 ?_
        refine r_putI (pc := 64) (ci := 9) (k := 3) (C := "CricketHay$Reader") (T := F_9) (N := 12) (fun s => Std.k s (lc hn rfl) kq_1) rfl (Nat.le_of_ble_eq_true rfl) rfl rfl w_39 (fun _ _ => rfl) (fun _ => rfl) (fun _ => rfl) (fun s => Std.sI s _ _ _) d_Reader_readWord_64 ?_
        refine r_ltH (fun hq6 => ?_)
        refine r_goto (pc := 67) (tgt := 5) d_Reader_readWord_67 (by rfl) ?_
        exact r_wk (ih hq6) ⟨rfl, trivial⟩
def f_Reader_readWord   (h : AH) : Option AH :=
  lt (sL h 1 7 (0 : Int64)) fun hq1 =>
  f_Reader_readWord_l5 FU hq1
set_option maxHeartbeats 2000000 in
theorem ok_Reader_readWord {G : AE} {n : Nat} (hn : NN ≤ n)   (h : AH) : OK G n y_Reader_readWord (5) φV [.ref 1] h (f_Reader_readWord h) := by
  refine ok_of (y := y_Reader_readWord) (lv0 := [some (.ref 1), none, none]) (by decide +kernel) (Nat.le_of_ble_eq_true rfl) ⟨rfl, trivial⟩ ?_
  rw [f_Reader_readWord]
  refine r_aload_n (pc := 0) (i := 0) d_Reader_readWord_0 rfl rfl ?_
  refine r_lconst (pc := 1) (v := 0) d_Reader_readWord_1 (by rfl) ?_
  refine r_putL (pc := 2) (ci := 9) (k := 7) (C := "CricketHay$Reader") (T := F_9) (N := 12) (fun s => Std.k s (lc hn rfl) kq_1) rfl (Nat.le_of_ble_eq_true rfl) rfl rfl w_43 (fun _ _ => rfl) (fun _ => rfl) (fun _ => rfl) (fun s => Std.sL s _ _ _) d_Reader_readWord_2 ?_
  refine r_ltH (fun hq1 => ?_)
  exact r_wk (o_Reader_readWord_l5 hn FU hq1) ⟨rfl, trivial⟩

def f_Reader_isDigit  (a0 : Int32) (h : AH) : Option (Int32 × AH) :=
  if a0 < (48 : Int32) then
    some ((0 : Int32), h)
  else
    if (57 : Int32) < a0 then
      some ((0 : Int32), h)
    else
      some ((1 : Int32), h)
set_option maxHeartbeats 2000000 in
theorem ok_Reader_isDigit {G : AE} {n : Nat} (hn : NN ≤ n)  (a0 : Int32) (h : AH) : OK G n y_Reader_isDigit (1) φI [.int a0] h (f_Reader_isDigit a0 h) := by
  refine ok_of (y := y_Reader_isDigit) (lv0 := [some (.int a0)]) (by decide +kernel) (Nat.le_of_ble_eq_true rfl) ⟨rfl, trivial⟩ ?_
  rw [f_Reader_isDigit]
  refine r_iload_n (pc := 0) (i := 0) d_Reader_isDigit_0 rfl rfl ?_
  refine r_bipush (pc := 1) (v := 48) d_Reader_isDigit_1 (by rfl) ?_
  refine r_icmp_lt (pc := 3) (tgt := 16) d_Reader_isDigit_3 (by rfl) ?_ ?_
  · refine r_iconst (pc := 16) (v := 0) d_Reader_isDigit_16 (by rfl) ?_
    exact r_zret (pc := 17) rfl rfl d_Reader_isDigit_17
  · refine r_iload_n (pc := 6) (i := 0) d_Reader_isDigit_6 rfl rfl ?_
    refine r_bipush (pc := 7) (v := 57) d_Reader_isDigit_7 (by rfl) ?_
    refine r_icmp_gt (pc := 9) (tgt := 16) d_Reader_isDigit_9 (by rfl) ?_ ?_
    · refine r_iconst (pc := 16) (v := 0) d_Reader_isDigit_16 (by rfl) ?_
      exact r_zret (pc := 17) rfl rfl d_Reader_isDigit_17
    · refine r_iconst (pc := 12) (v := 1) d_Reader_isDigit_12 (by rfl) ?_
      refine r_goto (pc := 13) (tgt := 17) d_Reader_isDigit_13 (by rfl) ?_
      exact r_zret (pc := 17) rfl rfl d_Reader_isDigit_17

def f_Reader_readNumber_b107     (h : AH) : Option AH :=
  bV (f_Reader_fail (1 : Int32) h) fun hq1 =>
  some hq1
set_option maxHeartbeats 2000000 in
theorem o_Reader_readNumber_b107 {G : AE} {n : Nat} (hn : NN ≤ n)     : ∀  (h : AH), AJ G n y_Reader_readNumber (2) φV 107 [some (.ref 1)] [] h (f_Reader_readNumber_b107 h) := by
  intro  h
  rw [f_Reader_readNumber_b107]
  refine r_aload_n (pc := 107) (i := 0) d_Reader_readNumber_107 rfl rfl ?_
  refine r_iconst (pc := 108) (v := 1) d_Reader_readNumber_108 (by rfl) ?_
  refine r_cVv (pc := 109) (T := F_9) (N := 12) (st := []) (ok_Reader_fail hn (1 : Int32) h) (fun s => Std.k s (lc hn rfl) kq_1) rfl w_500 w_2 w_497 w_499 ws_3 hy_Reader_fail ⟨Nat.le_of_ble_eq_true rfl, Nat.le_of_ble_eq_true rfl⟩ ⟨Nat.le_of_ble_eq_true rfl, Nat.le_of_ble_eq_true rfl⟩ rfl (Nat.le_of_ble_eq_true rfl) d_Reader_readNumber_109 (fun hq1 => ?_)
  exact r_vret (pc := 112) rfl d_Reader_readNumber_112
def f_Reader_readNumber_b68     (h : AH) : Option AH :=
  if (4 : Int32) < ((hI h 1 3) - (hI h 1 5)) then
    f_Reader_readNumber_b107 h
  else
    if (hI h 1 9) ≤ (hI h 1 3) then
      lt (sI h 1 4 (1 : Int32)) fun hq1 =>
      some hq1
    else
      gx (hI h 1 3) 1600 <|
      bI (f_Reader_isLetter (hI h 2 (ix (hI h 1 3))) h) fun rq3 hq4 =>
      if rq3 = 0 then
        lt (sI hq4 1 4 (1 : Int32)) fun hq5 =>
        some hq5
      else
        f_Reader_readNumber_b107 hq4
set_option maxHeartbeats 2000000 in
theorem o_Reader_readNumber_b68 {G : AE} {n : Nat} (hn : NN ≤ n)     : ∀  (h : AH), AJ G n y_Reader_readNumber (2) φV 68 [some (.ref 1)] [] h (f_Reader_readNumber_b68 h) := by
  intro  h
  rw [f_Reader_readNumber_b68]
  refine r_aload_n (pc := 68) (i := 0) d_Reader_readNumber_68 rfl rfl ?_
  refine r_getf (pc := 69) (ci := 9) (k := 3) (C := "CricketHay$Reader") (T := F_9) (N := 12) (v := .int (hI h 1 3)) (fun s => Std.k s (lc hn rfl) kq_1) rfl (Nat.le_of_ble_eq_true rfl) rfl w_39 (fun _ => rfl) d_Reader_readNumber_69 ?_
  refine r_aload_n (pc := 72) (i := 0) d_Reader_readNumber_72 rfl rfl ?_
  refine r_getf (pc := 73) (ci := 9) (k := 5) (C := "CricketHay$Reader") (T := F_9) (N := 12) (v := .int (hI h 1 5)) (fun s => Std.k s (lc hn rfl) kq_1) rfl (Nat.le_of_ble_eq_true rfl) rfl w_41 (fun _ => rfl) d_Reader_readNumber_73 ?_
  refine r_isub (pc := 76) d_Reader_readNumber_76 ?_
  refine r_iconst (pc := 77) (v := 4) d_Reader_readNumber_77 (by rfl) ?_
  refine r_icmp_gt (pc := 78) (tgt := 107) d_Reader_readNumber_78 (by rfl) ?_ ?_
  · exact r_wk (o_Reader_readNumber_b107 hn h) ⟨rfl, trivial⟩
  · refine r_aload_n (pc := 81) (i := 0) d_Reader_readNumber_81 rfl rfl ?_
    refine r_getf (pc := 82) (ci := 9) (k := 3) (C := "CricketHay$Reader") (T := F_9) (N := 12) (v := .int (hI h 1 3)) (fun s => Std.k s (lc hn rfl) kq_1) rfl (Nat.le_of_ble_eq_true rfl) rfl w_39 (fun _ => rfl) d_Reader_readNumber_82 ?_
    refine r_aload_n (pc := 85) (i := 0) d_Reader_readNumber_85 rfl rfl ?_
    refine r_getf (pc := 86) (ci := 9) (k := 9) (C := "CricketHay$Reader") (T := F_9) (N := 12) (v := .int (hI h 1 9)) (fun s => Std.k s (lc hn rfl) kq_1) rfl (Nat.le_of_ble_eq_true rfl) rfl w_45 (fun _ => rfl) d_Reader_readNumber_86 ?_
    refine r_icmp_ge (pc := 89) (tgt := 113) d_Reader_readNumber_89 (by rfl) ?_ ?_
    · refine r_aload_n (pc := 113) (i := 0) d_Reader_readNumber_113 rfl rfl ?_
      refine r_iconst (pc := 114) (v := 1) d_Reader_readNumber_114 (by rfl) ?_
      refine r_putI (pc := 115) (ci := 9) (k := 4) (C := "CricketHay$Reader") (T := F_9) (N := 12) (fun s => Std.k s (lc hn rfl) kq_1) rfl (Nat.le_of_ble_eq_true rfl) rfl rfl w_40 (fun _ _ => rfl) (fun _ => rfl) (fun _ => rfl) (fun s => Std.sI s _ _ _) d_Reader_readNumber_115 ?_
      refine r_ltH (fun hq1 => ?_)
      exact r_vret (pc := 118) rfl d_Reader_readNumber_118
    · refine r_aload_n (pc := 92) (i := 0) d_Reader_readNumber_92 rfl rfl ?_
      refine r_getf (pc := 93) (ci := 9) (k := 0) (C := "CricketHay$Reader") (T := F_9) (N := 12) (v := .ref 2) (fun s => Std.k s (lc hn rfl) kq_1) rfl (Nat.le_of_ble_eq_true rfl) rfl w_36 (fun s => vr rfl (Std.r s (lc hn rfl) rq_1_0)) d_Reader_readNumber_93 ?_
      refine r_aload_n (pc := 96) (i := 0) d_Reader_readNumber_96 rfl rfl ?_
      refine r_getf (pc := 97) (ci := 9) (k := 3) (C := "CricketHay$Reader") (T := F_9) (N := 12) (v := .int (hI h 1 3)) (fun s => Std.k s (lc hn rfl) kq_1) rfl (Nat.le_of_ble_eq_true rfl) rfl w_39 (fun _ => rfl) d_Reader_readNumber_97 ?_
      refine r_gx (fun zq2 => ?_)
      refine r_iald (pc := 100) (n := 1600) (i0 := (ix (hI h 1 3))) (fun s => Std.k s (lc hn rfl) kq_2) zq2 rfl d_Reader_readNumber_100 ?_
      refine r_cSi (pc := 101) (st := []) (ok_Reader_isLetter hn (hI h 2 (ix (hI h 1 3))) h) w_492 w_2 w_490 w_491 hy_Reader_isLetter ⟨Nat.le_of_ble_eq_true rfl, Nat.le_of_ble_eq_true rfl⟩ ⟨Nat.le_of_ble_eq_true rfl, Nat.le_of_ble_eq_true rfl⟩ rfl (Nat.le_of_ble_eq_true rfl) d_Reader_readNumber_101 (fun rq3 hq4 => ?_)
      refine r_if_eq (pc := 104) (tgt := 113) d_Reader_readNumber_104 (by rfl) ?_ ?_
      · refine r_aload_n (pc := 113) (i := 0) d_Reader_readNumber_113 rfl rfl ?_
        refine r_iconst (pc := 114) (v := 1) d_Reader_readNumber_114 (by rfl) ?_
        refine r_putI (pc := 115) (ci := 9) (k := 4) (C := "CricketHay$Reader") (T := F_9) (N := 12) (fun s => Std.k s (lc hn rfl) kq_1) rfl (Nat.le_of_ble_eq_true rfl) rfl rfl w_40 (fun _ _ => rfl) (fun _ => rfl) (fun _ => rfl) (fun s => Std.sI s _ _ _) d_Reader_readNumber_115 ?_
        refine r_ltH (fun hq5 => ?_)
        exact r_vret (pc := 118) rfl d_Reader_readNumber_118
      · exact r_wk (o_Reader_readNumber_b107 hn hq4) ⟨rfl, trivial⟩
def f_Reader_readNumber_l5    : Nat → AH → Option AH
  | 0, _ => none
  | n + 1, h =>
    if (hI h 1 9) ≤ (hI h 1 3) then
      f_Reader_readNumber_b68 h
    else
      gx (hI h 1 3) 1600 <|
      bI (f_Reader_isDigit (hI h 2 (ix (hI h 1 3))) h) fun rq2 hq3 =>
      if rq2 = 0 then
        f_Reader_readNumber_b68 hq3
      else
        gx (hI hq3 1 3) 1600 <|
        lt (sI hq3 1 6 ((((hI hq3 1 6) * (10 : Int32)) + (hI hq3 2 (ix (hI hq3 1 3)))) - (48 : Int32))) fun hq5 =>
        lt (sI hq5 1 3 ((hI hq5 1 3) + (1 : Int32))) fun hq6 =>
        f_Reader_readNumber_l5 n hq6
set_option maxHeartbeats 2000000 in
theorem o_Reader_readNumber_l5 {G : AE} {n : Nat} (hn : NN ≤ n)     : ∀ (n0 : Nat)  (h : AH), AJ G n y_Reader_readNumber (2) φV 5 [some (.ref 1)] [] h (f_Reader_readNumber_l5 n0 h) := by
  intro n0
  induction n0 with
  | zero => intros; exact r_none
  | succ n0 ih =>
    intro  h
    rw [f_Reader_readNumber_l5]
    refine r_aload_n (pc := 5) (i := 0) d_Reader_readNumber_5 rfl rfl ?_
    refine r_getf (pc := 6) (ci := 9) (k := 3) (C := "CricketHay$Reader") (T := F_9) (N := 12) (v := .int (hI h 1 3)) (fun s => Std.k s (lc hn rfl) kq_1) rfl (Nat.le_of_ble_eq_true rfl) rfl w_39 (fun _ => rfl) d_Reader_readNumber_6 ?_
    refine r_aload_n (pc := 9) (i := 0) d_Reader_readNumber_9 rfl rfl ?_
    refine r_getf (pc := 10) (ci := 9) (k := 9) (C := "CricketHay$Reader") (T := F_9) (N := 12) (v := .int (hI h 1 9)) (fun s => Std.k s (lc hn rfl) kq_1) rfl (Nat.le_of_ble_eq_true rfl) rfl w_45 (fun _ => rfl) d_Reader_readNumber_10 ?_
    refine r_icmp_ge (pc := 13) (tgt := 68) d_Reader_readNumber_13 (by rfl) ?_ ?_
    · exact r_wk (o_Reader_readNumber_b68 hn h) ⟨rfl, trivial⟩
    · refine r_aload_n (pc := 16) (i := 0) d_Reader_readNumber_16 rfl rfl ?_
      refine r_getf (pc := 17) (ci := 9) (k := 0) (C := "CricketHay$Reader") (T := F_9) (N := 12) (v := .ref 2) (fun s => Std.k s (lc hn rfl) kq_1) rfl (Nat.le_of_ble_eq_true rfl) rfl w_36 (fun s => vr rfl (Std.r s (lc hn rfl) rq_1_0)) d_Reader_readNumber_17 ?_
      refine r_aload_n (pc := 20) (i := 0) d_Reader_readNumber_20 rfl rfl ?_
      refine r_getf (pc := 21) (ci := 9) (k := 3) (C := "CricketHay$Reader") (T := F_9) (N := 12) (v := .int (hI h 1 3)) (fun s => Std.k s (lc hn rfl) kq_1) rfl (Nat.le_of_ble_eq_true rfl) rfl w_39 (fun _ => rfl) d_Reader_readNumber_21 ?_
      refine r_gx (fun zq1 => ?_)
      refine r_iald (pc := 24) (n := 1600) (i0 := (ix (hI h 1 3))) (fun s => Std.k s (lc hn rfl) kq_2) zq1 rfl d_Reader_readNumber_24 ?_
      refine r_cSi (pc := 25) (st := []) (ok_Reader_isDigit hn (hI h 2 (ix (hI h 1 3))) h) w_552 w_2 w_550 w_551 hy_Reader_isDigit ⟨Nat.le_of_ble_eq_true rfl, Nat.le_of_ble_eq_true rfl⟩ ⟨Nat.le_of_ble_eq_true rfl, Nat.le_of_ble_eq_true rfl⟩ rfl (Nat.le_of_ble_eq_true rfl) d_Reader_readNumber_25 (fun rq2 hq3 => ?_)
      refine r_if_eq (pc := 28) (tgt := 68) d_Reader_readNumber_28 (by rfl) ?_ ?_
      · exact r_wk (o_Reader_readNumber_b68 hn hq3) ⟨rfl, trivial⟩
      · refine r_aload_n (pc := 31) (i := 0) d_Reader_readNumber_31 rfl rfl ?_
        refine r_aload_n (pc := 32) (i := 0) d_Reader_readNumber_32 rfl rfl ?_
        refine r_getf (pc := 33) (ci := 9) (k := 6) (C := "CricketHay$Reader") (T := F_9) (N := 12) (v := .int (hI hq3 1 6)) (fun s => Std.k s (lc hn rfl) kq_1) rfl (Nat.le_of_ble_eq_true rfl) rfl w_42 (fun _ => rfl) d_Reader_readNumber_33 ?_
        refine r_bipush (pc := 36) (v := 10) d_Reader_readNumber_36 (by rfl) ?_
        refine r_imul (pc := 38) d_Reader_readNumber_38 ?_
        refine r_aload_n (pc := 39) (i := 0) d_Reader_readNumber_39 rfl rfl ?_
        refine r_getf (pc := 40) (ci := 9) (k := 0) (C := "CricketHay$Reader") (T := F_9) (N := 12) (v := .ref 2) (fun s => Std.k s (lc hn rfl) kq_1) rfl (Nat.le_of_ble_eq_true rfl) rfl w_36 (fun s => vr rfl (Std.r s (lc hn rfl) rq_1_0)) d_Reader_readNumber_40 ?_
        refine r_aload_n (pc := 43) (i := 0) d_Reader_readNumber_43 rfl rfl ?_
        refine r_getf (pc := 44) (ci := 9) (k := 3) (C := "CricketHay$Reader") (T := F_9) (N := 12) (v := .int (hI hq3 1 3)) (fun s => Std.k s (lc hn rfl) kq_1) rfl (Nat.le_of_ble_eq_true rfl) rfl w_39 (fun _ => rfl) d_Reader_readNumber_44 ?_
        refine r_gx (fun zq4 => ?_)
        refine r_iald (pc := 47) (n := 1600) (i0 := (ix (hI hq3 1 3))) (fun s => Std.k s (lc hn rfl) kq_2) zq4 rfl d_Reader_readNumber_47 ?_
        refine r_iadd (pc := 48) d_Reader_readNumber_48 ?_
        refine r_bipush (pc := 49) (v := 48) d_Reader_readNumber_49 (by rfl) ?_
        refine r_isub (pc := 51) d_Reader_readNumber_51 ?_
        refine r_putI (pc := 52) (ci := 9) (k := 6) (C := "CricketHay$Reader") (T := F_9) (N := 12) (fun s => Std.k s (lc hn rfl) kq_1) rfl (Nat.le_of_ble_eq_true rfl) rfl rfl w_42 (fun _ _ => rfl) (fun _ => rfl) (fun _ => rfl) (fun s => Std.sI s _ _ _) d_Reader_readNumber_52 ?_
        refine r_ltH (fun hq5 => ?_)
        refine r_aload_n (pc := 55) (i := 0) d_Reader_readNumber_55 rfl rfl ?_
        refine r_dup (pc := 56) d_Reader_readNumber_56 rfl ?_
        refine r_getf (pc := 57) (ci := 9) (k := 3) (C := "CricketHay$Reader") (T := F_9) (N := 12) (v := .int (hI hq5 1 3)) (fun s => Std.k s (lc hn rfl) kq_1) rfl (Nat.le_of_ble_eq_true rfl) rfl w_39 (fun _ => rfl) d_Reader_readNumber_57 ?_
        refine r_iconst (pc := 60) (v := 1) d_Reader_readNumber_60 (by rfl) ?_
        refine r_iadd (pc := 61) d_Reader_readNumber_61 ?_
        refine r_putI (pc := 62) (ci := 9) (k := 3) (C := "CricketHay$Reader") (T := F_9) (N := 12) (fun s => Std.k s (lc hn rfl) kq_1) rfl (Nat.le_of_ble_eq_true rfl) rfl rfl w_39 (fun _ _ => rfl) (fun _ => rfl) (fun _ => rfl) (fun s => Std.sI s _ _ _) d_Reader_readNumber_62 ?_
        refine r_ltH (fun hq6 => ?_)
        refine r_goto (pc := 65) (tgt := 5) d_Reader_readNumber_65 (by rfl) ?_
        exact r_wk (ih hq6) ⟨rfl, trivial⟩
def f_Reader_readNumber   (h : AH) : Option AH :=
  lt (sI h 1 6 (0 : Int32)) fun hq1 =>
  f_Reader_readNumber_l5 FU hq1
set_option maxHeartbeats 2000000 in
theorem ok_Reader_readNumber {G : AE} {n : Nat} (hn : NN ≤ n)   (h : AH) : OK G n y_Reader_readNumber (2) φV [.ref 1] h (f_Reader_readNumber h) := by
  refine ok_of (y := y_Reader_readNumber) (lv0 := [some (.ref 1)]) (by decide +kernel) (Nat.le_of_ble_eq_true rfl) ⟨rfl, trivial⟩ ?_
  rw [f_Reader_readNumber]
  refine r_aload_n (pc := 0) (i := 0) d_Reader_readNumber_0 rfl rfl ?_
  refine r_iconst (pc := 1) (v := 0) d_Reader_readNumber_1 (by rfl) ?_
  refine r_putI (pc := 2) (ci := 9) (k := 6) (C := "CricketHay$Reader") (T := F_9) (N := 12) (fun s => Std.k s (lc hn rfl) kq_1) rfl (Nat.le_of_ble_eq_true rfl) rfl rfl w_42 (fun _ _ => rfl) (fun _ => rfl) (fun _ => rfl) (fun s => Std.sI s _ _ _) d_Reader_readNumber_2 ?_
  refine r_ltH (fun hq1 => ?_)
  exact r_wk (o_Reader_readNumber_l5 hn FU hq1) ⟨rfl, trivial⟩

def f_Reader_isSign  (a0 : Int32) (h : AH) : Option (Int32 × AH) :=
  if a0 = (37 : Int32) then
    some ((1 : Int32), h)
  else
  if a0 = (40 : Int32) then
    some ((1 : Int32), h)
  else
  if a0 = (41 : Int32) then
    some ((1 : Int32), h)
  else
  if a0 = (42 : Int32) then
    some ((1 : Int32), h)
  else
  if a0 = (43 : Int32) then
    some ((1 : Int32), h)
  else
  if a0 = (45 : Int32) then
    some ((1 : Int32), h)
  else
  if a0 = (47 : Int32) then
    some ((1 : Int32), h)
  else
  if a0 = (59 : Int32) then
    some ((1 : Int32), h)
  else
  if a0 = (60 : Int32) then
    some ((1 : Int32), h)
  else
  if a0 = (61 : Int32) then
    some ((1 : Int32), h)
  else
  if a0 = (62 : Int32) then
    some ((1 : Int32), h)
  else
    some ((0 : Int32), h)
set_option maxHeartbeats 2000000 in
theorem ok_Reader_isSign {G : AE} {n : Nat} (hn : NN ≤ n)  (a0 : Int32) (h : AH) : OK G n y_Reader_isSign (1) φI [.int a0] h (f_Reader_isSign a0 h) := by
  refine ok_of (y := y_Reader_isSign) (lv0 := [some (.int a0)]) (by decide +kernel) (Nat.le_of_ble_eq_true rfl) ⟨rfl, trivial⟩ ?_
  rw [f_Reader_isSign]
  refine r_iload_n (pc := 0) (i := 0) d_Reader_isSign_0 rfl rfl ?_
  refine r_split (fun cq1 => ?_) (fun cq1 => ?_)
  · refine r_tableIn (pc := 1) (tgt := 120) d_Reader_isSign_1 (by rw [cq1]; decide) (by rw [cq1]; decide) (by rw [cq1] <;> rfl) (by rfl) ?_
    refine r_iconst (pc := 120) (v := 1) d_Reader_isSign_120 (by rfl) ?_
    exact r_zret (pc := 121) rfl rfl d_Reader_isSign_121
  refine r_split (fun cq2 => ?_) (fun cq2 => ?_)
  · refine r_tableIn (pc := 1) (tgt := 120) d_Reader_isSign_1 (by rw [cq2]; decide) (by rw [cq2]; decide) (by rw [cq2] <;> rfl) (by rfl) ?_
    refine r_iconst (pc := 120) (v := 1) d_Reader_isSign_120 (by rfl) ?_
    exact r_zret (pc := 121) rfl rfl d_Reader_isSign_121
  refine r_split (fun cq3 => ?_) (fun cq3 => ?_)
  · refine r_tableIn (pc := 1) (tgt := 120) d_Reader_isSign_1 (by rw [cq3]; decide) (by rw [cq3]; decide) (by rw [cq3] <;> rfl) (by rfl) ?_
    refine r_iconst (pc := 120) (v := 1) d_Reader_isSign_120 (by rfl) ?_
    exact r_zret (pc := 121) rfl rfl d_Reader_isSign_121
  refine r_split (fun cq4 => ?_) (fun cq4 => ?_)
  · refine r_tableIn (pc := 1) (tgt := 120) d_Reader_isSign_1 (by rw [cq4]; decide) (by rw [cq4]; decide) (by rw [cq4] <;> rfl) (by rfl) ?_
    refine r_iconst (pc := 120) (v := 1) d_Reader_isSign_120 (by rfl) ?_
    exact r_zret (pc := 121) rfl rfl d_Reader_isSign_121
  refine r_split (fun cq5 => ?_) (fun cq5 => ?_)
  · refine r_tableIn (pc := 1) (tgt := 120) d_Reader_isSign_1 (by rw [cq5]; decide) (by rw [cq5]; decide) (by rw [cq5] <;> rfl) (by rfl) ?_
    refine r_iconst (pc := 120) (v := 1) d_Reader_isSign_120 (by rfl) ?_
    exact r_zret (pc := 121) rfl rfl d_Reader_isSign_121
  refine r_split (fun cq6 => ?_) (fun cq6 => ?_)
  · refine r_tableIn (pc := 1) (tgt := 120) d_Reader_isSign_1 (by rw [cq6]; decide) (by rw [cq6]; decide) (by rw [cq6] <;> rfl) (by rfl) ?_
    refine r_iconst (pc := 120) (v := 1) d_Reader_isSign_120 (by rfl) ?_
    exact r_zret (pc := 121) rfl rfl d_Reader_isSign_121
  refine r_split (fun cq7 => ?_) (fun cq7 => ?_)
  · refine r_tableIn (pc := 1) (tgt := 120) d_Reader_isSign_1 (by rw [cq7]; decide) (by rw [cq7]; decide) (by rw [cq7] <;> rfl) (by rfl) ?_
    refine r_iconst (pc := 120) (v := 1) d_Reader_isSign_120 (by rfl) ?_
    exact r_zret (pc := 121) rfl rfl d_Reader_isSign_121
  refine r_split (fun cq8 => ?_) (fun cq8 => ?_)
  · refine r_tableIn (pc := 1) (tgt := 120) d_Reader_isSign_1 (by rw [cq8]; decide) (by rw [cq8]; decide) (by rw [cq8] <;> rfl) (by rfl) ?_
    refine r_iconst (pc := 120) (v := 1) d_Reader_isSign_120 (by rfl) ?_
    exact r_zret (pc := 121) rfl rfl d_Reader_isSign_121
  refine r_split (fun cq9 => ?_) (fun cq9 => ?_)
  · refine r_tableIn (pc := 1) (tgt := 120) d_Reader_isSign_1 (by rw [cq9]; decide) (by rw [cq9]; decide) (by rw [cq9] <;> rfl) (by rfl) ?_
    refine r_iconst (pc := 120) (v := 1) d_Reader_isSign_120 (by rfl) ?_
    exact r_zret (pc := 121) rfl rfl d_Reader_isSign_121
  refine r_split (fun cq10 => ?_) (fun cq10 => ?_)
  · refine r_tableIn (pc := 1) (tgt := 120) d_Reader_isSign_1 (by rw [cq10]; decide) (by rw [cq10]; decide) (by rw [cq10] <;> rfl) (by rfl) ?_
    refine r_iconst (pc := 120) (v := 1) d_Reader_isSign_120 (by rfl) ?_
    exact r_zret (pc := 121) rfl rfl d_Reader_isSign_121
  refine r_split (fun cq11 => ?_) (fun cq11 => ?_)
  · refine r_tableIn (pc := 1) (tgt := 120) d_Reader_isSign_1 (by rw [cq11]; decide) (by rw [cq11]; decide) (by rw [cq11] <;> rfl) (by rfl) ?_
    refine r_iconst (pc := 120) (v := 1) d_Reader_isSign_120 (by rfl) ?_
    exact r_zret (pc := 121) rfl rfl d_Reader_isSign_121
  refine r_tableD (pc := 1) (tgt := 122) d_Reader_isSign_1 [37, 40, 41, 42, 43, 45, 47, 59, 60, 61, 62] (List.forall_mem_cons.mpr ⟨lv_neT cq1 (show ((37 : Int32)).toInt = 37 from rfl), List.forall_mem_cons.mpr ⟨lv_neT cq2 (show ((40 : Int32)).toInt = 40 from rfl), List.forall_mem_cons.mpr ⟨lv_neT cq3 (show ((41 : Int32)).toInt = 41 from rfl), List.forall_mem_cons.mpr ⟨lv_neT cq4 (show ((42 : Int32)).toInt = 42 from rfl), List.forall_mem_cons.mpr ⟨lv_neT cq5 (show ((43 : Int32)).toInt = 43 from rfl), List.forall_mem_cons.mpr ⟨lv_neT cq6 (show ((45 : Int32)).toInt = 45 from rfl), List.forall_mem_cons.mpr ⟨lv_neT cq7 (show ((47 : Int32)).toInt = 47 from rfl), List.forall_mem_cons.mpr ⟨lv_neT cq8 (show ((59 : Int32)).toInt = 59 from rfl), List.forall_mem_cons.mpr ⟨lv_neT cq9 (show ((60 : Int32)).toInt = 60 from rfl), List.forall_mem_cons.mpr ⟨lv_neT cq10 (show ((61 : Int32)).toInt = 61 from rfl), List.forall_mem_cons.mpr ⟨lv_neT cq11 (show ((62 : Int32)).toInt = 62 from rfl), List.forall_mem_nil _⟩⟩⟩⟩⟩⟩⟩⟩⟩⟩⟩) (by decide) (by rfl) ?_
  refine r_iconst (pc := 122) (v := 0) d_Reader_isSign_122 (by rfl) ?_
  exact r_zret (pc := 123) rfl rfl d_Reader_isSign_123

def f_Reader_next_b47     (h : AH) : Option AH :=
  lt (sI h 1 5 (hI h 1 3)) fun hq1 =>
  if (hI hq1 1 3) < (hI hq1 1 9) then
    gx (hI hq1 1 3) 1600 <|
    lt (hI hq1 2 (ix (hI hq1 1 3))) fun xq3 =>
    bI (f_Reader_isLetter xq3 hq1) fun rq4 hq5 =>
    if rq4 = 0 then
      bI (f_Reader_isDigit xq3 hq5) fun rq6 hq7 =>
      if rq6 = 0 then
        bI (f_Reader_isSign xq3 hq7) fun rq8 hq9 =>
        if rq8 = 0 then
          bV (f_Reader_fail (1 : Int32) hq9) fun hq10 =>
          some hq10
        else
          lt (sI hq9 1 4 xq3) fun hq11 =>
          lt (sI hq11 1 3 ((hI hq11 1 3) + (1 : Int32))) fun hq12 =>
          some hq12
      else
        bV (f_Reader_readNumber hq7) fun hq13 =>
        some hq13
    else
      bV (f_Reader_readWord hq5) fun hq14 =>
      some hq14
  else
    lt (sI hq1 1 4 (0 : Int32)) fun hq15 =>
    some hq15
set_option maxHeartbeats 2000000 in
theorem o_Reader_next_b47 {G : AE} {n : Nat} (hn : NN ≤ n)     : ∀  (h : AH), AJ G n y_Reader_next (6) φV 47 [some (.ref 1), none] [] h (f_Reader_next_b47 h) := by
  intro  h
  rw [f_Reader_next_b47]
  refine r_aload_n (pc := 47) (i := 0) d_Reader_next_47 rfl rfl ?_
  refine r_aload_n (pc := 48) (i := 0) d_Reader_next_48 rfl rfl ?_
  refine r_getf (pc := 49) (ci := 9) (k := 3) (C := "CricketHay$Reader") (T := F_9) (N := 12) (v := .int (hI h 1 3)) (fun s => Std.k s (lc hn rfl) kq_1) rfl (Nat.le_of_ble_eq_true rfl) rfl w_39 (fun _ => rfl) d_Reader_next_49 ?_
  refine r_putI (pc := 52) (ci := 9) (k := 5) (C := "CricketHay$Reader") (T := F_9) (N := 12) (fun s => Std.k s (lc hn rfl) kq_1) rfl (Nat.le_of_ble_eq_true rfl) rfl rfl w_41 (fun _ _ => rfl) (fun _ => rfl) (fun _ => rfl) (fun s => Std.sI s _ _ _) d_Reader_next_52 ?_
  refine r_ltH (fun hq1 => ?_)
  refine r_aload_n (pc := 55) (i := 0) d_Reader_next_55 rfl rfl ?_
  refine r_getf (pc := 56) (ci := 9) (k := 3) (C := "CricketHay$Reader") (T := F_9) (N := 12) (v := .int (hI hq1 1 3)) (fun s => Std.k s (lc hn rfl) kq_1) rfl (Nat.le_of_ble_eq_true rfl) rfl w_39 (fun _ => rfl) d_Reader_next_56 ?_
  refine r_aload_n (pc := 59) (i := 0) d_Reader_next_59 rfl rfl ?_
  refine r_getf (pc := 60) (ci := 9) (k := 9) (C := "CricketHay$Reader") (T := F_9) (N := 12) (v := .int (hI hq1 1 9)) (fun s => Std.k s (lc hn rfl) kq_1) rfl (Nat.le_of_ble_eq_true rfl) rfl w_45 (fun _ => rfl) d_Reader_next_60 ?_
  refine r_icmp_lt (pc := 63) (tgt := 72) d_Reader_next_63 (by rfl) ?_ ?_
  · refine r_aload_n (pc := 72) (i := 0) d_Reader_next_72 rfl rfl ?_
    refine r_getf (pc := 73) (ci := 9) (k := 0) (C := "CricketHay$Reader") (T := F_9) (N := 12) (v := .ref 2) (fun s => Std.k s (lc hn rfl) kq_1) rfl (Nat.le_of_ble_eq_true rfl) rfl w_36 (fun s => vr rfl (Std.r s (lc hn rfl) rq_1_0)) d_Reader_next_73 ?_
    refine r_aload_n (pc := 76) (i := 0) d_Reader_next_76 rfl rfl ?_
    refine r_getf (pc := 77) (ci := 9) (k := 3) (C := "CricketHay$Reader") (T := F_9) (N := 12) (v := .int (hI hq1 1 3)) (fun s => Std.k s (lc hn rfl) kq_1) rfl (Nat.le_of_ble_eq_true rfl) rfl w_39 (fun _ => rfl) d_Reader_next_77 ?_
    refine r_gx (fun zq2 => ?_)
    refine r_iald (pc := 80) (n := 1600) (i0 := (ix (hI hq1 1 3))) (fun s => Std.k s (lc hn rfl) kq_2) zq2 rfl d_Reader_next_80 ?_
    refine r_ltI (fun xq3 => ?_)
    refine r_istore_n (pc := 81) (i := 1) (lv1 := [some (.ref 1), some (.int xq3)]) d_Reader_next_81 rfl (Nat.le_of_ble_eq_true rfl) rfl ?_
    refine r_iload_n (pc := 82) (i := 1) d_Reader_next_82 rfl rfl ?_
    refine r_cSi (pc := 83) (st := []) (ok_Reader_isLetter hn xq3 hq1) w_492 w_2 w_490 w_491 hy_Reader_isLetter ⟨Nat.le_of_ble_eq_true rfl, Nat.le_of_ble_eq_true rfl⟩ ⟨Nat.le_of_ble_eq_true rfl, Nat.le_of_ble_eq_true rfl⟩ rfl (Nat.le_of_ble_eq_true rfl) d_Reader_next_83 (fun rq4 hq5 => ?_)
    refine r_if_eq (pc := 86) (tgt := 96) d_Reader_next_86 (by rfl) ?_ ?_
    · refine r_iload_n (pc := 96) (i := 1) d_Reader_next_96 rfl rfl ?_
      refine r_cSi (pc := 97) (st := []) (ok_Reader_isDigit hn xq3 hq5) w_552 w_2 w_550 w_551 hy_Reader_isDigit ⟨Nat.le_of_ble_eq_true rfl, Nat.le_of_ble_eq_true rfl⟩ ⟨Nat.le_of_ble_eq_true rfl, Nat.le_of_ble_eq_true rfl⟩ rfl (Nat.le_of_ble_eq_true rfl) d_Reader_next_97 (fun rq6 hq7 => ?_)
      refine r_if_eq (pc := 100) (tgt := 110) d_Reader_next_100 (by rfl) ?_ ?_
      · refine r_iload_n (pc := 110) (i := 1) d_Reader_next_110 rfl rfl ?_
        refine r_cSi (pc := 111) (st := []) (ok_Reader_isSign hn xq3 hq7) w_559 w_2 w_557 w_558 hy_Reader_isSign ⟨Nat.le_of_ble_eq_true rfl, Nat.le_of_ble_eq_true rfl⟩ ⟨Nat.le_of_ble_eq_true rfl, Nat.le_of_ble_eq_true rfl⟩ rfl (Nat.le_of_ble_eq_true rfl) d_Reader_next_111 (fun rq8 hq9 => ?_)
        refine r_if_eq (pc := 114) (tgt := 135) d_Reader_next_114 (by rfl) ?_ ?_
        · refine r_aload_n (pc := 135) (i := 0) d_Reader_next_135 rfl rfl ?_
          refine r_iconst (pc := 136) (v := 1) d_Reader_next_136 (by rfl) ?_
          refine r_cVv (pc := 137) (T := F_9) (N := 12) (st := []) (ok_Reader_fail hn (1 : Int32) hq9) (fun s => Std.k s (lc hn rfl) kq_1) rfl w_500 w_2 w_497 w_499 ws_3 hy_Reader_fail ⟨Nat.le_of_ble_eq_true rfl, Nat.le_of_ble_eq_true rfl⟩ ⟨Nat.le_of_ble_eq_true rfl, Nat.le_of_ble_eq_true rfl⟩ rfl (Nat.le_of_ble_eq_true rfl) d_Reader_next_137 (fun hq10 => ?_)
          exact r_vret (pc := 140) rfl d_Reader_next_140
        · refine r_aload_n (pc := 117) (i := 0) d_Reader_next_117 rfl rfl ?_
          refine r_iload_n (pc := 118) (i := 1) d_Reader_next_118 rfl rfl ?_
          refine r_putI (pc := 119) (ci := 9) (k := 4) (C := "CricketHay$Reader") (T := F_9) (N := 12) (fun s => Std.k s (lc hn rfl) kq_1) rfl (Nat.le_of_ble_eq_true rfl) rfl rfl w_40 (fun _ _ => rfl) (fun _ => rfl) (fun _ => rfl) (fun s => Std.sI s _ _ _) d_Reader_next_119 ?_
          refine r_ltH (fun hq11 => ?_)
          refine r_aload_n (pc := 122) (i := 0) d_Reader_next_122 rfl rfl ?_
          refine r_dup (pc := 123) d_Reader_next_123 rfl ?_
          refine r_getf (pc := 124) (ci := 9) (k := 3) (C := "CricketHay$Reader") (T := F_9) (N := 12) (v := .int (hI hq11 1 3)) (fun s => Std.k s (lc hn rfl) kq_1) rfl (Nat.le_of_ble_eq_true rfl) rfl w_39 (fun _ => rfl) d_Reader_next_124 ?_
          refine r_iconst (pc := 127) (v := 1) d_Reader_next_127 (by rfl) ?_
          refine r_iadd (pc := 128) d_Reader_next_128 ?_
          refine r_putI (pc := 129) (ci := 9) (k := 3) (C := "CricketHay$Reader") (T := F_9) (N := 12) (fun s => Std.k s (lc hn rfl) kq_1) rfl (Nat.le_of_ble_eq_true rfl) rfl rfl w_39 (fun _ _ => rfl) (fun _ => rfl) (fun _ => rfl) (fun s => Std.sI s _ _ _) d_Reader_next_129 ?_
          refine r_ltH (fun hq12 => ?_)
          refine r_goto (pc := 132) (tgt := 140) d_Reader_next_132 (by rfl) ?_
          exact r_vret (pc := 140) rfl d_Reader_next_140
      · refine r_aload_n (pc := 103) (i := 0) d_Reader_next_103 rfl rfl ?_
        refine r_cVv (pc := 104) (T := F_9) (N := 12) (st := []) (ok_Reader_readNumber hn hq7) (fun s => Std.k s (lc hn rfl) kq_1) rfl w_556 w_2 w_553 w_555 ws_4 hy_Reader_readNumber ⟨Nat.le_of_ble_eq_true rfl, Nat.le_of_ble_eq_true rfl⟩ ⟨Nat.le_of_ble_eq_true rfl, Nat.le_of_ble_eq_true rfl⟩ rfl (Nat.le_of_ble_eq_true rfl) d_Reader_next_104 (fun hq13 => ?_)
        refine r_goto (pc := 107) (tgt := 140) d_Reader_next_107 (by rfl) ?_
        exact r_vret (pc := 140) rfl d_Reader_next_140
    · refine r_aload_n (pc := 89) (i := 0) d_Reader_next_89 rfl rfl ?_
      refine r_cVv (pc := 90) (T := F_9) (N := 12) (st := []) (ok_Reader_readWord hn hq5) (fun s => Std.k s (lc hn rfl) kq_1) rfl w_496 w_2 w_493 w_495 ws_2 hy_Reader_readWord ⟨Nat.le_of_ble_eq_true rfl, Nat.le_of_ble_eq_true rfl⟩ ⟨Nat.le_of_ble_eq_true rfl, Nat.le_of_ble_eq_true rfl⟩ rfl (Nat.le_of_ble_eq_true rfl) d_Reader_next_90 (fun hq14 => ?_)
      refine r_goto (pc := 93) (tgt := 140) d_Reader_next_93 (by rfl) ?_
      exact r_vret (pc := 140) rfl d_Reader_next_140
  · refine r_aload_n (pc := 66) (i := 0) d_Reader_next_66 rfl rfl ?_
    refine r_iconst (pc := 67) (v := 0) d_Reader_next_67 (by rfl) ?_
    refine r_putI (pc := 68) (ci := 9) (k := 4) (C := "CricketHay$Reader") (T := F_9) (N := 12) (fun s => Std.k s (lc hn rfl) kq_1) rfl (Nat.le_of_ble_eq_true rfl) rfl rfl w_40 (fun _ _ => rfl) (fun _ => rfl) (fun _ => rfl) (fun s => Std.sI s _ _ _) d_Reader_next_68 ?_
    refine r_ltH (fun hq15 => ?_)
    exact r_vret (pc := 71) rfl d_Reader_next_71
def f_Reader_next_l8    : Nat → AH → Option AH
  | 0, _ => none
  | n + 1, h =>
    if (hI h 1 9) ≤ (hI h 1 3) then
      f_Reader_next_b47 h
    else
      gx (hI h 1 3) 1600 <|
      bI (f_Reader_isBlank (hI h 2 (ix (hI h 1 3))) h) fun rq2 hq3 =>
      if rq2 = 0 then
        f_Reader_next_b47 hq3
      else
        lt (sI hq3 1 3 ((hI hq3 1 3) + (1 : Int32))) fun hq4 =>
        f_Reader_next_l8 n hq4
set_option maxHeartbeats 2000000 in
theorem o_Reader_next_l8 {G : AE} {n : Nat} (hn : NN ≤ n)     : ∀ (n0 : Nat)  (h : AH), AJ G n y_Reader_next (6) φV 8 [some (.ref 1), none] [] h (f_Reader_next_l8 n0 h) := by
  intro n0
  induction n0 with
  | zero => intros; exact r_none
  | succ n0 ih =>
    intro  h
    rw [f_Reader_next_l8]
    refine r_aload_n (pc := 8) (i := 0) d_Reader_next_8 rfl rfl ?_
    refine r_getf (pc := 9) (ci := 9) (k := 3) (C := "CricketHay$Reader") (T := F_9) (N := 12) (v := .int (hI h 1 3)) (fun s => Std.k s (lc hn rfl) kq_1) rfl (Nat.le_of_ble_eq_true rfl) rfl w_39 (fun _ => rfl) d_Reader_next_9 ?_
    refine r_aload_n (pc := 12) (i := 0) d_Reader_next_12 rfl rfl ?_
    refine r_getf (pc := 13) (ci := 9) (k := 9) (C := "CricketHay$Reader") (T := F_9) (N := 12) (v := .int (hI h 1 9)) (fun s => Std.k s (lc hn rfl) kq_1) rfl (Nat.le_of_ble_eq_true rfl) rfl w_45 (fun _ => rfl) d_Reader_next_13 ?_
    refine r_icmp_ge (pc := 16) (tgt := 47) d_Reader_next_16 (by rfl) ?_ ?_
    · exact r_wk (o_Reader_next_b47 hn h) ⟨rfl, trivial⟩
    · refine r_aload_n (pc := 19) (i := 0) d_Reader_next_19 rfl rfl ?_
      refine r_getf (pc := 20) (ci := 9) (k := 0) (C := "CricketHay$Reader") (T := F_9) (N := 12) (v := .ref 2) (fun s => Std.k s (lc hn rfl) kq_1) rfl (Nat.le_of_ble_eq_true rfl) rfl w_36 (fun s => vr rfl (Std.r s (lc hn rfl) rq_1_0)) d_Reader_next_20 ?_
      refine r_aload_n (pc := 23) (i := 0) d_Reader_next_23 rfl rfl ?_
      refine r_getf (pc := 24) (ci := 9) (k := 3) (C := "CricketHay$Reader") (T := F_9) (N := 12) (v := .int (hI h 1 3)) (fun s => Std.k s (lc hn rfl) kq_1) rfl (Nat.le_of_ble_eq_true rfl) rfl w_39 (fun _ => rfl) d_Reader_next_24 ?_
      refine r_gx (fun zq1 => ?_)
      refine r_iald (pc := 27) (n := 1600) (i0 := (ix (hI h 1 3))) (fun s => Std.k s (lc hn rfl) kq_2) zq1 rfl d_Reader_next_27 ?_
      refine r_cSi (pc := 28) (st := []) (ok_Reader_isBlank hn (hI h 2 (ix (hI h 1 3))) h) w_489 w_2 w_487 w_488 hy_Reader_isBlank ⟨Nat.le_of_ble_eq_true rfl, Nat.le_of_ble_eq_true rfl⟩ ⟨Nat.le_of_ble_eq_true rfl, Nat.le_of_ble_eq_true rfl⟩ rfl (Nat.le_of_ble_eq_true rfl) d_Reader_next_28 (fun rq2 hq3 => ?_)
      refine r_if_eq (pc := 31) (tgt := 47) d_Reader_next_31 (by rfl) ?_ ?_
      · exact r_wk (o_Reader_next_b47 hn hq3) ⟨rfl, trivial⟩
      · refine r_aload_n (pc := 34) (i := 0) d_Reader_next_34 rfl rfl ?_
        refine r_dup (pc := 35) d_Reader_next_35 rfl ?_
        refine r_getf (pc := 36) (ci := 9) (k := 3) (C := "CricketHay$Reader") (T := F_9) (N := 12) (v := .int (hI hq3 1 3)) (fun s => Std.k s (lc hn rfl) kq_1) rfl (Nat.le_of_ble_eq_true rfl) rfl w_39 (fun _ => rfl) d_Reader_next_36 ?_
        refine r_iconst (pc := 39) (v := 1) d_Reader_next_39 (by rfl) ?_
        refine r_iadd (pc := 40) d_Reader_next_40 ?_
        refine r_putI (pc := 41) (ci := 9) (k := 3) (C := "CricketHay$Reader") (T := F_9) (N := 12) (fun s => Std.k s (lc hn rfl) kq_1) rfl (Nat.le_of_ble_eq_true rfl) rfl rfl w_39 (fun _ _ => rfl) (fun _ => rfl) (fun _ => rfl) (fun s => Std.sI s _ _ _) d_Reader_next_41 ?_
        refine r_ltH (fun hq4 => ?_)
        refine r_goto (pc := 44) (tgt := 8) d_Reader_next_44 (by rfl) ?_
        exact r_wk (ih hq4) ⟨rfl, trivial⟩
def f_Reader_next   (h : AH) : Option AH :=
  if (hI h 1 10) = 0 then
    f_Reader_next_l8 FU h
  else
    some h
set_option maxHeartbeats 2000000 in
theorem ok_Reader_next {G : AE} {n : Nat} (hn : NN ≤ n)   (h : AH) : OK G n y_Reader_next (6) φV [.ref 1] h (f_Reader_next h) := by
  refine ok_of (y := y_Reader_next) (lv0 := [some (.ref 1), none]) (by decide +kernel) (Nat.le_of_ble_eq_true rfl) ⟨rfl, trivial⟩ ?_
  rw [f_Reader_next]
  refine r_aload_n (pc := 0) (i := 0) d_Reader_next_0 rfl rfl ?_
  refine r_getf (pc := 1) (ci := 9) (k := 10) (C := "CricketHay$Reader") (T := F_9) (N := 12) (v := .int (hI h 1 10)) (fun s => Std.k s (lc hn rfl) kq_1) rfl (Nat.le_of_ble_eq_true rfl) rfl w_47 (fun _ => rfl) d_Reader_next_1 ?_
  refine r_if_eq (pc := 4) (tgt := 8) d_Reader_next_4 (by rfl) ?_ ?_
  · exact r_wk (o_Reader_next_l8 hn FU h) ⟨rfl, trivial⟩
  · exact r_vret (pc := 7) rfl d_Reader_next_7

def f_Reader_isFirst_b22  (a1 : Int32)  (x2 : Int32) (v0 : Int32) (h : AH) : Option (Int32 × AH) :=
  lt (sI h 1 8 ((hI h 1 8) ||| x2)) fun hq1 =>
  gb v0 <|
  some (v0, hq1)
set_option maxHeartbeats 2000000 in
theorem o_Reader_isFirst_b22 {G : AE} {n : Nat} (hn : NN ≤ n)  {a1 : Int32}   : ∀ (x2 : Int32) (v0 : Int32) (h : AH), AJ G n y_Reader_isFirst (1) φI 22 [some (.ref 1), none, some (.int x2), none] [.int v0] h (f_Reader_isFirst_b22 a1 x2 v0 h) := by
  intro x2 v0 h
  rw [f_Reader_isFirst_b22]
  refine r_istore_n (pc := 22) (i := 3) (lv1 := [some (.ref 1), none, some (.int x2), some (.int v0)]) d_Reader_isFirst_22 rfl (Nat.le_of_ble_eq_true rfl) rfl ?_
  refine r_aload_n (pc := 23) (i := 0) d_Reader_isFirst_23 rfl rfl ?_
  refine r_dup (pc := 24) d_Reader_isFirst_24 rfl ?_
  refine r_getf (pc := 25) (ci := 9) (k := 8) (C := "CricketHay$Reader") (T := F_9) (N := 12) (v := .int (hI h 1 8)) (fun s => Std.k s (lc hn rfl) kq_1) rfl (Nat.le_of_ble_eq_true rfl) rfl w_44 (fun _ => rfl) d_Reader_isFirst_25 ?_
  refine r_iload_n (pc := 28) (i := 2) d_Reader_isFirst_28 rfl rfl ?_
  refine r_ior (pc := 29) d_Reader_isFirst_29 ?_
  refine r_putI (pc := 30) (ci := 9) (k := 8) (C := "CricketHay$Reader") (T := F_9) (N := 12) (fun s => Std.k s (lc hn rfl) kq_1) rfl (Nat.le_of_ble_eq_true rfl) rfl rfl w_44 (fun _ _ => rfl) (fun _ => rfl) (fun _ => rfl) (fun s => Std.sI s _ _ _) d_Reader_isFirst_30 ?_
  refine r_ltH (fun hq1 => ?_)
  refine r_iload_n (pc := 33) (i := 3) d_Reader_isFirst_33 rfl rfl ?_
  refine r_gb (fun zq2 => ?_)
  exact r_zret (pc := 34) rfl zq2 d_Reader_isFirst_34
def f_Reader_isFirst  (a1 : Int32) (h : AH) : Option (Int32 × AH) :=
  lt ((1 : Int32) <<< ((a1 - (256 : Int32)) &&& 31)) fun xq1 =>
  if ¬ ((hI h 1 8) &&& xq1) = 0 then
    f_Reader_isFirst_b22 a1 xq1 (0 : Int32) h
  else
    f_Reader_isFirst_b22 a1 xq1 (1 : Int32) h
set_option maxHeartbeats 2000000 in
theorem ok_Reader_isFirst {G : AE} {n : Nat} (hn : NN ≤ n)  (a1 : Int32) (h : AH) : OK G n y_Reader_isFirst (1) φI [.ref 1, .int a1] h (f_Reader_isFirst a1 h) := by
  refine ok_of (y := y_Reader_isFirst) (lv0 := [some (.ref 1), some (.int a1), none, none]) (by decide +kernel) (Nat.le_of_ble_eq_true rfl) ⟨rfl, ⟨rfl, trivial⟩⟩ ?_
  rw [f_Reader_isFirst]
  refine r_iconst (pc := 0) (v := 1) d_Reader_isFirst_0 (by rfl) ?_
  refine r_iload_n (pc := 1) (i := 1) d_Reader_isFirst_1 rfl rfl ?_
  refine r_sipush (pc := 2) (v := 256) d_Reader_isFirst_2 (by rfl) ?_
  refine r_isub (pc := 5) d_Reader_isFirst_5 ?_
  refine r_ishl (pc := 6) d_Reader_isFirst_6 ?_
  refine r_ltI (fun xq1 => ?_)
  refine r_istore_n (pc := 7) (i := 2) (lv1 := [some (.ref 1), some (.int a1), some (.int xq1), none]) d_Reader_isFirst_7 rfl (Nat.le_of_ble_eq_true rfl) rfl ?_
  refine r_aload_n (pc := 8) (i := 0) d_Reader_isFirst_8 rfl rfl ?_
  refine r_getf (pc := 9) (ci := 9) (k := 8) (C := "CricketHay$Reader") (T := F_9) (N := 12) (v := .int (hI h 1 8)) (fun s => Std.k s (lc hn rfl) kq_1) rfl (Nat.le_of_ble_eq_true rfl) rfl w_44 (fun _ => rfl) d_Reader_isFirst_9 ?_
  refine r_iload_n (pc := 12) (i := 2) d_Reader_isFirst_12 rfl rfl ?_
  refine r_iand (pc := 13) d_Reader_isFirst_13 ?_
  refine r_if_ne (pc := 14) (tgt := 21) d_Reader_isFirst_14 (by rfl) ?_ ?_
  · refine r_iconst (pc := 21) (v := 0) d_Reader_isFirst_21 (by rfl) ?_
    exact r_wk (o_Reader_isFirst_b22 hn xq1 (0 : Int32) h) ⟨rfl, ⟨rfl, trivial⟩⟩
  · refine r_iconst (pc := 17) (v := 1) d_Reader_isFirst_17 (by rfl) ?_
    refine r_goto (pc := 18) (tgt := 22) d_Reader_isFirst_18 (by rfl) ?_
    exact r_wk (o_Reader_isFirst_b22 hn xq1 (1 : Int32) h) ⟨rfl, ⟨rfl, trivial⟩⟩

def f_Reader_mayStand  (a1 : Int32) (h : AH) : Option (Int32 × AH) :=
  if a1 = (256 : Int32) then
    gd h 1 1 7 fun cq2 =>
    if (3 : Int32) ≤ (hI h cq2 10) then
      some ((0 : Int32), h)
    else
      some ((1 : Int32), h)
  else
  if a1 = (257 : Int32) then
    gd h 1 1 7 fun cq4 =>
    if (6 : Int32) ≤ (hI h cq4 11) then
      some ((0 : Int32), h)
    else
      some ((1 : Int32), h)
  else
  if a1 = (264 : Int32) then
    bI (f_Reader_isFirst a1 h) fun rq6 hq7 =>
    gb rq6 <|
    some (rq6, hq7)
  else
  if a1 = (265 : Int32) then
    bI (f_Reader_isFirst a1 h) fun rq10 hq11 =>
    gb rq10 <|
    some (rq10, hq11)
  else
  if a1 = (266 : Int32) then
    bI (f_Reader_isFirst a1 h) fun rq14 hq15 =>
    gb rq14 <|
    some (rq14, hq15)
  else
  if a1 = (267 : Int32) then
    bI (f_Reader_isFirst a1 h) fun rq18 hq19 =>
    gb rq18 <|
    some (rq18, hq19)
  else
  if a1 = (268 : Int32) then
    bI (f_Reader_isFirst a1 h) fun rq22 hq23 =>
    gb rq22 <|
    some (rq22, hq23)
  else
    some ((0 : Int32), h)
set_option maxHeartbeats 2000000 in
theorem ok_Reader_mayStand {G : AE} {n : Nat} (hn : NN ≤ n)  (a1 : Int32) (h : AH) : OK G n y_Reader_mayStand (2) φI [.ref 1, .int a1] h (f_Reader_mayStand a1 h) := by
  refine ok_of (y := y_Reader_mayStand) (lv0 := [some (.ref 1), some (.int a1)]) (by decide +kernel) (Nat.le_of_ble_eq_true rfl) ⟨rfl, ⟨rfl, trivial⟩⟩ ?_
  rw [f_Reader_mayStand]
  refine r_iload_n (pc := 0) (i := 1) d_Reader_mayStand_0 rfl rfl ?_
  refine r_split (fun cq1 => ?_) (fun cq1 => ?_)
  · refine r_tableIn (pc := 1) (tgt := 68) d_Reader_mayStand_1 (by rw [cq1]; decide) (by rw [cq1]; decide) (by rw [cq1] <;> rfl) (by rfl) ?_
    refine r_aload_n (pc := 68) (i := 0) d_Reader_mayStand_68 rfl rfl ?_
    refine r_gd (fun cq2 rcq2 kcq2 => ?_)
    refine r_getf (pc := 69) (ci := 9) (k := 1) (C := "CricketHay$Reader") (T := F_9) (N := 12) (v := .ref cq2) (fun s => Std.k s (lc hn rfl) kq_1) rfl (Nat.le_of_ble_eq_true rfl) rfl w_37 (fun _ => vr rfl rcq2) d_Reader_mayStand_69 ?_
    refine r_getf (pc := 72) (ci := 7) (k := 10) (C := "CricketHay$Market") (T := F_7) (N := 16) (v := .int (hI h cq2 10)) (fun s => Std.k s (ltn (cm hn) (kl_M kcq2)) kcq2) rfl (Nat.le_of_ble_eq_true rfl) rfl w_150 (fun _ => rfl) d_Reader_mayStand_72 ?_
    refine r_iconst (pc := 75) (v := 3) d_Reader_mayStand_75 (by rfl) ?_
    refine r_icmp_ge (pc := 76) (tgt := 83) d_Reader_mayStand_76 (by rfl) ?_ ?_
    · refine r_iconst (pc := 83) (v := 0) d_Reader_mayStand_83 (by rfl) ?_
      exact r_zret (pc := 84) rfl rfl d_Reader_mayStand_84
    · refine r_iconst (pc := 79) (v := 1) d_Reader_mayStand_79 (by rfl) ?_
      refine r_goto (pc := 80) (tgt := 84) d_Reader_mayStand_80 (by rfl) ?_
      exact r_zret (pc := 84) rfl rfl d_Reader_mayStand_84
  refine r_split (fun cq3 => ?_) (fun cq3 => ?_)
  · refine r_tableIn (pc := 1) (tgt := 85) d_Reader_mayStand_1 (by rw [cq3]; decide) (by rw [cq3]; decide) (by rw [cq3] <;> rfl) (by rfl) ?_
    refine r_aload_n (pc := 85) (i := 0) d_Reader_mayStand_85 rfl rfl ?_
    refine r_gd (fun cq4 rcq4 kcq4 => ?_)
    refine r_getf (pc := 86) (ci := 9) (k := 1) (C := "CricketHay$Reader") (T := F_9) (N := 12) (v := .ref cq4) (fun s => Std.k s (lc hn rfl) kq_1) rfl (Nat.le_of_ble_eq_true rfl) rfl w_37 (fun _ => vr rfl rcq4) d_Reader_mayStand_86 ?_
    refine r_getf (pc := 89) (ci := 7) (k := 11) (C := "CricketHay$Market") (T := F_7) (N := 16) (v := .int (hI h cq4 11)) (fun s => Std.k s (ltn (cm hn) (kl_M kcq4)) kcq4) rfl (Nat.le_of_ble_eq_true rfl) rfl w_157 (fun _ => rfl) d_Reader_mayStand_89 ?_
    refine r_bipush (pc := 92) (v := 6) d_Reader_mayStand_92 (by rfl) ?_
    refine r_icmp_ge (pc := 94) (tgt := 101) d_Reader_mayStand_94 (by rfl) ?_ ?_
    · refine r_iconst (pc := 101) (v := 0) d_Reader_mayStand_101 (by rfl) ?_
      exact r_zret (pc := 102) rfl rfl d_Reader_mayStand_102
    · refine r_iconst (pc := 97) (v := 1) d_Reader_mayStand_97 (by rfl) ?_
      refine r_goto (pc := 98) (tgt := 102) d_Reader_mayStand_98 (by rfl) ?_
      exact r_zret (pc := 102) rfl rfl d_Reader_mayStand_102
  refine r_split (fun cq5 => ?_) (fun cq5 => ?_)
  · refine r_tableIn (pc := 1) (tgt := 103) d_Reader_mayStand_1 (by rw [cq5]; decide) (by rw [cq5]; decide) (by rw [cq5] <;> rfl) (by rfl) ?_
    refine r_aload_n (pc := 103) (i := 0) d_Reader_mayStand_103 rfl rfl ?_
    refine r_iload_n (pc := 104) (i := 1) d_Reader_mayStand_104 rfl rfl ?_
    refine r_cVi (pc := 105) (T := F_9) (N := 12) (st := []) (ok_Reader_isFirst hn a1 h) (fun s => Std.k s (lc hn rfl) kq_1) rfl w_571 w_2 w_568 w_570 ws_7 hy_Reader_isFirst ⟨Nat.le_of_ble_eq_true rfl, Nat.le_of_ble_eq_true rfl⟩ ⟨Nat.le_of_ble_eq_true rfl, Nat.le_of_ble_eq_true rfl⟩ rfl (Nat.le_of_ble_eq_true rfl) d_Reader_mayStand_105 (fun rq6 hq7 => ?_)
    refine r_gb (fun zq8 => ?_)
    exact r_zret (pc := 108) rfl zq8 d_Reader_mayStand_108
  refine r_split (fun cq9 => ?_) (fun cq9 => ?_)
  · refine r_tableIn (pc := 1) (tgt := 103) d_Reader_mayStand_1 (by rw [cq9]; decide) (by rw [cq9]; decide) (by rw [cq9] <;> rfl) (by rfl) ?_
    refine r_aload_n (pc := 103) (i := 0) d_Reader_mayStand_103 rfl rfl ?_
    refine r_iload_n (pc := 104) (i := 1) d_Reader_mayStand_104 rfl rfl ?_
    refine r_cVi (pc := 105) (T := F_9) (N := 12) (st := []) (ok_Reader_isFirst hn a1 h) (fun s => Std.k s (lc hn rfl) kq_1) rfl w_571 w_2 w_568 w_570 ws_7 hy_Reader_isFirst ⟨Nat.le_of_ble_eq_true rfl, Nat.le_of_ble_eq_true rfl⟩ ⟨Nat.le_of_ble_eq_true rfl, Nat.le_of_ble_eq_true rfl⟩ rfl (Nat.le_of_ble_eq_true rfl) d_Reader_mayStand_105 (fun rq10 hq11 => ?_)
    refine r_gb (fun zq12 => ?_)
    exact r_zret (pc := 108) rfl zq12 d_Reader_mayStand_108
  refine r_split (fun cq13 => ?_) (fun cq13 => ?_)
  · refine r_tableIn (pc := 1) (tgt := 103) d_Reader_mayStand_1 (by rw [cq13]; decide) (by rw [cq13]; decide) (by rw [cq13] <;> rfl) (by rfl) ?_
    refine r_aload_n (pc := 103) (i := 0) d_Reader_mayStand_103 rfl rfl ?_
    refine r_iload_n (pc := 104) (i := 1) d_Reader_mayStand_104 rfl rfl ?_
    refine r_cVi (pc := 105) (T := F_9) (N := 12) (st := []) (ok_Reader_isFirst hn a1 h) (fun s => Std.k s (lc hn rfl) kq_1) rfl w_571 w_2 w_568 w_570 ws_7 hy_Reader_isFirst ⟨Nat.le_of_ble_eq_true rfl, Nat.le_of_ble_eq_true rfl⟩ ⟨Nat.le_of_ble_eq_true rfl, Nat.le_of_ble_eq_true rfl⟩ rfl (Nat.le_of_ble_eq_true rfl) d_Reader_mayStand_105 (fun rq14 hq15 => ?_)
    refine r_gb (fun zq16 => ?_)
    exact r_zret (pc := 108) rfl zq16 d_Reader_mayStand_108
  refine r_split (fun cq17 => ?_) (fun cq17 => ?_)
  · refine r_tableIn (pc := 1) (tgt := 103) d_Reader_mayStand_1 (by rw [cq17]; decide) (by rw [cq17]; decide) (by rw [cq17] <;> rfl) (by rfl) ?_
    refine r_aload_n (pc := 103) (i := 0) d_Reader_mayStand_103 rfl rfl ?_
    refine r_iload_n (pc := 104) (i := 1) d_Reader_mayStand_104 rfl rfl ?_
    refine r_cVi (pc := 105) (T := F_9) (N := 12) (st := []) (ok_Reader_isFirst hn a1 h) (fun s => Std.k s (lc hn rfl) kq_1) rfl w_571 w_2 w_568 w_570 ws_7 hy_Reader_isFirst ⟨Nat.le_of_ble_eq_true rfl, Nat.le_of_ble_eq_true rfl⟩ ⟨Nat.le_of_ble_eq_true rfl, Nat.le_of_ble_eq_true rfl⟩ rfl (Nat.le_of_ble_eq_true rfl) d_Reader_mayStand_105 (fun rq18 hq19 => ?_)
    refine r_gb (fun zq20 => ?_)
    exact r_zret (pc := 108) rfl zq20 d_Reader_mayStand_108
  refine r_split (fun cq21 => ?_) (fun cq21 => ?_)
  · refine r_tableIn (pc := 1) (tgt := 103) d_Reader_mayStand_1 (by rw [cq21]; decide) (by rw [cq21]; decide) (by rw [cq21] <;> rfl) (by rfl) ?_
    refine r_aload_n (pc := 103) (i := 0) d_Reader_mayStand_103 rfl rfl ?_
    refine r_iload_n (pc := 104) (i := 1) d_Reader_mayStand_104 rfl rfl ?_
    refine r_cVi (pc := 105) (T := F_9) (N := 12) (st := []) (ok_Reader_isFirst hn a1 h) (fun s => Std.k s (lc hn rfl) kq_1) rfl w_571 w_2 w_568 w_570 ws_7 hy_Reader_isFirst ⟨Nat.le_of_ble_eq_true rfl, Nat.le_of_ble_eq_true rfl⟩ ⟨Nat.le_of_ble_eq_true rfl, Nat.le_of_ble_eq_true rfl⟩ rfl (Nat.le_of_ble_eq_true rfl) d_Reader_mayStand_105 (fun rq22 hq23 => ?_)
    refine r_gb (fun zq24 => ?_)
    exact r_zret (pc := 108) rfl zq24 d_Reader_mayStand_108
  refine r_tableD (pc := 1) (tgt := 109) d_Reader_mayStand_1 [256, 257, 264, 265, 266, 267, 268] (List.forall_mem_cons.mpr ⟨lv_neT cq1 (show ((256 : Int32)).toInt = 256 from rfl), List.forall_mem_cons.mpr ⟨lv_neT cq3 (show ((257 : Int32)).toInt = 257 from rfl), List.forall_mem_cons.mpr ⟨lv_neT cq5 (show ((264 : Int32)).toInt = 264 from rfl), List.forall_mem_cons.mpr ⟨lv_neT cq9 (show ((265 : Int32)).toInt = 265 from rfl), List.forall_mem_cons.mpr ⟨lv_neT cq13 (show ((266 : Int32)).toInt = 266 from rfl), List.forall_mem_cons.mpr ⟨lv_neT cq17 (show ((267 : Int32)).toInt = 267 from rfl), List.forall_mem_cons.mpr ⟨lv_neT cq21 (show ((268 : Int32)).toInt = 268 from rfl), List.forall_mem_nil _⟩⟩⟩⟩⟩⟩⟩) (by decide) (by rfl) ?_
  refine r_iconst (pc := 109) (v := 0) d_Reader_mayStand_109 (by rfl) ?_
  exact r_zret (pc := 110) rfl rfl d_Reader_mayStand_110

def f_Reader_isNewName_l23  (a1 : Nat) (a2 : Int32)  : Nat → Int32 → AH → Option (Int32 × AH)
  | 0, _, _ => none
  | n + 1, x3, h =>
    if a2 ≤ x3 then
      some ((1 : Int32), h)
    else
      gk a1 2 fun nq1 =>
      gx x3 nq1 <|
      if ¬ (lg_cmp (hL h a1 (ix x3)) (hL h 1 7)) = 0 then
        lt (x3 + (1 : Int32)) fun xq3 =>
        f_Reader_isNewName_l23 a1 a2 n xq3 h
      else
        bV (f_Reader_fail (3 : Int32) h) fun hq4 =>
        some ((0 : Int32), hq4)
set_option maxHeartbeats 2000000 in
theorem o_Reader_isNewName_l23 {G : AE} {n : Nat} (hn : NN ≤ n)  {a1 : Nat} {a2 : Int32}   : ∀ (n0 : Nat) (x3 : Int32) (h : AH), AJ G n y_Reader_isNewName (2) φI 23 [some (.ref 1), some (.ref a1), some (.int a2), some (.int x3)] [] h (f_Reader_isNewName_l23 a1 a2 n0 x3 h) := by
  intro n0
  induction n0 with
  | zero => intros; exact r_none
  | succ n0 ih =>
    intro x3 h
    rw [f_Reader_isNewName_l23]
    refine r_iload_n (pc := 23) (i := 3) d_Reader_isNewName_23 rfl rfl ?_
    refine r_iload_n (pc := 24) (i := 2) d_Reader_isNewName_24 rfl rfl ?_
    refine r_icmp_ge (pc := 25) (tgt := 52) d_Reader_isNewName_25 (by rfl) ?_ ?_
    · refine r_iconst (pc := 52) (v := 1) d_Reader_isNewName_52 (by rfl) ?_
      exact r_zret (pc := 53) rfl rfl d_Reader_isNewName_53
    · refine r_aload_n (pc := 28) (i := 1) d_Reader_isNewName_28 rfl rfl ?_
      refine r_iload_n (pc := 29) (i := 3) d_Reader_isNewName_29 rfl rfl ?_
      refine r_gk (fun nq1 knq1 => ?_)
      refine r_gx (fun zq2 => ?_)
      refine r_lald (pc := 30) (n := nq1) (i0 := (ix x3)) (fun s => Std.k s (Nat.lt_of_lt_of_le (kd_ar knq1 (by decide)) hn) knq1) zq2 rfl d_Reader_isNewName_30 ?_
      refine r_aload_n (pc := 31) (i := 0) d_Reader_isNewName_31 rfl rfl ?_
      refine r_getf (pc := 32) (ci := 9) (k := 7) (C := "CricketHay$Reader") (T := F_9) (N := 12) (v := .long (hL h 1 7)) (fun s => Std.k s (lc hn rfl) kq_1) rfl (Nat.le_of_ble_eq_true rfl) rfl w_43 (fun _ => rfl) d_Reader_isNewName_32 ?_
      refine r_lcmp (pc := 35) d_Reader_isNewName_35 ?_
      refine r_if_ne (pc := 36) (tgt := 46) d_Reader_isNewName_36 (by rfl) ?_ ?_
      · refine r_ltE (fun xq3 exq3 => ?_)
        refine r_iinc (pc := 46) (v := xq3) (lv1 := [some (.ref 1), some (.ref a1), some (.int a2), some (.int xq3)]) d_Reader_isNewName_46 rfl exq3.symm (Nat.le_of_ble_eq_true rfl) rfl ?_
        refine r_goto (pc := 49) (tgt := 23) d_Reader_isNewName_49 (by rfl) ?_
        exact r_wk (ih xq3 h) ⟨rfl, ⟨rfl, ⟨rfl, ⟨rfl, trivial⟩⟩⟩⟩
      · refine r_aload_n (pc := 39) (i := 0) d_Reader_isNewName_39 rfl rfl ?_
        refine r_iconst (pc := 40) (v := 3) d_Reader_isNewName_40 (by rfl) ?_
        refine r_cVv (pc := 41) (T := F_9) (N := 12) (st := []) (ok_Reader_fail hn (3 : Int32) h) (fun s => Std.k s (lc hn rfl) kq_1) rfl w_500 w_2 w_497 w_499 ws_3 hy_Reader_fail ⟨Nat.le_of_ble_eq_true rfl, Nat.le_of_ble_eq_true rfl⟩ ⟨Nat.le_of_ble_eq_true rfl, Nat.le_of_ble_eq_true rfl⟩ rfl (Nat.le_of_ble_eq_true rfl) d_Reader_isNewName_41 (fun hq4 => ?_)
        refine r_iconst (pc := 44) (v := 0) d_Reader_isNewName_44 (by rfl) ?_
        exact r_zret (pc := 45) rfl rfl d_Reader_isNewName_45
def f_Reader_isNewName_b14  (a1 : Nat) (a2 : Int32)   (h : AH) : Option (Int32 × AH) :=
  bV (f_Reader_fail (2 : Int32) h) fun hq1 =>
  some ((0 : Int32), hq1)
set_option maxHeartbeats 2000000 in
theorem o_Reader_isNewName_b14 {G : AE} {n : Nat} (hn : NN ≤ n)  {a1 : Nat} {a2 : Int32}   : ∀  (h : AH), AJ G n y_Reader_isNewName (2) φI 14 [some (.ref 1), none, none, none] [] h (f_Reader_isNewName_b14 a1 a2 h) := by
  intro  h
  rw [f_Reader_isNewName_b14]
  refine r_aload_n (pc := 14) (i := 0) d_Reader_isNewName_14 rfl rfl ?_
  refine r_iconst (pc := 15) (v := 2) d_Reader_isNewName_15 (by rfl) ?_
  refine r_cVv (pc := 16) (T := F_9) (N := 12) (st := []) (ok_Reader_fail hn (2 : Int32) h) (fun s => Std.k s (lc hn rfl) kq_1) rfl w_500 w_2 w_497 w_499 ws_3 hy_Reader_fail ⟨Nat.le_of_ble_eq_true rfl, Nat.le_of_ble_eq_true rfl⟩ ⟨Nat.le_of_ble_eq_true rfl, Nat.le_of_ble_eq_true rfl⟩ rfl (Nat.le_of_ble_eq_true rfl) d_Reader_isNewName_16 (fun hq1 => ?_)
  refine r_iconst (pc := 19) (v := 0) d_Reader_isNewName_19 (by rfl) ?_
  exact r_zret (pc := 20) rfl rfl d_Reader_isNewName_20
def f_Reader_isNewName  (a1 : Nat) (a2 : Int32) (h : AH) : Option (Int32 × AH) :=
  if ¬ (hI h 1 4) = (2 : Int32) then
    f_Reader_isNewName_b14 a1 a2 h
  else
    gk a1 2 fun nq1 =>
    if a2 < (nI nq1) then
      f_Reader_isNewName_l23 a1 a2 FU (0 : Int32) h
    else
      f_Reader_isNewName_b14 a1 a2 h
set_option maxHeartbeats 2000000 in
theorem ok_Reader_isNewName {G : AE} {n : Nat} (hn : NN ≤ n)  (a1 : Nat) (a2 : Int32) (h : AH) : OK G n y_Reader_isNewName (2) φI [.ref 1, .ref a1, .int a2] h (f_Reader_isNewName a1 a2 h) := by
  refine ok_of (y := y_Reader_isNewName) (lv0 := [some (.ref 1), some (.ref a1), some (.int a2), none]) (by decide +kernel) (Nat.le_of_ble_eq_true rfl) ⟨rfl, ⟨rfl, ⟨rfl, trivial⟩⟩⟩ ?_
  rw [f_Reader_isNewName]
  refine r_aload_n (pc := 0) (i := 0) d_Reader_isNewName_0 rfl rfl ?_
  refine r_getf (pc := 1) (ci := 9) (k := 4) (C := "CricketHay$Reader") (T := F_9) (N := 12) (v := .int (hI h 1 4)) (fun s => Std.k s (lc hn rfl) kq_1) rfl (Nat.le_of_ble_eq_true rfl) rfl w_40 (fun _ => rfl) d_Reader_isNewName_1 ?_
  refine r_iconst (pc := 4) (v := 2) d_Reader_isNewName_4 (by rfl) ?_
  refine r_icmp_ne (pc := 5) (tgt := 14) d_Reader_isNewName_5 (by rfl) ?_ ?_
  · exact r_wk (o_Reader_isNewName_b14 hn h) ⟨rfl, trivial⟩
  · refine r_iload_n (pc := 8) (i := 2) d_Reader_isNewName_8 rfl rfl ?_
    refine r_aload_n (pc := 9) (i := 1) d_Reader_isNewName_9 rfl rfl ?_
    refine r_gk (fun nq1 knq1 => ?_)
    refine r_alen (pc := 10) (n := nq1) (fun s => Std.k s (Nat.lt_of_lt_of_le (kd_ar knq1 (by decide)) hn) knq1) d_Reader_isNewName_10 ?_
    refine r_icmp_lt (pc := 11) (tgt := 21) d_Reader_isNewName_11 (by rfl) ?_ ?_
    · refine r_iconst (pc := 21) (v := 0) d_Reader_isNewName_21 (by rfl) ?_
      refine r_istore_n (pc := 22) (i := 3) (lv1 := [some (.ref 1), some (.ref a1), some (.int a2), some (.int (0 : Int32))]) d_Reader_isNewName_22 rfl (Nat.le_of_ble_eq_true rfl) rfl ?_
      exact r_wk (o_Reader_isNewName_l23 hn FU (0 : Int32) h) ⟨rfl, ⟨rfl, ⟨rfl, ⟨rfl, trivial⟩⟩⟩⟩
    · exact r_wk (o_Reader_isNewName_b14 hn h) ⟨rfl, trivial⟩

def f_Reader_readKind   (h : AH) : Option AH :=
  gd h 1 1 7 fun cq1 =>
  gd h 1 1 7 fun cq2 =>
  bI (f_Reader_isNewName (cq1 + 1) (hI h cq2 10) h) fun rq3 hq4 =>
  if rq3 = 0 then
    some hq4
  else
    gd hq4 1 1 7 fun cq5 =>
    gd hq4 1 1 7 fun cq6 =>
    gx (hI hq4 cq6 10) 3 <|
    lt (sL hq4 (cq5 + 1) (ix (hI hq4 cq6 10)) (hL hq4 1 7)) fun hq8 =>
    gd hq8 1 1 7 fun cq9 =>
    lt (sI hq8 cq9 10 ((hI hq8 cq9 10) + (1 : Int32))) fun hq10 =>
    bV (f_Reader_next hq10) fun hq11 =>
    some hq11
set_option maxHeartbeats 2000000 in
theorem ok_Reader_readKind {G : AE} {n : Nat} (hn : NN ≤ n)   (h : AH) : OK G n y_Reader_readKind (7) φV [.ref 1] h (f_Reader_readKind h) := by
  refine ok_of (y := y_Reader_readKind) (lv0 := [some (.ref 1)]) (by decide +kernel) (Nat.le_of_ble_eq_true rfl) ⟨rfl, trivial⟩ ?_
  rw [f_Reader_readKind]
  refine r_aload_n (pc := 0) (i := 0) d_Reader_readKind_0 rfl rfl ?_
  refine r_aload_n (pc := 1) (i := 0) d_Reader_readKind_1 rfl rfl ?_
  refine r_gd (fun cq1 rcq1 kcq1 => ?_)
  refine r_getf (pc := 2) (ci := 9) (k := 1) (C := "CricketHay$Reader") (T := F_9) (N := 12) (v := .ref cq1) (fun s => Std.k s (lc hn rfl) kq_1) rfl (Nat.le_of_ble_eq_true rfl) rfl w_37 (fun _ => vr rfl rcq1) d_Reader_readKind_2 ?_
  refine r_getf (pc := 5) (ci := 7) (k := 0) (C := "CricketHay$Market") (T := F_7) (N := 16) (v := .ref (cq1 + 1)) (fun s => Std.k s (ltn (cm hn) (kl_M kcq1)) kcq1) rfl (Nat.le_of_ble_eq_true rfl) rfl w_117 (fun s => vr rfl (Std.r s (ltn (cm hn) (kl_M kcq1)) (rr_M_0 kcq1))) d_Reader_readKind_5 ?_
  refine r_aload_n (pc := 8) (i := 0) d_Reader_readKind_8 rfl rfl ?_
  refine r_gd (fun cq2 rcq2 kcq2 => ?_)
  refine r_getf (pc := 9) (ci := 9) (k := 1) (C := "CricketHay$Reader") (T := F_9) (N := 12) (v := .ref cq2) (fun s => Std.k s (lc hn rfl) kq_1) rfl (Nat.le_of_ble_eq_true rfl) rfl w_37 (fun _ => vr rfl rcq2) d_Reader_readKind_9 ?_
  refine r_getf (pc := 12) (ci := 7) (k := 10) (C := "CricketHay$Market") (T := F_7) (N := 16) (v := .int (hI h cq2 10)) (fun s => Std.k s (ltn (cm hn) (kl_M kcq2)) kcq2) rfl (Nat.le_of_ble_eq_true rfl) rfl w_150 (fun _ => rfl) d_Reader_readKind_12 ?_
  refine r_cVi (pc := 15) (T := F_9) (N := 12) (st := []) (ok_Reader_isNewName hn (cq1 + 1) (hI h cq2 10) h) (fun s => Std.k s (lc hn rfl) kq_1) rfl w_579 w_2 w_576 w_578 ws_9 hy_Reader_isNewName ⟨Nat.le_of_ble_eq_true rfl, Nat.le_of_ble_eq_true rfl⟩ ⟨Nat.le_of_ble_eq_true rfl, Nat.le_of_ble_eq_true rfl⟩ rfl (Nat.le_of_ble_eq_true rfl) d_Reader_readKind_15 (fun rq3 hq4 => ?_)
  refine r_if_eq (pc := 18) (tgt := 57) d_Reader_readKind_18 (by rfl) ?_ ?_
  · exact r_vret (pc := 57) rfl d_Reader_readKind_57
  · refine r_aload_n (pc := 21) (i := 0) d_Reader_readKind_21 rfl rfl ?_
    refine r_gd (fun cq5 rcq5 kcq5 => ?_)
    refine r_getf (pc := 22) (ci := 9) (k := 1) (C := "CricketHay$Reader") (T := F_9) (N := 12) (v := .ref cq5) (fun s => Std.k s (lc hn rfl) kq_1) rfl (Nat.le_of_ble_eq_true rfl) rfl w_37 (fun _ => vr rfl rcq5) d_Reader_readKind_22 ?_
    refine r_getf (pc := 25) (ci := 7) (k := 0) (C := "CricketHay$Market") (T := F_7) (N := 16) (v := .ref (cq5 + 1)) (fun s => Std.k s (ltn (cm hn) (kl_M kcq5)) kcq5) rfl (Nat.le_of_ble_eq_true rfl) rfl w_117 (fun s => vr rfl (Std.r s (ltn (cm hn) (kl_M kcq5)) (rr_M_0 kcq5))) d_Reader_readKind_25 ?_
    refine r_aload_n (pc := 28) (i := 0) d_Reader_readKind_28 rfl rfl ?_
    refine r_gd (fun cq6 rcq6 kcq6 => ?_)
    refine r_getf (pc := 29) (ci := 9) (k := 1) (C := "CricketHay$Reader") (T := F_9) (N := 12) (v := .ref cq6) (fun s => Std.k s (lc hn rfl) kq_1) rfl (Nat.le_of_ble_eq_true rfl) rfl w_37 (fun _ => vr rfl rcq6) d_Reader_readKind_29 ?_
    refine r_getf (pc := 32) (ci := 7) (k := 10) (C := "CricketHay$Market") (T := F_7) (N := 16) (v := .int (hI hq4 cq6 10)) (fun s => Std.k s (ltn (cm hn) (kl_M kcq6)) kcq6) rfl (Nat.le_of_ble_eq_true rfl) rfl w_150 (fun _ => rfl) d_Reader_readKind_32 ?_
    refine r_aload_n (pc := 35) (i := 0) d_Reader_readKind_35 rfl rfl ?_
    refine r_getf (pc := 36) (ci := 9) (k := 7) (C := "CricketHay$Reader") (T := F_9) (N := 12) (v := .long (hL hq4 1 7)) (fun s => Std.k s (lc hn rfl) kq_1) rfl (Nat.le_of_ble_eq_true rfl) rfl w_43 (fun _ => rfl) d_Reader_readKind_36 ?_
    refine r_gx (fun zq7 => ?_)
    refine r_last (pc := 39) (n := 3) (i0 := (ix (hI hq4 cq6 10))) (fun s => Std.k s (ltn (cm hn) (kj_M_0 kcq5)) (kk_M_0 kcq5)) zq7 rfl (fun s => Std.sL s _ _ _) d_Reader_readKind_39 ?_
    refine r_ltH (fun hq8 => ?_)
    refine r_aload_n (pc := 40) (i := 0) d_Reader_readKind_40 rfl rfl ?_
    refine r_gd (fun cq9 rcq9 kcq9 => ?_)
    refine r_getf (pc := 41) (ci := 9) (k := 1) (C := "CricketHay$Reader") (T := F_9) (N := 12) (v := .ref cq9) (fun s => Std.k s (lc hn rfl) kq_1) rfl (Nat.le_of_ble_eq_true rfl) rfl w_37 (fun _ => vr rfl rcq9) d_Reader_readKind_41 ?_
    refine r_dup (pc := 44) d_Reader_readKind_44 rfl ?_
    refine r_getf (pc := 45) (ci := 7) (k := 10) (C := "CricketHay$Market") (T := F_7) (N := 16) (v := .int (hI hq8 cq9 10)) (fun s => Std.k s (ltn (cm hn) (kl_M kcq9)) kcq9) rfl (Nat.le_of_ble_eq_true rfl) rfl w_150 (fun _ => rfl) d_Reader_readKind_45 ?_
    refine r_iconst (pc := 48) (v := 1) d_Reader_readKind_48 (by rfl) ?_
    refine r_iadd (pc := 49) d_Reader_readKind_49 ?_
    refine r_putI (pc := 50) (ci := 7) (k := 10) (C := "CricketHay$Market") (T := F_7) (N := 16) (fun s => Std.k s (ltn (cm hn) (kl_M kcq9)) kcq9) rfl (Nat.le_of_ble_eq_true rfl) rfl rfl w_150 (fun _ _ => rfl) (fun _ => rfl) (fun _ => rfl) (fun s => Std.sI s _ _ _) d_Reader_readKind_50 ?_
    refine r_ltH (fun hq10 => ?_)
    refine r_aload_n (pc := 53) (i := 0) d_Reader_readKind_53 rfl rfl ?_
    refine r_cVv (pc := 54) (T := F_9) (N := 12) (st := []) (ok_Reader_next hn hq10) (fun s => Std.k s (lc hn rfl) kq_1) rfl w_486 w_2 w_483 w_485 ws_1 hy_Reader_next ⟨Nat.le_of_ble_eq_true rfl, Nat.le_of_ble_eq_true rfl⟩ ⟨Nat.le_of_ble_eq_true rfl, Nat.le_of_ble_eq_true rfl⟩ rfl (Nat.le_of_ble_eq_true rfl) d_Reader_readKind_54 (fun hq11 => ?_)
    exact r_vret (pc := 57) rfl d_Reader_readKind_57

def f_Reader_need  (a1 : Int32) (h : AH) : Option AH :=
  if ¬ (hI h 1 4) = a1 then
    bV (f_Reader_fail (2 : Int32) h) fun hq1 =>
    some hq1
  else
    bV (f_Reader_next h) fun hq2 =>
    some hq2
set_option maxHeartbeats 2000000 in
theorem ok_Reader_need {G : AE} {n : Nat} (hn : NN ≤ n)  (a1 : Int32) (h : AH) : OK G n y_Reader_need (7) φV [.ref 1, .int a1] h (f_Reader_need a1 h) := by
  refine ok_of (y := y_Reader_need) (lv0 := [some (.ref 1), some (.int a1)]) (by decide +kernel) (Nat.le_of_ble_eq_true rfl) ⟨rfl, ⟨rfl, trivial⟩⟩ ?_
  rw [f_Reader_need]
  refine r_aload_n (pc := 0) (i := 0) d_Reader_need_0 rfl rfl ?_
  refine r_getf (pc := 1) (ci := 9) (k := 4) (C := "CricketHay$Reader") (T := F_9) (N := 12) (v := .int (hI h 1 4)) (fun s => Std.k s (lc hn rfl) kq_1) rfl (Nat.le_of_ble_eq_true rfl) rfl w_40 (fun _ => rfl) d_Reader_need_1 ?_
  refine r_iload_n (pc := 4) (i := 1) d_Reader_need_4 rfl rfl ?_
  refine r_icmp_ne (pc := 5) (tgt := 15) d_Reader_need_5 (by rfl) ?_ ?_
  · refine r_aload_n (pc := 15) (i := 0) d_Reader_need_15 rfl rfl ?_
    refine r_iconst (pc := 16) (v := 2) d_Reader_need_16 (by rfl) ?_
    refine r_cVv (pc := 17) (T := F_9) (N := 12) (st := []) (ok_Reader_fail hn (2 : Int32) h) (fun s => Std.k s (lc hn rfl) kq_1) rfl w_500 w_2 w_497 w_499 ws_3 hy_Reader_fail ⟨Nat.le_of_ble_eq_true rfl, Nat.le_of_ble_eq_true rfl⟩ ⟨Nat.le_of_ble_eq_true rfl, Nat.le_of_ble_eq_true rfl⟩ rfl (Nat.le_of_ble_eq_true rfl) d_Reader_need_17 (fun hq1 => ?_)
    exact r_vret (pc := 20) rfl d_Reader_need_20
  · refine r_aload_n (pc := 8) (i := 0) d_Reader_need_8 rfl rfl ?_
    refine r_cVv (pc := 9) (T := F_9) (N := 12) (st := []) (ok_Reader_next hn h) (fun s => Std.k s (lc hn rfl) kq_1) rfl w_486 w_2 w_483 w_485 ws_1 hy_Reader_next ⟨Nat.le_of_ble_eq_true rfl, Nat.le_of_ble_eq_true rfl⟩ ⟨Nat.le_of_ble_eq_true rfl, Nat.le_of_ble_eq_true rfl⟩ rfl (Nat.le_of_ble_eq_true rfl) d_Reader_need_9 (fun hq2 => ?_)
    refine r_goto (pc := 12) (tgt := 20) d_Reader_need_12 (by rfl) ?_
    exact r_vret (pc := 20) rfl d_Reader_need_20

def f_Reader_needKind_l17    : Nat → Int32 → AH → Option (Int32 × AH)
  | 0, _, _ => none
  | n + 1, x1, h =>
    gd h 1 1 7 fun cq1 =>
    if (hI h cq1 10) ≤ x1 then
      bV (f_Reader_fail (5 : Int32) h) fun hq2 =>
      some ((0 : Int32), hq2)
    else
      gd h 1 1 7 fun cq3 =>
      gx x1 3 <|
      if ¬ (lg_cmp (hL h (cq3 + 1) (ix x1)) (hL h 1 7)) = 0 then
        lt (x1 + (1 : Int32)) fun xq5 =>
        f_Reader_needKind_l17 n xq5 h
      else
        bV (f_Reader_next h) fun hq6 =>
        some (x1, hq6)
set_option maxHeartbeats 2000000 in
theorem o_Reader_needKind_l17 {G : AE} {n : Nat} (hn : NN ≤ n)     : ∀ (n0 : Nat) (x1 : Int32) (h : AH), AJ G n y_Reader_needKind (7) φI 17 [some (.ref 1), some (.int x1)] [] h (f_Reader_needKind_l17 n0 x1 h) := by
  intro n0
  induction n0 with
  | zero => intros; exact r_none
  | succ n0 ih =>
    intro x1 h
    rw [f_Reader_needKind_l17]
    refine r_iload_n (pc := 17) (i := 1) d_Reader_needKind_17 rfl rfl ?_
    refine r_aload_n (pc := 18) (i := 0) d_Reader_needKind_18 rfl rfl ?_
    refine r_gd (fun cq1 rcq1 kcq1 => ?_)
    refine r_getf (pc := 19) (ci := 9) (k := 1) (C := "CricketHay$Reader") (T := F_9) (N := 12) (v := .ref cq1) (fun s => Std.k s (lc hn rfl) kq_1) rfl (Nat.le_of_ble_eq_true rfl) rfl w_37 (fun _ => vr rfl rcq1) d_Reader_needKind_19 ?_
    refine r_getf (pc := 22) (ci := 7) (k := 10) (C := "CricketHay$Market") (T := F_7) (N := 16) (v := .int (hI h cq1 10)) (fun s => Std.k s (ltn (cm hn) (kl_M kcq1)) kcq1) rfl (Nat.le_of_ble_eq_true rfl) rfl w_150 (fun _ => rfl) d_Reader_needKind_22 ?_
    refine r_icmp_ge (pc := 25) (tgt := 57) d_Reader_needKind_25 (by rfl) ?_ ?_
    · refine r_aload_n (pc := 57) (i := 0) d_Reader_needKind_57 rfl rfl ?_
      refine r_iconst (pc := 58) (v := 5) d_Reader_needKind_58 (by rfl) ?_
      refine r_cVv (pc := 59) (T := F_9) (N := 12) (st := []) (ok_Reader_fail hn (5 : Int32) h) (fun s => Std.k s (lc hn rfl) kq_1) rfl w_500 w_2 w_497 w_499 ws_3 hy_Reader_fail ⟨Nat.le_of_ble_eq_true rfl, Nat.le_of_ble_eq_true rfl⟩ ⟨Nat.le_of_ble_eq_true rfl, Nat.le_of_ble_eq_true rfl⟩ rfl (Nat.le_of_ble_eq_true rfl) d_Reader_needKind_59 (fun hq2 => ?_)
      refine r_iconst (pc := 62) (v := 0) d_Reader_needKind_62 (by rfl) ?_
      exact r_iret (pc := 63) rfl d_Reader_needKind_63
    · refine r_aload_n (pc := 28) (i := 0) d_Reader_needKind_28 rfl rfl ?_
      refine r_gd (fun cq3 rcq3 kcq3 => ?_)
      refine r_getf (pc := 29) (ci := 9) (k := 1) (C := "CricketHay$Reader") (T := F_9) (N := 12) (v := .ref cq3) (fun s => Std.k s (lc hn rfl) kq_1) rfl (Nat.le_of_ble_eq_true rfl) rfl w_37 (fun _ => vr rfl rcq3) d_Reader_needKind_29 ?_
      refine r_getf (pc := 32) (ci := 7) (k := 0) (C := "CricketHay$Market") (T := F_7) (N := 16) (v := .ref (cq3 + 1)) (fun s => Std.k s (ltn (cm hn) (kl_M kcq3)) kcq3) rfl (Nat.le_of_ble_eq_true rfl) rfl w_117 (fun s => vr rfl (Std.r s (ltn (cm hn) (kl_M kcq3)) (rr_M_0 kcq3))) d_Reader_needKind_32 ?_
      refine r_iload_n (pc := 35) (i := 1) d_Reader_needKind_35 rfl rfl ?_
      refine r_gx (fun zq4 => ?_)
      refine r_lald (pc := 36) (n := 3) (i0 := (ix x1)) (fun s => Std.k s (ltn (cm hn) (kj_M_0 kcq3)) (kk_M_0 kcq3)) zq4 rfl d_Reader_needKind_36 ?_
      refine r_aload_n (pc := 37) (i := 0) d_Reader_needKind_37 rfl rfl ?_
      refine r_getf (pc := 38) (ci := 9) (k := 7) (C := "CricketHay$Reader") (T := F_9) (N := 12) (v := .long (hL h 1 7)) (fun s => Std.k s (lc hn rfl) kq_1) rfl (Nat.le_of_ble_eq_true rfl) rfl w_43 (fun _ => rfl) d_Reader_needKind_38 ?_
      refine r_lcmp (pc := 41) d_Reader_needKind_41 ?_
      refine r_if_ne (pc := 42) (tgt := 51) d_Reader_needKind_42 (by rfl) ?_ ?_
      · refine r_ltE (fun xq5 exq5 => ?_)
        refine r_iinc (pc := 51) (v := xq5) (lv1 := [some (.ref 1), some (.int xq5)]) d_Reader_needKind_51 rfl exq5.symm (Nat.le_of_ble_eq_true rfl) rfl ?_
        refine r_goto (pc := 54) (tgt := 17) d_Reader_needKind_54 (by rfl) ?_
        exact r_wk (ih xq5 h) ⟨rfl, ⟨rfl, trivial⟩⟩
      · refine r_aload_n (pc := 45) (i := 0) d_Reader_needKind_45 rfl rfl ?_
        refine r_cVv (pc := 46) (T := F_9) (N := 12) (st := []) (ok_Reader_next hn h) (fun s => Std.k s (lc hn rfl) kq_1) rfl w_486 w_2 w_483 w_485 ws_1 hy_Reader_next ⟨Nat.le_of_ble_eq_true rfl, Nat.le_of_ble_eq_true rfl⟩ ⟨Nat.le_of_ble_eq_true rfl, Nat.le_of_ble_eq_true rfl⟩ rfl (Nat.le_of_ble_eq_true rfl) d_Reader_needKind_46 (fun hq6 => ?_)
        refine r_iload_n (pc := 49) (i := 1) d_Reader_needKind_49 rfl rfl ?_
        exact r_iret (pc := 50) rfl d_Reader_needKind_50
def f_Reader_needKind   (h : AH) : Option (Int32 × AH) :=
  if (hI h 1 4) = (2 : Int32) then
    f_Reader_needKind_l17 FU (0 : Int32) h
  else
    bV (f_Reader_fail (2 : Int32) h) fun hq1 =>
    some ((0 : Int32), hq1)
set_option maxHeartbeats 2000000 in
theorem ok_Reader_needKind {G : AE} {n : Nat} (hn : NN ≤ n)   (h : AH) : OK G n y_Reader_needKind (7) φI [.ref 1] h (f_Reader_needKind h) := by
  refine ok_of (y := y_Reader_needKind) (lv0 := [some (.ref 1), none]) (by decide +kernel) (Nat.le_of_ble_eq_true rfl) ⟨rfl, trivial⟩ ?_
  rw [f_Reader_needKind]
  refine r_aload_n (pc := 0) (i := 0) d_Reader_needKind_0 rfl rfl ?_
  refine r_getf (pc := 1) (ci := 9) (k := 4) (C := "CricketHay$Reader") (T := F_9) (N := 12) (v := .int (hI h 1 4)) (fun s => Std.k s (lc hn rfl) kq_1) rfl (Nat.le_of_ble_eq_true rfl) rfl w_40 (fun _ => rfl) d_Reader_needKind_1 ?_
  refine r_iconst (pc := 4) (v := 2) d_Reader_needKind_4 (by rfl) ?_
  refine r_icmp_eq (pc := 5) (tgt := 15) d_Reader_needKind_5 (by rfl) ?_ ?_
  · refine r_iconst (pc := 15) (v := 0) d_Reader_needKind_15 (by rfl) ?_
    refine r_istore_n (pc := 16) (i := 1) (lv1 := [some (.ref 1), some (.int (0 : Int32))]) d_Reader_needKind_16 rfl (Nat.le_of_ble_eq_true rfl) rfl ?_
    exact r_wk (o_Reader_needKind_l17 hn FU (0 : Int32) h) ⟨rfl, ⟨rfl, trivial⟩⟩
  · refine r_aload_n (pc := 8) (i := 0) d_Reader_needKind_8 rfl rfl ?_
    refine r_iconst (pc := 9) (v := 2) d_Reader_needKind_9 (by rfl) ?_
    refine r_cVv (pc := 10) (T := F_9) (N := 12) (st := []) (ok_Reader_fail hn (2 : Int32) h) (fun s => Std.k s (lc hn rfl) kq_1) rfl w_500 w_2 w_497 w_499 ws_3 hy_Reader_fail ⟨Nat.le_of_ble_eq_true rfl, Nat.le_of_ble_eq_true rfl⟩ ⟨Nat.le_of_ble_eq_true rfl, Nat.le_of_ble_eq_true rfl⟩ rfl (Nat.le_of_ble_eq_true rfl) d_Reader_needKind_10 (fun hq1 => ?_)
    refine r_iconst (pc := 13) (v := 0) d_Reader_needKind_13 (by rfl) ?_
    exact r_iret (pc := 14) rfl d_Reader_needKind_14

def f_Reader_needNumber_b30  (a1 : Int32) (a2 : Int32)   (h : AH) : Option (Int32 × AH) :=
  bV (f_Reader_fail (4 : Int32) h) fun hq1 =>
  some ((0 : Int32), hq1)
set_option maxHeartbeats 2000000 in
theorem o_Reader_needNumber_b30 {G : AE} {n : Nat} (hn : NN ≤ n)  {a1 : Int32} {a2 : Int32}   : ∀  (h : AH), AJ G n y_Reader_needNumber (7) φI 30 [some (.ref 1), none, none, none] [] h (f_Reader_needNumber_b30 a1 a2 h) := by
  intro  h
  rw [f_Reader_needNumber_b30]
  refine r_aload_n (pc := 30) (i := 0) d_Reader_needNumber_30 rfl rfl ?_
  refine r_iconst (pc := 31) (v := 4) d_Reader_needNumber_31 (by rfl) ?_
  refine r_cVv (pc := 32) (T := F_9) (N := 12) (st := []) (ok_Reader_fail hn (4 : Int32) h) (fun s => Std.k s (lc hn rfl) kq_1) rfl w_500 w_2 w_497 w_499 ws_3 hy_Reader_fail ⟨Nat.le_of_ble_eq_true rfl, Nat.le_of_ble_eq_true rfl⟩ ⟨Nat.le_of_ble_eq_true rfl, Nat.le_of_ble_eq_true rfl⟩ rfl (Nat.le_of_ble_eq_true rfl) d_Reader_needNumber_32 (fun hq1 => ?_)
  refine r_iconst (pc := 35) (v := 0) d_Reader_needNumber_35 (by rfl) ?_
  exact r_iret (pc := 36) rfl d_Reader_needNumber_36
def f_Reader_needNumber  (a1 : Int32) (a2 : Int32) (h : AH) : Option (Int32 × AH) :=
  if (hI h 1 4) = (1 : Int32) then
    lt (hI h 1 6) fun xq1 =>
    if xq1 < a1 then
      f_Reader_needNumber_b30 a1 a2 h
    else
      if xq1 ≤ a2 then
        bV (f_Reader_next h) fun hq2 =>
        some (xq1, hq2)
      else
        f_Reader_needNumber_b30 a1 a2 h
  else
    bV (f_Reader_fail (2 : Int32) h) fun hq3 =>
    some ((0 : Int32), hq3)
set_option maxHeartbeats 2000000 in
theorem ok_Reader_needNumber {G : AE} {n : Nat} (hn : NN ≤ n)  (a1 : Int32) (a2 : Int32) (h : AH) : OK G n y_Reader_needNumber (7) φI [.ref 1, .int a1, .int a2] h (f_Reader_needNumber a1 a2 h) := by
  refine ok_of (y := y_Reader_needNumber) (lv0 := [some (.ref 1), some (.int a1), some (.int a2), none]) (by decide +kernel) (Nat.le_of_ble_eq_true rfl) ⟨rfl, ⟨rfl, ⟨rfl, trivial⟩⟩⟩ ?_
  rw [f_Reader_needNumber]
  refine r_aload_n (pc := 0) (i := 0) d_Reader_needNumber_0 rfl rfl ?_
  refine r_getf (pc := 1) (ci := 9) (k := 4) (C := "CricketHay$Reader") (T := F_9) (N := 12) (v := .int (hI h 1 4)) (fun s => Std.k s (lc hn rfl) kq_1) rfl (Nat.le_of_ble_eq_true rfl) rfl w_40 (fun _ => rfl) d_Reader_needNumber_1 ?_
  refine r_iconst (pc := 4) (v := 1) d_Reader_needNumber_4 (by rfl) ?_
  refine r_icmp_eq (pc := 5) (tgt := 15) d_Reader_needNumber_5 (by rfl) ?_ ?_
  · refine r_aload_n (pc := 15) (i := 0) d_Reader_needNumber_15 rfl rfl ?_
    refine r_getf (pc := 16) (ci := 9) (k := 6) (C := "CricketHay$Reader") (T := F_9) (N := 12) (v := .int (hI h 1 6)) (fun s => Std.k s (lc hn rfl) kq_1) rfl (Nat.le_of_ble_eq_true rfl) rfl w_42 (fun _ => rfl) d_Reader_needNumber_16 ?_
    refine r_ltI (fun xq1 => ?_)
    refine r_istore_n (pc := 19) (i := 3) (lv1 := [some (.ref 1), some (.int a1), some (.int a2), some (.int xq1)]) d_Reader_needNumber_19 rfl (Nat.le_of_ble_eq_true rfl) rfl ?_
    refine r_iload_n (pc := 20) (i := 3) d_Reader_needNumber_20 rfl rfl ?_
    refine r_iload_n (pc := 21) (i := 1) d_Reader_needNumber_21 rfl rfl ?_
    refine r_icmp_lt (pc := 22) (tgt := 30) d_Reader_needNumber_22 (by rfl) ?_ ?_
    · exact r_wk (o_Reader_needNumber_b30 hn h) ⟨rfl, trivial⟩
    · refine r_iload_n (pc := 25) (i := 3) d_Reader_needNumber_25 rfl rfl ?_
      refine r_iload_n (pc := 26) (i := 2) d_Reader_needNumber_26 rfl rfl ?_
      refine r_icmp_le (pc := 27) (tgt := 37) d_Reader_needNumber_27 (by rfl) ?_ ?_
      · refine r_aload_n (pc := 37) (i := 0) d_Reader_needNumber_37 rfl rfl ?_
        refine r_cVv (pc := 38) (T := F_9) (N := 12) (st := []) (ok_Reader_next hn h) (fun s => Std.k s (lc hn rfl) kq_1) rfl w_486 w_2 w_483 w_485 ws_1 hy_Reader_next ⟨Nat.le_of_ble_eq_true rfl, Nat.le_of_ble_eq_true rfl⟩ ⟨Nat.le_of_ble_eq_true rfl, Nat.le_of_ble_eq_true rfl⟩ rfl (Nat.le_of_ble_eq_true rfl) d_Reader_needNumber_38 (fun hq2 => ?_)
        refine r_iload_n (pc := 41) (i := 3) d_Reader_needNumber_41 rfl rfl ?_
        exact r_iret (pc := 42) rfl d_Reader_needNumber_42
      · exact r_wk (o_Reader_needNumber_b30 hn h) ⟨rfl, trivial⟩
  · refine r_aload_n (pc := 8) (i := 0) d_Reader_needNumber_8 rfl rfl ?_
    refine r_iconst (pc := 9) (v := 2) d_Reader_needNumber_9 (by rfl) ?_
    refine r_cVv (pc := 10) (T := F_9) (N := 12) (st := []) (ok_Reader_fail hn (2 : Int32) h) (fun s => Std.k s (lc hn rfl) kq_1) rfl w_500 w_2 w_497 w_499 ws_3 hy_Reader_fail ⟨Nat.le_of_ble_eq_true rfl, Nat.le_of_ble_eq_true rfl⟩ ⟨Nat.le_of_ble_eq_true rfl, Nat.le_of_ble_eq_true rfl⟩ rfl (Nat.le_of_ble_eq_true rfl) d_Reader_needNumber_10 (fun hq3 => ?_)
    refine r_iconst (pc := 13) (v := 0) d_Reader_needNumber_13 (by rfl) ?_
    exact r_iret (pc := 14) rfl d_Reader_needNumber_14

def f_Reader_take  (a1 : Int32) (h : AH) : Option (Int32 × AH) :=
  if (hI h 1 4) = a1 then
    bV (f_Reader_next h) fun hq1 =>
    some ((1 : Int32), hq1)
  else
    some ((0 : Int32), h)
set_option maxHeartbeats 2000000 in
theorem ok_Reader_take {G : AE} {n : Nat} (hn : NN ≤ n)  (a1 : Int32) (h : AH) : OK G n y_Reader_take (7) φI [.ref 1, .int a1] h (f_Reader_take a1 h) := by
  refine ok_of (y := y_Reader_take) (lv0 := [some (.ref 1), some (.int a1)]) (by decide +kernel) (Nat.le_of_ble_eq_true rfl) ⟨rfl, ⟨rfl, trivial⟩⟩ ?_
  rw [f_Reader_take]
  refine r_aload_n (pc := 0) (i := 0) d_Reader_take_0 rfl rfl ?_
  refine r_getf (pc := 1) (ci := 9) (k := 4) (C := "CricketHay$Reader") (T := F_9) (N := 12) (v := .int (hI h 1 4)) (fun s => Std.k s (lc hn rfl) kq_1) rfl (Nat.le_of_ble_eq_true rfl) rfl w_40 (fun _ => rfl) d_Reader_take_1 ?_
  refine r_iload_n (pc := 4) (i := 1) d_Reader_take_4 rfl rfl ?_
  refine r_icmp_eq (pc := 5) (tgt := 10) d_Reader_take_5 (by rfl) ?_ ?_
  · refine r_aload_n (pc := 10) (i := 0) d_Reader_take_10 rfl rfl ?_
    refine r_cVv (pc := 11) (T := F_9) (N := 12) (st := []) (ok_Reader_next hn h) (fun s => Std.k s (lc hn rfl) kq_1) rfl w_486 w_2 w_483 w_485 ws_1 hy_Reader_next ⟨Nat.le_of_ble_eq_true rfl, Nat.le_of_ble_eq_true rfl⟩ ⟨Nat.le_of_ble_eq_true rfl, Nat.le_of_ble_eq_true rfl⟩ rfl (Nat.le_of_ble_eq_true rfl) d_Reader_take_11 (fun hq1 => ?_)
    refine r_iconst (pc := 14) (v := 1) d_Reader_take_14 (by rfl) ?_
    exact r_zret (pc := 15) rfl rfl d_Reader_take_15
  · refine r_iconst (pc := 8) (v := 0) d_Reader_take_8 (by rfl) ?_
    exact r_zret (pc := 9) rfl rfl d_Reader_take_9

def f_Reader_readDealer_b187    (x1 : Int32) (v0 : Nat) (v1 : Int32) (v2 : Int32) (h : AH) : Option AH :=
  gx v1 6 <|
  lt (sI h v0 (ix v1) v2) fun hq2 =>
  gd hq2 1 1 7 fun cq3 =>
  bI (f_Reader_take (263 : Int32) hq2) fun rq4 hq5 =>
  if rq4 = 0 then
    gx x1 6 <|
    lt (sI hq5 (cq3 + 8) (ix x1) (0 : Int32)) fun hq7 =>
    some hq7
  else
    bI (f_Reader_needNumber (0 : Int32) (9 : Int32) hq5) fun rq8 hq9 =>
    gx x1 6 <|
    lt (sI hq9 (cq3 + 8) (ix x1) rq8) fun hq11 =>
    some hq11
set_option maxHeartbeats 2000000 in
theorem o_Reader_readDealer_b187 {G : AE} {n : Nat} (hn : NN ≤ n)     : ∀ (x1 : Int32) (v0 : Nat) (hv0 : kdF v0 = .inl (0, 6)) (v1 : Int32) (v2 : Int32) (h : AH), AJ G n y_Reader_readDealer (8) φV 187 [some (.ref 1), some (.int x1)] [.int v2, .int v1, .ref v0] h (f_Reader_readDealer_b187 x1 v0 v1 v2 h) := by
  intro x1 v0 hv0 v1 v2 h
  rw [f_Reader_readDealer_b187]
  refine r_gx (fun zq1 => ?_)
  refine r_iast (pc := 187) (n := 6) (i0 := (ix v1)) (fun s => Std.k s (Nat.lt_of_lt_of_le (kd_ar hv0 (by decide)) hn) hv0) zq1 rfl (fun s => Std.sI s _ _ _) d_Reader_readDealer_187 ?_
  refine r_ltH (fun hq2 => ?_)
  refine r_aload_n (pc := 188) (i := 0) d_Reader_readDealer_188 rfl rfl ?_
  refine r_gd (fun cq3 rcq3 kcq3 => ?_)
  refine r_getf (pc := 189) (ci := 9) (k := 1) (C := "CricketHay$Reader") (T := F_9) (N := 12) (v := .ref cq3) (fun s => Std.k s (lc hn rfl) kq_1) rfl (Nat.le_of_ble_eq_true rfl) rfl w_37 (fun _ => vr rfl rcq3) d_Reader_readDealer_189 ?_
  refine r_getf (pc := 192) (ci := 7) (k := 7) (C := "CricketHay$Market") (T := F_7) (N := 16) (v := .ref (cq3 + 8)) (fun s => Std.k s (ltn (cm hn) (kl_M kcq3)) kcq3) rfl (Nat.le_of_ble_eq_true rfl) rfl w_142 (fun s => vr rfl (Std.r s (ltn (cm hn) (kl_M kcq3)) (rr_M_7 kcq3))) d_Reader_readDealer_192 ?_
  refine r_iload_n (pc := 195) (i := 1) d_Reader_readDealer_195 rfl rfl ?_
  refine r_aload_n (pc := 196) (i := 0) d_Reader_readDealer_196 rfl rfl ?_
  refine r_sipush (pc := 197) (v := 263) d_Reader_readDealer_197 (by rfl) ?_
  refine r_cVi (pc := 200) (T := F_9) (N := 12) (st := [.int x1, .ref (cq3 + 8)]) (ok_Reader_take hn (263 : Int32) hq2) (fun s => Std.k s (lc hn rfl) kq_1) rfl w_599 w_2 w_596 w_598 ws_14 hy_Reader_take ⟨Nat.le_of_ble_eq_true rfl, Nat.le_of_ble_eq_true rfl⟩ ⟨Nat.le_of_ble_eq_true rfl, Nat.le_of_ble_eq_true rfl⟩ rfl (Nat.le_of_ble_eq_true rfl) d_Reader_readDealer_200 (fun rq4 hq5 => ?_)
  refine r_if_eq (pc := 203) (tgt := 216) d_Reader_readDealer_203 (by rfl) ?_ ?_
  · refine r_iconst (pc := 216) (v := 0) d_Reader_readDealer_216 (by rfl) ?_
    refine r_gx (fun zq6 => ?_)
    refine r_iast (pc := 217) (n := 6) (i0 := (ix x1)) (fun s => Std.k s (ltn (cm hn) (kj_M_7 kcq3)) (kk_M_7 kcq3)) zq6 rfl (fun s => Std.sI s _ _ _) d_Reader_readDealer_217 ?_
    refine r_ltH (fun hq7 => ?_)
    exact r_vret (pc := 218) rfl d_Reader_readDealer_218
  · refine r_aload_n (pc := 206) (i := 0) d_Reader_readDealer_206 rfl rfl ?_
    refine r_iconst (pc := 207) (v := 0) d_Reader_readDealer_207 (by rfl) ?_
    refine r_bipush (pc := 208) (v := 9) d_Reader_readDealer_208 (by rfl) ?_
    refine r_cVi (pc := 210) (T := F_9) (N := 12) (st := [.int x1, .ref (cq3 + 8)]) (ok_Reader_needNumber hn (0 : Int32) (9 : Int32) hq5) (fun s => Std.k s (lc hn rfl) kq_1) rfl w_595 w_2 w_592 w_594 ws_13 hy_Reader_needNumber ⟨Nat.le_of_ble_eq_true rfl, Nat.le_of_ble_eq_true rfl⟩ ⟨Nat.le_of_ble_eq_true rfl, Nat.le_of_ble_eq_true rfl⟩ rfl (Nat.le_of_ble_eq_true rfl) d_Reader_readDealer_210 (fun rq8 hq9 => ?_)
    refine r_goto (pc := 213) (tgt := 217) d_Reader_readDealer_213 (by rfl) ?_
    refine r_gx (fun zq10 => ?_)
    refine r_iast (pc := 217) (n := 6) (i0 := (ix x1)) (fun s => Std.k s (ltn (cm hn) (kj_M_7 kcq3)) (kk_M_7 kcq3)) zq10 rfl (fun s => Std.sI s _ _ _) d_Reader_readDealer_217 ?_
    refine r_ltH (fun hq11 => ?_)
    exact r_vret (pc := 218) rfl d_Reader_readDealer_218
def f_Reader_readDealer_b157    (x1 : Int32) (v0 : Nat) (v1 : Int32) (v2 : Int32) (h : AH) : Option AH :=
  gx v1 6 <|
  lt (sI h v0 (ix v1) v2) fun hq2 =>
  gd hq2 1 1 7 fun cq3 =>
  bI (f_Reader_take (262 : Int32) hq2) fun rq4 hq5 =>
  if rq4 = 0 then
    f_Reader_readDealer_b187 x1 (cq3 + 7) x1 (0 : Int32) hq5
  else
    bI (f_Reader_needNumber (0 : Int32) (99 : Int32) hq5) fun rq6 hq7 =>
    f_Reader_readDealer_b187 x1 (cq3 + 7) x1 rq6 hq7
set_option maxHeartbeats 2000000 in
theorem o_Reader_readDealer_b157 {G : AE} {n : Nat} (hn : NN ≤ n)     : ∀ (x1 : Int32) (v0 : Nat) (hv0 : kdF v0 = .inl (0, 6)) (v1 : Int32) (v2 : Int32) (h : AH), AJ G n y_Reader_readDealer (8) φV 157 [some (.ref 1), some (.int x1)] [.int v2, .int v1, .ref v0] h (f_Reader_readDealer_b157 x1 v0 v1 v2 h) := by
  intro x1 v0 hv0 v1 v2 h
  rw [f_Reader_readDealer_b157]
  refine r_gx (fun zq1 => ?_)
  refine r_iast (pc := 157) (n := 6) (i0 := (ix v1)) (fun s => Std.k s (Nat.lt_of_lt_of_le (kd_ar hv0 (by decide)) hn) hv0) zq1 rfl (fun s => Std.sI s _ _ _) d_Reader_readDealer_157 ?_
  refine r_ltH (fun hq2 => ?_)
  refine r_aload_n (pc := 158) (i := 0) d_Reader_readDealer_158 rfl rfl ?_
  refine r_gd (fun cq3 rcq3 kcq3 => ?_)
  refine r_getf (pc := 159) (ci := 9) (k := 1) (C := "CricketHay$Reader") (T := F_9) (N := 12) (v := .ref cq3) (fun s => Std.k s (lc hn rfl) kq_1) rfl (Nat.le_of_ble_eq_true rfl) rfl w_37 (fun _ => vr rfl rcq3) d_Reader_readDealer_159 ?_
  refine r_getf (pc := 162) (ci := 7) (k := 6) (C := "CricketHay$Market") (T := F_7) (N := 16) (v := .ref (cq3 + 7)) (fun s => Std.k s (ltn (cm hn) (kl_M kcq3)) kcq3) rfl (Nat.le_of_ble_eq_true rfl) rfl w_137 (fun s => vr rfl (Std.r s (ltn (cm hn) (kl_M kcq3)) (rr_M_6 kcq3))) d_Reader_readDealer_162 ?_
  refine r_iload_n (pc := 165) (i := 1) d_Reader_readDealer_165 rfl rfl ?_
  refine r_aload_n (pc := 166) (i := 0) d_Reader_readDealer_166 rfl rfl ?_
  refine r_sipush (pc := 167) (v := 262) d_Reader_readDealer_167 (by rfl) ?_
  refine r_cVi (pc := 170) (T := F_9) (N := 12) (st := [.int x1, .ref (cq3 + 7)]) (ok_Reader_take hn (262 : Int32) hq2) (fun s => Std.k s (lc hn rfl) kq_1) rfl w_599 w_2 w_596 w_598 ws_14 hy_Reader_take ⟨Nat.le_of_ble_eq_true rfl, Nat.le_of_ble_eq_true rfl⟩ ⟨Nat.le_of_ble_eq_true rfl, Nat.le_of_ble_eq_true rfl⟩ rfl (Nat.le_of_ble_eq_true rfl) d_Reader_readDealer_170 (fun rq4 hq5 => ?_)
  refine r_if_eq (pc := 173) (tgt := 186) d_Reader_readDealer_173 (by rfl) ?_ ?_
  · refine r_iconst (pc := 186) (v := 0) d_Reader_readDealer_186 (by rfl) ?_
    exact r_wk (o_Reader_readDealer_b187 hn x1 (cq3 + 7) (kk_M_6 kcq3) x1 (0 : Int32) hq5) ⟨rfl, ⟨rfl, trivial⟩⟩
  · refine r_aload_n (pc := 176) (i := 0) d_Reader_readDealer_176 rfl rfl ?_
    refine r_iconst (pc := 177) (v := 0) d_Reader_readDealer_177 (by rfl) ?_
    refine r_bipush (pc := 178) (v := 99) d_Reader_readDealer_178 (by rfl) ?_
    refine r_cVi (pc := 180) (T := F_9) (N := 12) (st := [.int x1, .ref (cq3 + 7)]) (ok_Reader_needNumber hn (0 : Int32) (99 : Int32) hq5) (fun s => Std.k s (lc hn rfl) kq_1) rfl w_595 w_2 w_592 w_594 ws_13 hy_Reader_needNumber ⟨Nat.le_of_ble_eq_true rfl, Nat.le_of_ble_eq_true rfl⟩ ⟨Nat.le_of_ble_eq_true rfl, Nat.le_of_ble_eq_true rfl⟩ rfl (Nat.le_of_ble_eq_true rfl) d_Reader_readDealer_180 (fun rq6 hq7 => ?_)
    refine r_goto (pc := 183) (tgt := 187) d_Reader_readDealer_183 (by rfl) ?_
    exact r_wk (o_Reader_readDealer_b187 hn x1 (cq3 + 7) (kk_M_6 kcq3) x1 rq6 hq7) ⟨rfl, ⟨rfl, trivial⟩⟩
def f_Reader_readDealer_b126    (x1 : Int32) (v0 : Nat) (v1 : Int32) (v2 : Int32) (h : AH) : Option AH :=
  gx v1 6 <|
  lt (sI h v0 (ix v1) v2) fun hq2 =>
  gd hq2 1 1 7 fun cq3 =>
  bI (f_Reader_take (261 : Int32) hq2) fun rq4 hq5 =>
  if rq4 = 0 then
    f_Reader_readDealer_b157 x1 (cq3 + 6) x1 (0 : Int32) hq5
  else
    bI (f_Reader_needNumber (0 : Int32) (9999 : Int32) hq5) fun rq6 hq7 =>
    f_Reader_readDealer_b157 x1 (cq3 + 6) x1 rq6 hq7
set_option maxHeartbeats 2000000 in
theorem o_Reader_readDealer_b126 {G : AE} {n : Nat} (hn : NN ≤ n)     : ∀ (x1 : Int32) (v0 : Nat) (hv0 : kdF v0 = .inl (0, 6)) (v1 : Int32) (v2 : Int32) (h : AH), AJ G n y_Reader_readDealer (8) φV 126 [some (.ref 1), some (.int x1)] [.int v2, .int v1, .ref v0] h (f_Reader_readDealer_b126 x1 v0 v1 v2 h) := by
  intro x1 v0 hv0 v1 v2 h
  rw [f_Reader_readDealer_b126]
  refine r_gx (fun zq1 => ?_)
  refine r_iast (pc := 126) (n := 6) (i0 := (ix v1)) (fun s => Std.k s (Nat.lt_of_lt_of_le (kd_ar hv0 (by decide)) hn) hv0) zq1 rfl (fun s => Std.sI s _ _ _) d_Reader_readDealer_126 ?_
  refine r_ltH (fun hq2 => ?_)
  refine r_aload_n (pc := 127) (i := 0) d_Reader_readDealer_127 rfl rfl ?_
  refine r_gd (fun cq3 rcq3 kcq3 => ?_)
  refine r_getf (pc := 128) (ci := 9) (k := 1) (C := "CricketHay$Reader") (T := F_9) (N := 12) (v := .ref cq3) (fun s => Std.k s (lc hn rfl) kq_1) rfl (Nat.le_of_ble_eq_true rfl) rfl w_37 (fun _ => vr rfl rcq3) d_Reader_readDealer_128 ?_
  refine r_getf (pc := 131) (ci := 7) (k := 5) (C := "CricketHay$Market") (T := F_7) (N := 16) (v := .ref (cq3 + 6)) (fun s => Std.k s (ltn (cm hn) (kl_M kcq3)) kcq3) rfl (Nat.le_of_ble_eq_true rfl) rfl w_134 (fun s => vr rfl (Std.r s (ltn (cm hn) (kl_M kcq3)) (rr_M_5 kcq3))) d_Reader_readDealer_131 ?_
  refine r_iload_n (pc := 134) (i := 1) d_Reader_readDealer_134 rfl rfl ?_
  refine r_aload_n (pc := 135) (i := 0) d_Reader_readDealer_135 rfl rfl ?_
  refine r_sipush (pc := 136) (v := 261) d_Reader_readDealer_136 (by rfl) ?_
  refine r_cVi (pc := 139) (T := F_9) (N := 12) (st := [.int x1, .ref (cq3 + 6)]) (ok_Reader_take hn (261 : Int32) hq2) (fun s => Std.k s (lc hn rfl) kq_1) rfl w_599 w_2 w_596 w_598 ws_14 hy_Reader_take ⟨Nat.le_of_ble_eq_true rfl, Nat.le_of_ble_eq_true rfl⟩ ⟨Nat.le_of_ble_eq_true rfl, Nat.le_of_ble_eq_true rfl⟩ rfl (Nat.le_of_ble_eq_true rfl) d_Reader_readDealer_139 (fun rq4 hq5 => ?_)
  refine r_if_eq (pc := 142) (tgt := 156) d_Reader_readDealer_142 (by rfl) ?_ ?_
  · refine r_iconst (pc := 156) (v := 0) d_Reader_readDealer_156 (by rfl) ?_
    exact r_wk (o_Reader_readDealer_b157 hn x1 (cq3 + 6) (kk_M_5 kcq3) x1 (0 : Int32) hq5) ⟨rfl, ⟨rfl, trivial⟩⟩
  · refine r_aload_n (pc := 145) (i := 0) d_Reader_readDealer_145 rfl rfl ?_
    refine r_iconst (pc := 146) (v := 0) d_Reader_readDealer_146 (by rfl) ?_
    refine r_sipush (pc := 147) (v := 9999) d_Reader_readDealer_147 (by rfl) ?_
    refine r_cVi (pc := 150) (T := F_9) (N := 12) (st := [.int x1, .ref (cq3 + 6)]) (ok_Reader_needNumber hn (0 : Int32) (9999 : Int32) hq5) (fun s => Std.k s (lc hn rfl) kq_1) rfl w_595 w_2 w_592 w_594 ws_13 hy_Reader_needNumber ⟨Nat.le_of_ble_eq_true rfl, Nat.le_of_ble_eq_true rfl⟩ ⟨Nat.le_of_ble_eq_true rfl, Nat.le_of_ble_eq_true rfl⟩ rfl (Nat.le_of_ble_eq_true rfl) d_Reader_readDealer_150 (fun rq6 hq7 => ?_)
    refine r_goto (pc := 153) (tgt := 157) d_Reader_readDealer_153 (by rfl) ?_
    exact r_wk (o_Reader_readDealer_b157 hn x1 (cq3 + 6) (kk_M_5 kcq3) x1 rq6 hq7) ⟨rfl, ⟨rfl, trivial⟩⟩
def f_Reader_readDealer   (h : AH) : Option AH :=
  gd h 1 1 7 fun cq1 =>
  lt (hI h cq1 11) fun xq2 =>
  gd h 1 1 7 fun cq3 =>
  bI (f_Reader_isNewName (cq3 + 2) xq2 h) fun rq4 hq5 =>
  if ¬ rq4 = 0 then
    gd hq5 1 1 7 fun cq6 =>
    gx xq2 6 <|
    lt (sL hq5 (cq6 + 2) (ix xq2) (hL hq5 1 7)) fun hq8 =>
    gd hq8 1 1 7 fun cq9 =>
    lt (sI hq8 cq9 11 ((hI hq8 cq9 11) + (1 : Int32))) fun hq10 =>
    bV (f_Reader_next hq10) fun hq11 =>
    bV (f_Reader_need (258 : Int32) hq11) fun hq12 =>
    gd hq12 1 1 7 fun cq13 =>
    bI (f_Reader_needKind hq12) fun rq14 hq15 =>
    gx xq2 6 <|
    lt (sI hq15 (cq13 + 3) (ix xq2) rq14) fun hq17 =>
    bV (f_Reader_need (259 : Int32) hq17) fun hq18 =>
    gd hq18 1 1 7 fun cq19 =>
    bI (f_Reader_needNumber (0 : Int32) (9 : Int32) hq18) fun rq20 hq21 =>
    gx xq2 6 <|
    lt (sI hq21 (cq19 + 4) (ix xq2) rq20) fun hq23 =>
    gd hq23 1 1 7 fun cq24 =>
    bI (f_Reader_take (260 : Int32) hq23) fun rq25 hq26 =>
    if rq25 = 0 then
      f_Reader_readDealer_b126 xq2 (cq24 + 5) xq2 (0 : Int32) hq26
    else
      bI (f_Reader_needNumber (0 : Int32) (99 : Int32) hq26) fun rq27 hq28 =>
      f_Reader_readDealer_b126 xq2 (cq24 + 5) xq2 rq27 hq28
  else
    some hq5
set_option maxHeartbeats 2000000 in
theorem ok_Reader_readDealer {G : AE} {n : Nat} (hn : NN ≤ n)   (h : AH) : OK G n y_Reader_readDealer (8) φV [.ref 1] h (f_Reader_readDealer h) := by
  refine ok_of (y := y_Reader_readDealer) (lv0 := [some (.ref 1), none]) (by decide +kernel) (Nat.le_of_ble_eq_true rfl) ⟨rfl, trivial⟩ ?_
  rw [f_Reader_readDealer]
  refine r_aload_n (pc := 0) (i := 0) d_Reader_readDealer_0 rfl rfl ?_
  refine r_gd (fun cq1 rcq1 kcq1 => ?_)
  refine r_getf (pc := 1) (ci := 9) (k := 1) (C := "CricketHay$Reader") (T := F_9) (N := 12) (v := .ref cq1) (fun s => Std.k s (lc hn rfl) kq_1) rfl (Nat.le_of_ble_eq_true rfl) rfl w_37 (fun _ => vr rfl rcq1) d_Reader_readDealer_1 ?_
  refine r_getf (pc := 4) (ci := 7) (k := 11) (C := "CricketHay$Market") (T := F_7) (N := 16) (v := .int (hI h cq1 11)) (fun s => Std.k s (ltn (cm hn) (kl_M kcq1)) kcq1) rfl (Nat.le_of_ble_eq_true rfl) rfl w_157 (fun _ => rfl) d_Reader_readDealer_4 ?_
  refine r_ltI (fun xq2 => ?_)
  refine r_istore_n (pc := 7) (i := 1) (lv1 := [some (.ref 1), some (.int xq2)]) d_Reader_readDealer_7 rfl (Nat.le_of_ble_eq_true rfl) rfl ?_
  refine r_aload_n (pc := 8) (i := 0) d_Reader_readDealer_8 rfl rfl ?_
  refine r_aload_n (pc := 9) (i := 0) d_Reader_readDealer_9 rfl rfl ?_
  refine r_gd (fun cq3 rcq3 kcq3 => ?_)
  refine r_getf (pc := 10) (ci := 9) (k := 1) (C := "CricketHay$Reader") (T := F_9) (N := 12) (v := .ref cq3) (fun s => Std.k s (lc hn rfl) kq_1) rfl (Nat.le_of_ble_eq_true rfl) rfl w_37 (fun _ => vr rfl rcq3) d_Reader_readDealer_10 ?_
  refine r_getf (pc := 13) (ci := 7) (k := 1) (C := "CricketHay$Market") (T := F_7) (N := 16) (v := .ref (cq3 + 2)) (fun s => Std.k s (ltn (cm hn) (kl_M kcq3)) kcq3) rfl (Nat.le_of_ble_eq_true rfl) rfl w_119 (fun s => vr rfl (Std.r s (ltn (cm hn) (kl_M kcq3)) (rr_M_1 kcq3))) d_Reader_readDealer_13 ?_
  refine r_iload_n (pc := 16) (i := 1) d_Reader_readDealer_16 rfl rfl ?_
  refine r_cVi (pc := 17) (T := F_9) (N := 12) (st := []) (ok_Reader_isNewName hn (cq3 + 2) xq2 h) (fun s => Std.k s (lc hn rfl) kq_1) rfl w_579 w_2 w_576 w_578 ws_9 hy_Reader_isNewName ⟨Nat.le_of_ble_eq_true rfl, Nat.le_of_ble_eq_true rfl⟩ ⟨Nat.le_of_ble_eq_true rfl, Nat.le_of_ble_eq_true rfl⟩ rfl (Nat.le_of_ble_eq_true rfl) d_Reader_readDealer_17 (fun rq4 hq5 => ?_)
  refine r_if_ne (pc := 20) (tgt := 24) d_Reader_readDealer_20 (by rfl) ?_ ?_
  · refine r_aload_n (pc := 24) (i := 0) d_Reader_readDealer_24 rfl rfl ?_
    refine r_gd (fun cq6 rcq6 kcq6 => ?_)
    refine r_getf (pc := 25) (ci := 9) (k := 1) (C := "CricketHay$Reader") (T := F_9) (N := 12) (v := .ref cq6) (fun s => Std.k s (lc hn rfl) kq_1) rfl (Nat.le_of_ble_eq_true rfl) rfl w_37 (fun _ => vr rfl rcq6) d_Reader_readDealer_25 ?_
    refine r_getf (pc := 28) (ci := 7) (k := 1) (C := "CricketHay$Market") (T := F_7) (N := 16) (v := .ref (cq6 + 2)) (fun s => Std.k s (ltn (cm hn) (kl_M kcq6)) kcq6) rfl (Nat.le_of_ble_eq_true rfl) rfl w_119 (fun s => vr rfl (Std.r s (ltn (cm hn) (kl_M kcq6)) (rr_M_1 kcq6))) d_Reader_readDealer_28 ?_
    refine r_iload_n (pc := 31) (i := 1) d_Reader_readDealer_31 rfl rfl ?_
    refine r_aload_n (pc := 32) (i := 0) d_Reader_readDealer_32 rfl rfl ?_
    refine r_getf (pc := 33) (ci := 9) (k := 7) (C := "CricketHay$Reader") (T := F_9) (N := 12) (v := .long (hL hq5 1 7)) (fun s => Std.k s (lc hn rfl) kq_1) rfl (Nat.le_of_ble_eq_true rfl) rfl w_43 (fun _ => rfl) d_Reader_readDealer_33 ?_
    refine r_gx (fun zq7 => ?_)
    refine r_last (pc := 36) (n := 6) (i0 := (ix xq2)) (fun s => Std.k s (ltn (cm hn) (kj_M_1 kcq6)) (kk_M_1 kcq6)) zq7 rfl (fun s => Std.sL s _ _ _) d_Reader_readDealer_36 ?_
    refine r_ltH (fun hq8 => ?_)
    refine r_aload_n (pc := 37) (i := 0) d_Reader_readDealer_37 rfl rfl ?_
    refine r_gd (fun cq9 rcq9 kcq9 => ?_)
    refine r_getf (pc := 38) (ci := 9) (k := 1) (C := "CricketHay$Reader") (T := F_9) (N := 12) (v := .ref cq9) (fun s => Std.k s (lc hn rfl) kq_1) rfl (Nat.le_of_ble_eq_true rfl) rfl w_37 (fun _ => vr rfl rcq9) d_Reader_readDealer_38 ?_
    refine r_dup (pc := 41) d_Reader_readDealer_41 rfl ?_
    refine r_getf (pc := 42) (ci := 7) (k := 11) (C := "CricketHay$Market") (T := F_7) (N := 16) (v := .int (hI hq8 cq9 11)) (fun s => Std.k s (ltn (cm hn) (kl_M kcq9)) kcq9) rfl (Nat.le_of_ble_eq_true rfl) rfl w_157 (fun _ => rfl) d_Reader_readDealer_42 ?_
    refine r_iconst (pc := 45) (v := 1) d_Reader_readDealer_45 (by rfl) ?_
    refine r_iadd (pc := 46) d_Reader_readDealer_46 ?_
    refine r_putI (pc := 47) (ci := 7) (k := 11) (C := "CricketHay$Market") (T := F_7) (N := 16) (fun s => Std.k s (ltn (cm hn) (kl_M kcq9)) kcq9) rfl (Nat.le_of_ble_eq_true rfl) rfl rfl w_157 (fun _ _ => rfl) (fun _ => rfl) (fun _ => rfl) (fun s => Std.sI s _ _ _) d_Reader_readDealer_47 ?_
    refine r_ltH (fun hq10 => ?_)
    refine r_aload_n (pc := 50) (i := 0) d_Reader_readDealer_50 rfl rfl ?_
    refine r_cVv (pc := 51) (T := F_9) (N := 12) (st := []) (ok_Reader_next hn hq10) (fun s => Std.k s (lc hn rfl) kq_1) rfl w_486 w_2 w_483 w_485 ws_1 hy_Reader_next ⟨Nat.le_of_ble_eq_true rfl, Nat.le_of_ble_eq_true rfl⟩ ⟨Nat.le_of_ble_eq_true rfl, Nat.le_of_ble_eq_true rfl⟩ rfl (Nat.le_of_ble_eq_true rfl) d_Reader_readDealer_51 (fun hq11 => ?_)
    refine r_aload_n (pc := 54) (i := 0) d_Reader_readDealer_54 rfl rfl ?_
    refine r_sipush (pc := 55) (v := 258) d_Reader_readDealer_55 (by rfl) ?_
    refine r_cVv (pc := 58) (T := F_9) (N := 12) (st := []) (ok_Reader_need hn (258 : Int32) hq11) (fun s => Std.k s (lc hn rfl) kq_1) rfl w_587 w_2 w_584 w_586 ws_11 hy_Reader_need ⟨Nat.le_of_ble_eq_true rfl, Nat.le_of_ble_eq_true rfl⟩ ⟨Nat.le_of_ble_eq_true rfl, Nat.le_of_ble_eq_true rfl⟩ rfl (Nat.le_of_ble_eq_true rfl) d_Reader_readDealer_58 (fun hq12 => ?_)
    refine r_aload_n (pc := 61) (i := 0) d_Reader_readDealer_61 rfl rfl ?_
    refine r_gd (fun cq13 rcq13 kcq13 => ?_)
    refine r_getf (pc := 62) (ci := 9) (k := 1) (C := "CricketHay$Reader") (T := F_9) (N := 12) (v := .ref cq13) (fun s => Std.k s (lc hn rfl) kq_1) rfl (Nat.le_of_ble_eq_true rfl) rfl w_37 (fun _ => vr rfl rcq13) d_Reader_readDealer_62 ?_
    refine r_getf (pc := 65) (ci := 7) (k := 2) (C := "CricketHay$Market") (T := F_7) (N := 16) (v := .ref (cq13 + 3)) (fun s => Std.k s (ltn (cm hn) (kl_M kcq13)) kcq13) rfl (Nat.le_of_ble_eq_true rfl) rfl w_123 (fun s => vr rfl (Std.r s (ltn (cm hn) (kl_M kcq13)) (rr_M_2 kcq13))) d_Reader_readDealer_65 ?_
    refine r_iload_n (pc := 68) (i := 1) d_Reader_readDealer_68 rfl rfl ?_
    refine r_aload_n (pc := 69) (i := 0) d_Reader_readDealer_69 rfl rfl ?_
    refine r_cVi (pc := 70) (T := F_9) (N := 12) (st := [.int xq2, .ref (cq13 + 3)]) (ok_Reader_needKind hn hq12) (fun s => Std.k s (lc hn rfl) kq_1) rfl w_591 w_2 w_588 w_590 ws_12 hy_Reader_needKind ⟨Nat.le_of_ble_eq_true rfl, Nat.le_of_ble_eq_true rfl⟩ ⟨Nat.le_of_ble_eq_true rfl, Nat.le_of_ble_eq_true rfl⟩ rfl (Nat.le_of_ble_eq_true rfl) d_Reader_readDealer_70 (fun rq14 hq15 => ?_)
    refine r_gx (fun zq16 => ?_)
    refine r_iast (pc := 73) (n := 6) (i0 := (ix xq2)) (fun s => Std.k s (ltn (cm hn) (kj_M_2 kcq13)) (kk_M_2 kcq13)) zq16 rfl (fun s => Std.sI s _ _ _) d_Reader_readDealer_73 ?_
    refine r_ltH (fun hq17 => ?_)
    refine r_aload_n (pc := 74) (i := 0) d_Reader_readDealer_74 rfl rfl ?_
    refine r_sipush (pc := 75) (v := 259) d_Reader_readDealer_75 (by rfl) ?_
    refine r_cVv (pc := 78) (T := F_9) (N := 12) (st := []) (ok_Reader_need hn (259 : Int32) hq17) (fun s => Std.k s (lc hn rfl) kq_1) rfl w_587 w_2 w_584 w_586 ws_11 hy_Reader_need ⟨Nat.le_of_ble_eq_true rfl, Nat.le_of_ble_eq_true rfl⟩ ⟨Nat.le_of_ble_eq_true rfl, Nat.le_of_ble_eq_true rfl⟩ rfl (Nat.le_of_ble_eq_true rfl) d_Reader_readDealer_78 (fun hq18 => ?_)
    refine r_aload_n (pc := 81) (i := 0) d_Reader_readDealer_81 rfl rfl ?_
    refine r_gd (fun cq19 rcq19 kcq19 => ?_)
    refine r_getf (pc := 82) (ci := 9) (k := 1) (C := "CricketHay$Reader") (T := F_9) (N := 12) (v := .ref cq19) (fun s => Std.k s (lc hn rfl) kq_1) rfl (Nat.le_of_ble_eq_true rfl) rfl w_37 (fun _ => vr rfl rcq19) d_Reader_readDealer_82 ?_
    refine r_getf (pc := 85) (ci := 7) (k := 3) (C := "CricketHay$Market") (T := F_7) (N := 16) (v := .ref (cq19 + 4)) (fun s => Std.k s (ltn (cm hn) (kl_M kcq19)) kcq19) rfl (Nat.le_of_ble_eq_true rfl) rfl w_128 (fun s => vr rfl (Std.r s (ltn (cm hn) (kl_M kcq19)) (rr_M_3 kcq19))) d_Reader_readDealer_85 ?_
    refine r_iload_n (pc := 88) (i := 1) d_Reader_readDealer_88 rfl rfl ?_
    refine r_aload_n (pc := 89) (i := 0) d_Reader_readDealer_89 rfl rfl ?_
    refine r_iconst (pc := 90) (v := 0) d_Reader_readDealer_90 (by rfl) ?_
    refine r_bipush (pc := 91) (v := 9) d_Reader_readDealer_91 (by rfl) ?_
    refine r_cVi (pc := 93) (T := F_9) (N := 12) (st := [.int xq2, .ref (cq19 + 4)]) (ok_Reader_needNumber hn (0 : Int32) (9 : Int32) hq18) (fun s => Std.k s (lc hn rfl) kq_1) rfl w_595 w_2 w_592 w_594 ws_13 hy_Reader_needNumber ⟨Nat.le_of_ble_eq_true rfl, Nat.le_of_ble_eq_true rfl⟩ ⟨Nat.le_of_ble_eq_true rfl, Nat.le_of_ble_eq_true rfl⟩ rfl (Nat.le_of_ble_eq_true rfl) d_Reader_readDealer_93 (fun rq20 hq21 => ?_)
    refine r_gx (fun zq22 => ?_)
    refine r_iast (pc := 96) (n := 6) (i0 := (ix xq2)) (fun s => Std.k s (ltn (cm hn) (kj_M_3 kcq19)) (kk_M_3 kcq19)) zq22 rfl (fun s => Std.sI s _ _ _) d_Reader_readDealer_96 ?_
    refine r_ltH (fun hq23 => ?_)
    refine r_aload_n (pc := 97) (i := 0) d_Reader_readDealer_97 rfl rfl ?_
    refine r_gd (fun cq24 rcq24 kcq24 => ?_)
    refine r_getf (pc := 98) (ci := 9) (k := 1) (C := "CricketHay$Reader") (T := F_9) (N := 12) (v := .ref cq24) (fun s => Std.k s (lc hn rfl) kq_1) rfl (Nat.le_of_ble_eq_true rfl) rfl w_37 (fun _ => vr rfl rcq24) d_Reader_readDealer_98 ?_
    refine r_getf (pc := 101) (ci := 7) (k := 4) (C := "CricketHay$Market") (T := F_7) (N := 16) (v := .ref (cq24 + 5)) (fun s => Std.k s (ltn (cm hn) (kl_M kcq24)) kcq24) rfl (Nat.le_of_ble_eq_true rfl) rfl w_131 (fun s => vr rfl (Std.r s (ltn (cm hn) (kl_M kcq24)) (rr_M_4 kcq24))) d_Reader_readDealer_101 ?_
    refine r_iload_n (pc := 104) (i := 1) d_Reader_readDealer_104 rfl rfl ?_
    refine r_aload_n (pc := 105) (i := 0) d_Reader_readDealer_105 rfl rfl ?_
    refine r_sipush (pc := 106) (v := 260) d_Reader_readDealer_106 (by rfl) ?_
    refine r_cVi (pc := 109) (T := F_9) (N := 12) (st := [.int xq2, .ref (cq24 + 5)]) (ok_Reader_take hn (260 : Int32) hq23) (fun s => Std.k s (lc hn rfl) kq_1) rfl w_599 w_2 w_596 w_598 ws_14 hy_Reader_take ⟨Nat.le_of_ble_eq_true rfl, Nat.le_of_ble_eq_true rfl⟩ ⟨Nat.le_of_ble_eq_true rfl, Nat.le_of_ble_eq_true rfl⟩ rfl (Nat.le_of_ble_eq_true rfl) d_Reader_readDealer_109 (fun rq25 hq26 => ?_)
    refine r_if_eq (pc := 112) (tgt := 125) d_Reader_readDealer_112 (by rfl) ?_ ?_
    · refine r_iconst (pc := 125) (v := 0) d_Reader_readDealer_125 (by rfl) ?_
      exact r_wk (o_Reader_readDealer_b126 hn xq2 (cq24 + 5) (kk_M_4 kcq24) xq2 (0 : Int32) hq26) ⟨rfl, ⟨rfl, trivial⟩⟩
    · refine r_aload_n (pc := 115) (i := 0) d_Reader_readDealer_115 rfl rfl ?_
      refine r_iconst (pc := 116) (v := 0) d_Reader_readDealer_116 (by rfl) ?_
      refine r_bipush (pc := 117) (v := 99) d_Reader_readDealer_117 (by rfl) ?_
      refine r_cVi (pc := 119) (T := F_9) (N := 12) (st := [.int xq2, .ref (cq24 + 5)]) (ok_Reader_needNumber hn (0 : Int32) (99 : Int32) hq26) (fun s => Std.k s (lc hn rfl) kq_1) rfl w_595 w_2 w_592 w_594 ws_13 hy_Reader_needNumber ⟨Nat.le_of_ble_eq_true rfl, Nat.le_of_ble_eq_true rfl⟩ ⟨Nat.le_of_ble_eq_true rfl, Nat.le_of_ble_eq_true rfl⟩ rfl (Nat.le_of_ble_eq_true rfl) d_Reader_readDealer_119 (fun rq27 hq28 => ?_)
      refine r_goto (pc := 122) (tgt := 126) d_Reader_readDealer_122 (by rfl) ?_
      exact r_wk (o_Reader_readDealer_b126 hn xq2 (cq24 + 5) (kk_M_4 kcq24) xq2 rq27 hq28) ⟨rfl, ⟨rfl, trivial⟩⟩
  · exact r_vret (pc := 23) rfl d_Reader_readDealer_23

def f_Formula_add  (t : Nat) (a1 : Int32) (a2 : Int32) (h : AH) : Option AH :=
  if (nI 270) ≤ (hI h t 3) then
    some h
  else
    gx (hI h t 3) 270 <|
    lt (sI h (t + 1) (ix (hI h t 3)) a1) fun hq2 =>
    gx (hI hq2 t 3) 270 <|
    lt (sI hq2 (t + 2) (ix (hI hq2 t 3)) a2) fun hq4 =>
    lt (sI hq4 t 3 ((hI hq4 t 3) + (1 : Int32))) fun hq5 =>
    some hq5
set_option maxHeartbeats 2000000 in
theorem ok_Formula_add {G : AE} {n : Nat} (hn : NN ≤ n)  (t : Nat) (ht : kdF t = .inr 5) (a1 : Int32) (a2 : Int32) (h : AH) : OK G n y_Formula_add (1) φV [.ref t, .int a1, .int a2] h (f_Formula_add t a1 a2 h) := by
  refine ok_of (y := y_Formula_add) (lv0 := [some (.ref t), some (.int a1), some (.int a2)]) (by decide +kernel) (Nat.le_of_ble_eq_true rfl) ⟨rfl, ⟨rfl, ⟨rfl, trivial⟩⟩⟩ ?_
  rw [f_Formula_add]
  refine r_aload_n (pc := 0) (i := 0) d_Formula_add_0 rfl rfl ?_
  refine r_getf (pc := 1) (ci := 5) (k := 3) (C := "CricketHay$Formula") (T := F_5) (N := 5) (v := .int (hI h t 3)) (fun s => Std.k s (ltn (cm hn) (kl_F ht)) ht) rfl (Nat.le_of_ble_eq_true rfl) rfl w_92 (fun _ => rfl) d_Formula_add_1 ?_
  refine r_aload_n (pc := 4) (i := 0) d_Formula_add_4 rfl rfl ?_
  refine r_getf (pc := 5) (ci := 5) (k := 0) (C := "CricketHay$Formula") (T := F_5) (N := 5) (v := .ref (t + 1)) (fun s => Std.k s (ltn (cm hn) (kl_F ht)) ht) rfl (Nat.le_of_ble_eq_true rfl) rfl w_89 (fun s => vr rfl (Std.r s (ltn (cm hn) (kl_F ht)) (rr_F_0 ht))) d_Formula_add_5 ?_
  refine r_alen (pc := 8) (n := 270) (fun s => Std.k s (ltn (cm hn) (kj_F_0 ht)) (kk_F_0 ht)) d_Formula_add_8 ?_
  refine r_icmp_ge (pc := 9) (tgt := 42) d_Formula_add_9 (by rfl) ?_ ?_
  · exact r_vret (pc := 42) rfl d_Formula_add_42
  · refine r_aload_n (pc := 12) (i := 0) d_Formula_add_12 rfl rfl ?_
    refine r_getf (pc := 13) (ci := 5) (k := 0) (C := "CricketHay$Formula") (T := F_5) (N := 5) (v := .ref (t + 1)) (fun s => Std.k s (ltn (cm hn) (kl_F ht)) ht) rfl (Nat.le_of_ble_eq_true rfl) rfl w_89 (fun s => vr rfl (Std.r s (ltn (cm hn) (kl_F ht)) (rr_F_0 ht))) d_Formula_add_13 ?_
    refine r_aload_n (pc := 16) (i := 0) d_Formula_add_16 rfl rfl ?_
    refine r_getf (pc := 17) (ci := 5) (k := 3) (C := "CricketHay$Formula") (T := F_5) (N := 5) (v := .int (hI h t 3)) (fun s => Std.k s (ltn (cm hn) (kl_F ht)) ht) rfl (Nat.le_of_ble_eq_true rfl) rfl w_92 (fun _ => rfl) d_Formula_add_17 ?_
    refine r_iload_n (pc := 20) (i := 1) d_Formula_add_20 rfl rfl ?_
    refine r_gx (fun zq1 => ?_)
    refine r_iast (pc := 21) (n := 270) (i0 := (ix (hI h t 3))) (fun s => Std.k s (ltn (cm hn) (kj_F_0 ht)) (kk_F_0 ht)) zq1 rfl (fun s => Std.sI s _ _ _) d_Formula_add_21 ?_
    refine r_ltH (fun hq2 => ?_)
    refine r_aload_n (pc := 22) (i := 0) d_Formula_add_22 rfl rfl ?_
    refine r_getf (pc := 23) (ci := 5) (k := 1) (C := "CricketHay$Formula") (T := F_5) (N := 5) (v := .ref (t + 2)) (fun s => Std.k s (ltn (cm hn) (kl_F ht)) ht) rfl (Nat.le_of_ble_eq_true rfl) rfl w_90 (fun s => vr rfl (Std.r s (ltn (cm hn) (kl_F ht)) (rr_F_1 ht))) d_Formula_add_23 ?_
    refine r_aload_n (pc := 26) (i := 0) d_Formula_add_26 rfl rfl ?_
    refine r_getf (pc := 27) (ci := 5) (k := 3) (C := "CricketHay$Formula") (T := F_5) (N := 5) (v := .int (hI hq2 t 3)) (fun s => Std.k s (ltn (cm hn) (kl_F ht)) ht) rfl (Nat.le_of_ble_eq_true rfl) rfl w_92 (fun _ => rfl) d_Formula_add_27 ?_
    refine r_iload_n (pc := 30) (i := 2) d_Formula_add_30 rfl rfl ?_
    refine r_gx (fun zq3 => ?_)
    refine r_iast (pc := 31) (n := 270) (i0 := (ix (hI hq2 t 3))) (fun s => Std.k s (ltn (cm hn) (kj_F_1 ht)) (kk_F_1 ht)) zq3 rfl (fun s => Std.sI s _ _ _) d_Formula_add_31 ?_
    refine r_ltH (fun hq4 => ?_)
    refine r_aload_n (pc := 32) (i := 0) d_Formula_add_32 rfl rfl ?_
    refine r_dup (pc := 33) d_Formula_add_33 rfl ?_
    refine r_getf (pc := 34) (ci := 5) (k := 3) (C := "CricketHay$Formula") (T := F_5) (N := 5) (v := .int (hI hq4 t 3)) (fun s => Std.k s (ltn (cm hn) (kl_F ht)) ht) rfl (Nat.le_of_ble_eq_true rfl) rfl w_92 (fun _ => rfl) d_Formula_add_34 ?_
    refine r_iconst (pc := 37) (v := 1) d_Formula_add_37 (by rfl) ?_
    refine r_iadd (pc := 38) d_Formula_add_38 ?_
    refine r_putI (pc := 39) (ci := 5) (k := 3) (C := "CricketHay$Formula") (T := F_5) (N := 5) (fun s => Std.k s (ltn (cm hn) (kl_F ht)) ht) rfl (Nat.le_of_ble_eq_true rfl) rfl rfl w_92 (fun _ _ => rfl) (fun _ => rfl) (fun _ => rfl) (fun s => Std.sI s _ _ _) d_Formula_add_39 ?_
    refine r_ltH (fun hq5 => ?_)
    exact r_vret (pc := 42) rfl d_Formula_add_42

def f_Reader_readSnap   (h : AH) : Option AH :=
  gd h 1 1 7 fun cq1 =>
  bI (f_Reader_needNumber (0 : Int32) (100 : Int32) h) fun rq2 hq3 =>
  lt (sI hq3 cq1 12 rq2) fun hq4 =>
  bV (f_Reader_need (258 : Int32) hq4) fun hq5 =>
  gd hq5 1 1 7 fun cq6 =>
  bI (f_Reader_needNumber (1 : Int32) (20 : Int32) hq5) fun rq7 hq8 =>
  lt (sI hq8 cq6 13 rq7) fun hq9 =>
  some hq9
set_option maxHeartbeats 2000000 in
theorem ok_Reader_readSnap {G : AE} {n : Nat} (hn : NN ≤ n)   (h : AH) : OK G n y_Reader_readSnap (8) φV [.ref 1] h (f_Reader_readSnap h) := by
  refine ok_of (y := y_Reader_readSnap) (lv0 := [some (.ref 1)]) (by decide +kernel) (Nat.le_of_ble_eq_true rfl) ⟨rfl, trivial⟩ ?_
  rw [f_Reader_readSnap]
  refine r_aload_n (pc := 0) (i := 0) d_Reader_readSnap_0 rfl rfl ?_
  refine r_gd (fun cq1 rcq1 kcq1 => ?_)
  refine r_getf (pc := 1) (ci := 9) (k := 1) (C := "CricketHay$Reader") (T := F_9) (N := 12) (v := .ref cq1) (fun s => Std.k s (lc hn rfl) kq_1) rfl (Nat.le_of_ble_eq_true rfl) rfl w_37 (fun _ => vr rfl rcq1) d_Reader_readSnap_1 ?_
  refine r_aload_n (pc := 4) (i := 0) d_Reader_readSnap_4 rfl rfl ?_
  refine r_iconst (pc := 5) (v := 0) d_Reader_readSnap_5 (by rfl) ?_
  refine r_bipush (pc := 6) (v := 100) d_Reader_readSnap_6 (by rfl) ?_
  refine r_cVi (pc := 8) (T := F_9) (N := 12) (st := [.ref cq1]) (ok_Reader_needNumber hn (0 : Int32) (100 : Int32) h) (fun s => Std.k s (lc hn rfl) kq_1) rfl w_595 w_2 w_592 w_594 ws_13 hy_Reader_needNumber ⟨Nat.le_of_ble_eq_true rfl, Nat.le_of_ble_eq_true rfl⟩ ⟨Nat.le_of_ble_eq_true rfl, Nat.le_of_ble_eq_true rfl⟩ rfl (Nat.le_of_ble_eq_true rfl) d_Reader_readSnap_8 (fun rq2 hq3 => ?_)
  refine r_putI (pc := 11) (ci := 7) (k := 12) (C := "CricketHay$Market") (T := F_7) (N := 16) (fun s => Std.k s (ltn (cm hn) (kl_M kcq1)) kcq1) rfl (Nat.le_of_ble_eq_true rfl) rfl rfl w_160 (fun _ _ => rfl) (fun _ => rfl) (fun _ => rfl) (fun s => Std.sI s _ _ _) d_Reader_readSnap_11 ?_
  refine r_ltH (fun hq4 => ?_)
  refine r_aload_n (pc := 14) (i := 0) d_Reader_readSnap_14 rfl rfl ?_
  refine r_sipush (pc := 15) (v := 258) d_Reader_readSnap_15 (by rfl) ?_
  refine r_cVv (pc := 18) (T := F_9) (N := 12) (st := []) (ok_Reader_need hn (258 : Int32) hq4) (fun s => Std.k s (lc hn rfl) kq_1) rfl w_587 w_2 w_584 w_586 ws_11 hy_Reader_need ⟨Nat.le_of_ble_eq_true rfl, Nat.le_of_ble_eq_true rfl⟩ ⟨Nat.le_of_ble_eq_true rfl, Nat.le_of_ble_eq_true rfl⟩ rfl (Nat.le_of_ble_eq_true rfl) d_Reader_readSnap_18 (fun hq5 => ?_)
  refine r_aload_n (pc := 21) (i := 0) d_Reader_readSnap_21 rfl rfl ?_
  refine r_gd (fun cq6 rcq6 kcq6 => ?_)
  refine r_getf (pc := 22) (ci := 9) (k := 1) (C := "CricketHay$Reader") (T := F_9) (N := 12) (v := .ref cq6) (fun s => Std.k s (lc hn rfl) kq_1) rfl (Nat.le_of_ble_eq_true rfl) rfl w_37 (fun _ => vr rfl rcq6) d_Reader_readSnap_22 ?_
  refine r_aload_n (pc := 25) (i := 0) d_Reader_readSnap_25 rfl rfl ?_
  refine r_iconst (pc := 26) (v := 1) d_Reader_readSnap_26 (by rfl) ?_
  refine r_bipush (pc := 27) (v := 20) d_Reader_readSnap_27 (by rfl) ?_
  refine r_cVi (pc := 29) (T := F_9) (N := 12) (st := [.ref cq6]) (ok_Reader_needNumber hn (1 : Int32) (20 : Int32) hq5) (fun s => Std.k s (lc hn rfl) kq_1) rfl w_595 w_2 w_592 w_594 ws_13 hy_Reader_needNumber ⟨Nat.le_of_ble_eq_true rfl, Nat.le_of_ble_eq_true rfl⟩ ⟨Nat.le_of_ble_eq_true rfl, Nat.le_of_ble_eq_true rfl⟩ rfl (Nat.le_of_ble_eq_true rfl) d_Reader_readSnap_29 (fun rq7 hq8 => ?_)
  refine r_putI (pc := 32) (ci := 7) (k := 13) (C := "CricketHay$Market") (T := F_7) (N := 16) (fun s => Std.k s (ltn (cm hn) (kl_M kcq6)) kcq6) rfl (Nat.le_of_ble_eq_true rfl) rfl rfl w_164 (fun _ _ => rfl) (fun _ => rfl) (fun _ => rfl) (fun s => Std.sI s _ _ _) d_Reader_readSnap_32 ?_
  refine r_ltH (fun hq9 => ?_)
  exact r_vret (pc := 35) rfl d_Reader_readSnap_35

def f_Reader_readInner (rE : Int32 → AH → Option AH) (a1 : Int32) (h : AH) : Option AH :=
  if a1 ≤ (6 : Int32) then
    bV (f_Reader_next h) fun hq1 =>
    bV (rE (a1 + (1 : Int32)) hq1) fun hq2 =>
    bV (f_Reader_need (41 : Int32) hq2) fun hq3 =>
    some hq3
  else
    bV (f_Reader_fail (2 : Int32) h) fun hq4 =>
    some hq4
set_option maxHeartbeats 2000000 in
theorem ok_Reader_readInner {G : AE} {n : Nat} (hn : NN ≤ n) {rE : Int32 → AH → Option AH} {dE : Nat} (hrE : ∀ (a1 : Int32) (h : AH), OK G n y_Reader_readEither dE φV [.ref 1, .int a1] h (rE a1 h)) (a1 : Int32) (h : AH) : OK G n y_Reader_readInner (dE + 12) φV [.ref 1, .int a1] h (f_Reader_readInner rE a1 h) := by
  refine ok_of (y := y_Reader_readInner) (lv0 := [some (.ref 1), some (.int a1)]) (by decide +kernel) (Nat.le_of_ble_eq_true rfl) ⟨rfl, ⟨rfl, trivial⟩⟩ ?_
  rw [f_Reader_readInner]
  refine r_iload_n (pc := 0) (i := 1) d_Reader_readInner_0 rfl rfl ?_
  refine r_bipush (pc := 1) (v := 6) d_Reader_readInner_1 (by rfl) ?_
  refine r_icmp_le (pc := 3) (tgt := 12) d_Reader_readInner_3 (by rfl) ?_ ?_
  · refine r_aload_n (pc := 12) (i := 0) d_Reader_readInner_12 rfl rfl ?_
    refine r_cVv (pc := 13) (T := F_9) (N := 12) (st := []) (ok_Reader_next hn h) (fun s => Std.k s (lc hn rfl) kq_1) rfl w_486 w_2 w_483 w_485 ws_1 hy_Reader_next (hf_of (d2 := 6) (D := dE + 12) (by omega) (Nat.le_of_ble_eq_true rfl)) ⟨Nat.le_of_ble_eq_true rfl, Nat.le_of_ble_eq_true rfl⟩ rfl (Nat.le_of_ble_eq_true rfl) d_Reader_readInner_13 (fun hq1 => ?_)
    refine r_aload_n (pc := 16) (i := 0) d_Reader_readInner_16 rfl rfl ?_
    refine r_iload_n (pc := 17) (i := 1) d_Reader_readInner_17 rfl rfl ?_
    refine r_iconst (pc := 18) (v := 1) d_Reader_readInner_18 (by rfl) ?_
    refine r_iadd (pc := 19) d_Reader_readInner_19 ?_
    refine r_cVv (pc := 20) (T := F_9) (N := 12) (st := []) (hrE (a1 + (1 : Int32)) hq1) (fun s => Std.k s (lc hn rfl) kq_1) rfl w_603 w_2 w_600 w_602 ws_15 hy_Reader_readEither (hf_of (d2 := dE) (D := dE + 12) (by omega) (Nat.le_of_ble_eq_true rfl)) ⟨Nat.le_of_ble_eq_true rfl, Nat.le_of_ble_eq_true rfl⟩ rfl (Nat.le_of_ble_eq_true rfl) d_Reader_readInner_20 (fun hq2 => ?_)
    refine r_aload_n (pc := 23) (i := 0) d_Reader_readInner_23 rfl rfl ?_
    refine r_bipush (pc := 24) (v := 41) d_Reader_readInner_24 (by rfl) ?_
    refine r_cVv (pc := 26) (T := F_9) (N := 12) (st := []) (ok_Reader_need hn (41 : Int32) hq2) (fun s => Std.k s (lc hn rfl) kq_1) rfl w_587 w_2 w_584 w_586 ws_11 hy_Reader_need (hf_of (d2 := 7) (D := dE + 12) (by omega) (Nat.le_of_ble_eq_true rfl)) ⟨Nat.le_of_ble_eq_true rfl, Nat.le_of_ble_eq_true rfl⟩ rfl (Nat.le_of_ble_eq_true rfl) d_Reader_readInner_26 (fun hq3 => ?_)
    exact r_vret (pc := 29) rfl d_Reader_readInner_29
  · refine r_aload_n (pc := 6) (i := 0) d_Reader_readInner_6 rfl rfl ?_
    refine r_iconst (pc := 7) (v := 2) d_Reader_readInner_7 (by rfl) ?_
    refine r_cVv (pc := 8) (T := F_9) (N := 12) (st := []) (ok_Reader_fail hn (2 : Int32) h) (fun s => Std.k s (lc hn rfl) kq_1) rfl w_500 w_2 w_497 w_499 ws_3 hy_Reader_fail (hf_of (d2 := 1) (D := dE + 12) (by omega) (Nat.le_of_ble_eq_true rfl)) ⟨Nat.le_of_ble_eq_true rfl, Nat.le_of_ble_eq_true rfl⟩ rfl (Nat.le_of_ble_eq_true rfl) d_Reader_readInner_8 (fun hq4 => ?_)
    exact r_vret (pc := 11) rfl d_Reader_readInner_11

def f_Reader_readUnit (rE : Int32 → AH → Option AH) (a1 : Int32) (h : AH) : Option AH :=
  gd h 1 2 5 fun cq1 =>
  if (hI h cq1 4) < (30 : Int32) then
    gd h 1 2 5 fun cq2 =>
    lt (sI h cq2 4 ((hI h cq2 4) + (1 : Int32))) fun hq3 =>
    if (hI hq3 1 4) = (1 : Int32) then
      gd hq3 1 2 5 fun cq5 =>
      bV (f_Formula_add cq5 (hI hq3 1 4) (hI hq3 1 6) hq3) fun hq6 =>
      bV (f_Reader_next hq6) fun hq7 =>
      some hq7
    else
    if (hI hq3 1 4) = (40 : Int32) then
      bV (f_Reader_readInner rE a1 hq3) fun hq9 =>
      some hq9
    else
    if (hI hq3 1 4) = (259 : Int32) then
      gd hq3 1 2 5 fun cq11 =>
      bV (f_Formula_add cq11 (hI hq3 1 4) (hI hq3 1 6) hq3) fun hq12 =>
      bV (f_Reader_next hq12) fun hq13 =>
      some hq13
    else
    if (hI hq3 1 4) = (260 : Int32) then
      gd hq3 1 2 5 fun cq15 =>
      bV (f_Formula_add cq15 (hI hq3 1 4) (hI hq3 1 6) hq3) fun hq16 =>
      bV (f_Reader_next hq16) fun hq17 =>
      some hq17
    else
    if (hI hq3 1 4) = (265 : Int32) then
      gd hq3 1 2 5 fun cq19 =>
      bV (f_Formula_add cq19 (hI hq3 1 4) (hI hq3 1 6) hq3) fun hq20 =>
      bV (f_Reader_next hq20) fun hq21 =>
      some hq21
    else
    if (hI hq3 1 4) = (272 : Int32) then
      gd hq3 1 2 5 fun cq23 =>
      bV (f_Formula_add cq23 (hI hq3 1 4) (hI hq3 1 6) hq3) fun hq24 =>
      bV (f_Reader_next hq24) fun hq25 =>
      some hq25
    else
    if (hI hq3 1 4) = (273 : Int32) then
      gd hq3 1 2 5 fun cq27 =>
      bV (f_Formula_add cq27 (hI hq3 1 4) (hI hq3 1 6) hq3) fun hq28 =>
      bV (f_Reader_next hq28) fun hq29 =>
      some hq29
    else
    if (hI hq3 1 4) = (274 : Int32) then
      gd hq3 1 2 5 fun cq31 =>
      bV (f_Formula_add cq31 (hI hq3 1 4) (hI hq3 1 6) hq3) fun hq32 =>
      bV (f_Reader_next hq32) fun hq33 =>
      some hq33
    else
      bV (f_Reader_fail (2 : Int32) hq3) fun hq34 =>
      some hq34
  else
    bV (f_Reader_fail (2 : Int32) h) fun hq35 =>
    some hq35
set_option maxHeartbeats 2000000 in
theorem ok_Reader_readUnit {G : AE} {n : Nat} (hn : NN ≤ n) {rE : Int32 → AH → Option AH} {dE : Nat} (hrE : ∀ (a1 : Int32) (h : AH), OK G n y_Reader_readEither dE φV [.ref 1, .int a1] h (rE a1 h)) (a1 : Int32) (h : AH) : OK G n y_Reader_readUnit (dE + 13) φV [.ref 1, .int a1] h (f_Reader_readUnit rE a1 h) := by
  refine ok_of (y := y_Reader_readUnit) (lv0 := [some (.ref 1), some (.int a1)]) (by decide +kernel) (Nat.le_of_ble_eq_true rfl) ⟨rfl, ⟨rfl, trivial⟩⟩ ?_
  rw [f_Reader_readUnit]
  refine r_aload_n (pc := 0) (i := 0) d_Reader_readUnit_0 rfl rfl ?_
  refine r_gd (fun cq1 rcq1 kcq1 => ?_)
  refine r_getf (pc := 1) (ci := 9) (k := 2) (C := "CricketHay$Reader") (T := F_9) (N := 12) (v := .ref cq1) (fun s => Std.k s (lc hn rfl) kq_1) rfl (Nat.le_of_ble_eq_true rfl) rfl w_38 (fun _ => vr rfl rcq1) d_Reader_readUnit_1 ?_
  refine r_getf (pc := 4) (ci := 5) (k := 4) (C := "CricketHay$Formula") (T := F_5) (N := 5) (v := .int (hI h cq1 4)) (fun s => Std.k s (ltn (cm hn) (kl_F kcq1)) kcq1) rfl (Nat.le_of_ble_eq_true rfl) rfl w_94 (fun _ => rfl) d_Reader_readUnit_4 ?_
  refine r_bipush (pc := 7) (v := 30) d_Reader_readUnit_7 (by rfl) ?_
  refine r_icmp_lt (pc := 9) (tgt := 18) d_Reader_readUnit_9 (by rfl) ?_ ?_
  · refine r_aload_n (pc := 18) (i := 0) d_Reader_readUnit_18 rfl rfl ?_
    refine r_gd (fun cq2 rcq2 kcq2 => ?_)
    refine r_getf (pc := 19) (ci := 9) (k := 2) (C := "CricketHay$Reader") (T := F_9) (N := 12) (v := .ref cq2) (fun s => Std.k s (lc hn rfl) kq_1) rfl (Nat.le_of_ble_eq_true rfl) rfl w_38 (fun _ => vr rfl rcq2) d_Reader_readUnit_19 ?_
    refine r_dup (pc := 22) d_Reader_readUnit_22 rfl ?_
    refine r_getf (pc := 23) (ci := 5) (k := 4) (C := "CricketHay$Formula") (T := F_5) (N := 5) (v := .int (hI h cq2 4)) (fun s => Std.k s (ltn (cm hn) (kl_F kcq2)) kcq2) rfl (Nat.le_of_ble_eq_true rfl) rfl w_94 (fun _ => rfl) d_Reader_readUnit_23 ?_
    refine r_iconst (pc := 26) (v := 1) d_Reader_readUnit_26 (by rfl) ?_
    refine r_iadd (pc := 27) d_Reader_readUnit_27 ?_
    refine r_putI (pc := 28) (ci := 5) (k := 4) (C := "CricketHay$Formula") (T := F_5) (N := 5) (fun s => Std.k s (ltn (cm hn) (kl_F kcq2)) kcq2) rfl (Nat.le_of_ble_eq_true rfl) rfl rfl w_94 (fun _ _ => rfl) (fun _ => rfl) (fun _ => rfl) (fun s => Std.sI s _ _ _) d_Reader_readUnit_28 ?_
    refine r_ltH (fun hq3 => ?_)
    refine r_aload_n (pc := 31) (i := 0) d_Reader_readUnit_31 rfl rfl ?_
    refine r_getf (pc := 32) (ci := 9) (k := 4) (C := "CricketHay$Reader") (T := F_9) (N := 12) (v := .int (hI hq3 1 4)) (fun s => Std.k s (lc hn rfl) kq_1) rfl (Nat.le_of_ble_eq_true rfl) rfl w_40 (fun _ => rfl) d_Reader_readUnit_32 ?_
    refine r_split (fun cq4 => ?_) (fun cq4 => ?_)
    · refine r_lookup (pc := 35) (tgt := 108) d_Reader_readUnit_35 (by decide) (by rw [cq4] <;> rfl) (by rfl) ?_
      refine r_aload_n (pc := 108) (i := 0) d_Reader_readUnit_108 rfl rfl ?_
      refine r_gd (fun cq5 rcq5 kcq5 => ?_)
      refine r_getf (pc := 109) (ci := 9) (k := 2) (C := "CricketHay$Reader") (T := F_9) (N := 12) (v := .ref cq5) (fun s => Std.k s (lc hn rfl) kq_1) rfl (Nat.le_of_ble_eq_true rfl) rfl w_38 (fun _ => vr rfl rcq5) d_Reader_readUnit_109 ?_
      refine r_aload_n (pc := 112) (i := 0) d_Reader_readUnit_112 rfl rfl ?_
      refine r_getf (pc := 113) (ci := 9) (k := 4) (C := "CricketHay$Reader") (T := F_9) (N := 12) (v := .int (hI hq3 1 4)) (fun s => Std.k s (lc hn rfl) kq_1) rfl (Nat.le_of_ble_eq_true rfl) rfl w_40 (fun _ => rfl) d_Reader_readUnit_113 ?_
      refine r_aload_n (pc := 116) (i := 0) d_Reader_readUnit_116 rfl rfl ?_
      refine r_getf (pc := 117) (ci := 9) (k := 6) (C := "CricketHay$Reader") (T := F_9) (N := 12) (v := .int (hI hq3 1 6)) (fun s => Std.k s (lc hn rfl) kq_1) rfl (Nat.le_of_ble_eq_true rfl) rfl w_42 (fun _ => rfl) d_Reader_readUnit_117 ?_
      refine r_cVv (pc := 120) (T := F_5) (N := 5) (st := []) (ok_Formula_add hn cq5 kcq5 (hI hq3 1 4) (hI hq3 1 6) hq3) (fun s => Std.k s (ltn (cm hn) (kl_F kcq5)) kcq5) rfl w_615 w_4 w_612 w_613 w_614 hy_Formula_add (hf_of (d2 := 1) (D := dE + 13) (by omega) (Nat.le_of_ble_eq_true rfl)) ⟨Nat.le_of_ble_eq_true rfl, Nat.le_of_ble_eq_true rfl⟩ rfl (Nat.le_of_ble_eq_true rfl) d_Reader_readUnit_120 (fun hq6 => ?_)
      refine r_aload_n (pc := 123) (i := 0) d_Reader_readUnit_123 rfl rfl ?_
      refine r_cVv (pc := 124) (T := F_9) (N := 12) (st := []) (ok_Reader_next hn hq6) (fun s => Std.k s (lc hn rfl) kq_1) rfl w_486 w_2 w_483 w_485 ws_1 hy_Reader_next (hf_of (d2 := 6) (D := dE + 13) (by omega) (Nat.le_of_ble_eq_true rfl)) ⟨Nat.le_of_ble_eq_true rfl, Nat.le_of_ble_eq_true rfl⟩ rfl (Nat.le_of_ble_eq_true rfl) d_Reader_readUnit_124 (fun hq7 => ?_)
      refine r_goto (pc := 127) (tgt := 143) d_Reader_readUnit_127 (by rfl) ?_
      exact r_vret (pc := 143) rfl d_Reader_readUnit_143
    refine r_split (fun cq8 => ?_) (fun cq8 => ?_)
    · refine r_lookup (pc := 35) (tgt := 130) d_Reader_readUnit_35 (by decide) (by rw [cq8] <;> rfl) (by rfl) ?_
      refine r_aload_n (pc := 130) (i := 0) d_Reader_readUnit_130 rfl rfl ?_
      refine r_iload_n (pc := 131) (i := 1) d_Reader_readUnit_131 rfl rfl ?_
      refine r_cVv (pc := 132) (T := F_9) (N := 12) (st := []) (ok_Reader_readInner hn hrE a1 hq3) (fun s => Std.k s (lc hn rfl) kq_1) rfl w_631 w_2 w_628 w_630 ws_21 hy_Reader_readInner (hf_of (d2 := dE + 12) (D := dE + 13) (by omega) (Nat.le_of_ble_eq_true rfl)) ⟨Nat.le_of_ble_eq_true rfl, Nat.le_of_ble_eq_true rfl⟩ rfl (Nat.le_of_ble_eq_true rfl) d_Reader_readUnit_132 (fun hq9 => ?_)
      refine r_goto (pc := 135) (tgt := 143) d_Reader_readUnit_135 (by rfl) ?_
      exact r_vret (pc := 143) rfl d_Reader_readUnit_143
    refine r_split (fun cq10 => ?_) (fun cq10 => ?_)
    · refine r_lookup (pc := 35) (tgt := 108) d_Reader_readUnit_35 (by decide) (by rw [cq10] <;> rfl) (by rfl) ?_
      refine r_aload_n (pc := 108) (i := 0) d_Reader_readUnit_108 rfl rfl ?_
      refine r_gd (fun cq11 rcq11 kcq11 => ?_)
      refine r_getf (pc := 109) (ci := 9) (k := 2) (C := "CricketHay$Reader") (T := F_9) (N := 12) (v := .ref cq11) (fun s => Std.k s (lc hn rfl) kq_1) rfl (Nat.le_of_ble_eq_true rfl) rfl w_38 (fun _ => vr rfl rcq11) d_Reader_readUnit_109 ?_
      refine r_aload_n (pc := 112) (i := 0) d_Reader_readUnit_112 rfl rfl ?_
      refine r_getf (pc := 113) (ci := 9) (k := 4) (C := "CricketHay$Reader") (T := F_9) (N := 12) (v := .int (hI hq3 1 4)) (fun s => Std.k s (lc hn rfl) kq_1) rfl (Nat.le_of_ble_eq_true rfl) rfl w_40 (fun _ => rfl) d_Reader_readUnit_113 ?_
      refine r_aload_n (pc := 116) (i := 0) d_Reader_readUnit_116 rfl rfl ?_
      refine r_getf (pc := 117) (ci := 9) (k := 6) (C := "CricketHay$Reader") (T := F_9) (N := 12) (v := .int (hI hq3 1 6)) (fun s => Std.k s (lc hn rfl) kq_1) rfl (Nat.le_of_ble_eq_true rfl) rfl w_42 (fun _ => rfl) d_Reader_readUnit_117 ?_
      refine r_cVv (pc := 120) (T := F_5) (N := 5) (st := []) (ok_Formula_add hn cq11 kcq11 (hI hq3 1 4) (hI hq3 1 6) hq3) (fun s => Std.k s (ltn (cm hn) (kl_F kcq11)) kcq11) rfl w_615 w_4 w_612 w_613 w_614 hy_Formula_add (hf_of (d2 := 1) (D := dE + 13) (by omega) (Nat.le_of_ble_eq_true rfl)) ⟨Nat.le_of_ble_eq_true rfl, Nat.le_of_ble_eq_true rfl⟩ rfl (Nat.le_of_ble_eq_true rfl) d_Reader_readUnit_120 (fun hq12 => ?_)
      refine r_aload_n (pc := 123) (i := 0) d_Reader_readUnit_123 rfl rfl ?_
      refine r_cVv (pc := 124) (T := F_9) (N := 12) (st := []) (ok_Reader_next hn hq12) (fun s => Std.k s (lc hn rfl) kq_1) rfl w_486 w_2 w_483 w_485 ws_1 hy_Reader_next (hf_of (d2 := 6) (D := dE + 13) (by omega) (Nat.le_of_ble_eq_true rfl)) ⟨Nat.le_of_ble_eq_true rfl, Nat.le_of_ble_eq_true rfl⟩ rfl (Nat.le_of_ble_eq_true rfl) d_Reader_readUnit_124 (fun hq13 => ?_)
      refine r_goto (pc := 127) (tgt := 143) d_Reader_readUnit_127 (by rfl) ?_
      exact r_vret (pc := 143) rfl d_Reader_readUnit_143
    refine r_split (fun cq14 => ?_) (fun cq14 => ?_)
    · refine r_lookup (pc := 35) (tgt := 108) d_Reader_readUnit_35 (by decide) (by rw [cq14] <;> rfl) (by rfl) ?_
      refine r_aload_n (pc := 108) (i := 0) d_Reader_readUnit_108 rfl rfl ?_
      refine r_gd (fun cq15 rcq15 kcq15 => ?_)
      refine r_getf (pc := 109) (ci := 9) (k := 2) (C := "CricketHay$Reader") (T := F_9) (N := 12) (v := .ref cq15) (fun s => Std.k s (lc hn rfl) kq_1) rfl (Nat.le_of_ble_eq_true rfl) rfl w_38 (fun _ => vr rfl rcq15) d_Reader_readUnit_109 ?_
      refine r_aload_n (pc := 112) (i := 0) d_Reader_readUnit_112 rfl rfl ?_
      refine r_getf (pc := 113) (ci := 9) (k := 4) (C := "CricketHay$Reader") (T := F_9) (N := 12) (v := .int (hI hq3 1 4)) (fun s => Std.k s (lc hn rfl) kq_1) rfl (Nat.le_of_ble_eq_true rfl) rfl w_40 (fun _ => rfl) d_Reader_readUnit_113 ?_
      refine r_aload_n (pc := 116) (i := 0) d_Reader_readUnit_116 rfl rfl ?_
      refine r_getf (pc := 117) (ci := 9) (k := 6) (C := "CricketHay$Reader") (T := F_9) (N := 12) (v := .int (hI hq3 1 6)) (fun s => Std.k s (lc hn rfl) kq_1) rfl (Nat.le_of_ble_eq_true rfl) rfl w_42 (fun _ => rfl) d_Reader_readUnit_117 ?_
      refine r_cVv (pc := 120) (T := F_5) (N := 5) (st := []) (ok_Formula_add hn cq15 kcq15 (hI hq3 1 4) (hI hq3 1 6) hq3) (fun s => Std.k s (ltn (cm hn) (kl_F kcq15)) kcq15) rfl w_615 w_4 w_612 w_613 w_614 hy_Formula_add (hf_of (d2 := 1) (D := dE + 13) (by omega) (Nat.le_of_ble_eq_true rfl)) ⟨Nat.le_of_ble_eq_true rfl, Nat.le_of_ble_eq_true rfl⟩ rfl (Nat.le_of_ble_eq_true rfl) d_Reader_readUnit_120 (fun hq16 => ?_)
      refine r_aload_n (pc := 123) (i := 0) d_Reader_readUnit_123 rfl rfl ?_
      refine r_cVv (pc := 124) (T := F_9) (N := 12) (st := []) (ok_Reader_next hn hq16) (fun s => Std.k s (lc hn rfl) kq_1) rfl w_486 w_2 w_483 w_485 ws_1 hy_Reader_next (hf_of (d2 := 6) (D := dE + 13) (by omega) (Nat.le_of_ble_eq_true rfl)) ⟨Nat.le_of_ble_eq_true rfl, Nat.le_of_ble_eq_true rfl⟩ rfl (Nat.le_of_ble_eq_true rfl) d_Reader_readUnit_124 (fun hq17 => ?_)
      refine r_goto (pc := 127) (tgt := 143) d_Reader_readUnit_127 (by rfl) ?_
      exact r_vret (pc := 143) rfl d_Reader_readUnit_143
    refine r_split (fun cq18 => ?_) (fun cq18 => ?_)
    · refine r_lookup (pc := 35) (tgt := 108) d_Reader_readUnit_35 (by decide) (by rw [cq18] <;> rfl) (by rfl) ?_
      refine r_aload_n (pc := 108) (i := 0) d_Reader_readUnit_108 rfl rfl ?_
      refine r_gd (fun cq19 rcq19 kcq19 => ?_)
      refine r_getf (pc := 109) (ci := 9) (k := 2) (C := "CricketHay$Reader") (T := F_9) (N := 12) (v := .ref cq19) (fun s => Std.k s (lc hn rfl) kq_1) rfl (Nat.le_of_ble_eq_true rfl) rfl w_38 (fun _ => vr rfl rcq19) d_Reader_readUnit_109 ?_
      refine r_aload_n (pc := 112) (i := 0) d_Reader_readUnit_112 rfl rfl ?_
      refine r_getf (pc := 113) (ci := 9) (k := 4) (C := "CricketHay$Reader") (T := F_9) (N := 12) (v := .int (hI hq3 1 4)) (fun s => Std.k s (lc hn rfl) kq_1) rfl (Nat.le_of_ble_eq_true rfl) rfl w_40 (fun _ => rfl) d_Reader_readUnit_113 ?_
      refine r_aload_n (pc := 116) (i := 0) d_Reader_readUnit_116 rfl rfl ?_
      refine r_getf (pc := 117) (ci := 9) (k := 6) (C := "CricketHay$Reader") (T := F_9) (N := 12) (v := .int (hI hq3 1 6)) (fun s => Std.k s (lc hn rfl) kq_1) rfl (Nat.le_of_ble_eq_true rfl) rfl w_42 (fun _ => rfl) d_Reader_readUnit_117 ?_
      refine r_cVv (pc := 120) (T := F_5) (N := 5) (st := []) (ok_Formula_add hn cq19 kcq19 (hI hq3 1 4) (hI hq3 1 6) hq3) (fun s => Std.k s (ltn (cm hn) (kl_F kcq19)) kcq19) rfl w_615 w_4 w_612 w_613 w_614 hy_Formula_add (hf_of (d2 := 1) (D := dE + 13) (by omega) (Nat.le_of_ble_eq_true rfl)) ⟨Nat.le_of_ble_eq_true rfl, Nat.le_of_ble_eq_true rfl⟩ rfl (Nat.le_of_ble_eq_true rfl) d_Reader_readUnit_120 (fun hq20 => ?_)
      refine r_aload_n (pc := 123) (i := 0) d_Reader_readUnit_123 rfl rfl ?_
      refine r_cVv (pc := 124) (T := F_9) (N := 12) (st := []) (ok_Reader_next hn hq20) (fun s => Std.k s (lc hn rfl) kq_1) rfl w_486 w_2 w_483 w_485 ws_1 hy_Reader_next (hf_of (d2 := 6) (D := dE + 13) (by omega) (Nat.le_of_ble_eq_true rfl)) ⟨Nat.le_of_ble_eq_true rfl, Nat.le_of_ble_eq_true rfl⟩ rfl (Nat.le_of_ble_eq_true rfl) d_Reader_readUnit_124 (fun hq21 => ?_)
      refine r_goto (pc := 127) (tgt := 143) d_Reader_readUnit_127 (by rfl) ?_
      exact r_vret (pc := 143) rfl d_Reader_readUnit_143
    refine r_split (fun cq22 => ?_) (fun cq22 => ?_)
    · refine r_lookup (pc := 35) (tgt := 108) d_Reader_readUnit_35 (by decide) (by rw [cq22] <;> rfl) (by rfl) ?_
      refine r_aload_n (pc := 108) (i := 0) d_Reader_readUnit_108 rfl rfl ?_
      refine r_gd (fun cq23 rcq23 kcq23 => ?_)
      refine r_getf (pc := 109) (ci := 9) (k := 2) (C := "CricketHay$Reader") (T := F_9) (N := 12) (v := .ref cq23) (fun s => Std.k s (lc hn rfl) kq_1) rfl (Nat.le_of_ble_eq_true rfl) rfl w_38 (fun _ => vr rfl rcq23) d_Reader_readUnit_109 ?_
      refine r_aload_n (pc := 112) (i := 0) d_Reader_readUnit_112 rfl rfl ?_
      refine r_getf (pc := 113) (ci := 9) (k := 4) (C := "CricketHay$Reader") (T := F_9) (N := 12) (v := .int (hI hq3 1 4)) (fun s => Std.k s (lc hn rfl) kq_1) rfl (Nat.le_of_ble_eq_true rfl) rfl w_40 (fun _ => rfl) d_Reader_readUnit_113 ?_
      refine r_aload_n (pc := 116) (i := 0) d_Reader_readUnit_116 rfl rfl ?_
      refine r_getf (pc := 117) (ci := 9) (k := 6) (C := "CricketHay$Reader") (T := F_9) (N := 12) (v := .int (hI hq3 1 6)) (fun s => Std.k s (lc hn rfl) kq_1) rfl (Nat.le_of_ble_eq_true rfl) rfl w_42 (fun _ => rfl) d_Reader_readUnit_117 ?_
      refine r_cVv (pc := 120) (T := F_5) (N := 5) (st := []) (ok_Formula_add hn cq23 kcq23 (hI hq3 1 4) (hI hq3 1 6) hq3) (fun s => Std.k s (ltn (cm hn) (kl_F kcq23)) kcq23) rfl w_615 w_4 w_612 w_613 w_614 hy_Formula_add (hf_of (d2 := 1) (D := dE + 13) (by omega) (Nat.le_of_ble_eq_true rfl)) ⟨Nat.le_of_ble_eq_true rfl, Nat.le_of_ble_eq_true rfl⟩ rfl (Nat.le_of_ble_eq_true rfl) d_Reader_readUnit_120 (fun hq24 => ?_)
      refine r_aload_n (pc := 123) (i := 0) d_Reader_readUnit_123 rfl rfl ?_
      refine r_cVv (pc := 124) (T := F_9) (N := 12) (st := []) (ok_Reader_next hn hq24) (fun s => Std.k s (lc hn rfl) kq_1) rfl w_486 w_2 w_483 w_485 ws_1 hy_Reader_next (hf_of (d2 := 6) (D := dE + 13) (by omega) (Nat.le_of_ble_eq_true rfl)) ⟨Nat.le_of_ble_eq_true rfl, Nat.le_of_ble_eq_true rfl⟩ rfl (Nat.le_of_ble_eq_true rfl) d_Reader_readUnit_124 (fun hq25 => ?_)
      refine r_goto (pc := 127) (tgt := 143) d_Reader_readUnit_127 (by rfl) ?_
      exact r_vret (pc := 143) rfl d_Reader_readUnit_143
    refine r_split (fun cq26 => ?_) (fun cq26 => ?_)
    · refine r_lookup (pc := 35) (tgt := 108) d_Reader_readUnit_35 (by decide) (by rw [cq26] <;> rfl) (by rfl) ?_
      refine r_aload_n (pc := 108) (i := 0) d_Reader_readUnit_108 rfl rfl ?_
      refine r_gd (fun cq27 rcq27 kcq27 => ?_)
      refine r_getf (pc := 109) (ci := 9) (k := 2) (C := "CricketHay$Reader") (T := F_9) (N := 12) (v := .ref cq27) (fun s => Std.k s (lc hn rfl) kq_1) rfl (Nat.le_of_ble_eq_true rfl) rfl w_38 (fun _ => vr rfl rcq27) d_Reader_readUnit_109 ?_
      refine r_aload_n (pc := 112) (i := 0) d_Reader_readUnit_112 rfl rfl ?_
      refine r_getf (pc := 113) (ci := 9) (k := 4) (C := "CricketHay$Reader") (T := F_9) (N := 12) (v := .int (hI hq3 1 4)) (fun s => Std.k s (lc hn rfl) kq_1) rfl (Nat.le_of_ble_eq_true rfl) rfl w_40 (fun _ => rfl) d_Reader_readUnit_113 ?_
      refine r_aload_n (pc := 116) (i := 0) d_Reader_readUnit_116 rfl rfl ?_
      refine r_getf (pc := 117) (ci := 9) (k := 6) (C := "CricketHay$Reader") (T := F_9) (N := 12) (v := .int (hI hq3 1 6)) (fun s => Std.k s (lc hn rfl) kq_1) rfl (Nat.le_of_ble_eq_true rfl) rfl w_42 (fun _ => rfl) d_Reader_readUnit_117 ?_
      refine r_cVv (pc := 120) (T := F_5) (N := 5) (st := []) (ok_Formula_add hn cq27 kcq27 (hI hq3 1 4) (hI hq3 1 6) hq3) (fun s => Std.k s (ltn (cm hn) (kl_F kcq27)) kcq27) rfl w_615 w_4 w_612 w_613 w_614 hy_Formula_add (hf_of (d2 := 1) (D := dE + 13) (by omega) (Nat.le_of_ble_eq_true rfl)) ⟨Nat.le_of_ble_eq_true rfl, Nat.le_of_ble_eq_true rfl⟩ rfl (Nat.le_of_ble_eq_true rfl) d_Reader_readUnit_120 (fun hq28 => ?_)
      refine r_aload_n (pc := 123) (i := 0) d_Reader_readUnit_123 rfl rfl ?_
      refine r_cVv (pc := 124) (T := F_9) (N := 12) (st := []) (ok_Reader_next hn hq28) (fun s => Std.k s (lc hn rfl) kq_1) rfl w_486 w_2 w_483 w_485 ws_1 hy_Reader_next (hf_of (d2 := 6) (D := dE + 13) (by omega) (Nat.le_of_ble_eq_true rfl)) ⟨Nat.le_of_ble_eq_true rfl, Nat.le_of_ble_eq_true rfl⟩ rfl (Nat.le_of_ble_eq_true rfl) d_Reader_readUnit_124 (fun hq29 => ?_)
      refine r_goto (pc := 127) (tgt := 143) d_Reader_readUnit_127 (by rfl) ?_
      exact r_vret (pc := 143) rfl d_Reader_readUnit_143
    refine r_split (fun cq30 => ?_) (fun cq30 => ?_)
    · refine r_lookup (pc := 35) (tgt := 108) d_Reader_readUnit_35 (by decide) (by rw [cq30] <;> rfl) (by rfl) ?_
      refine r_aload_n (pc := 108) (i := 0) d_Reader_readUnit_108 rfl rfl ?_
      refine r_gd (fun cq31 rcq31 kcq31 => ?_)
      refine r_getf (pc := 109) (ci := 9) (k := 2) (C := "CricketHay$Reader") (T := F_9) (N := 12) (v := .ref cq31) (fun s => Std.k s (lc hn rfl) kq_1) rfl (Nat.le_of_ble_eq_true rfl) rfl w_38 (fun _ => vr rfl rcq31) d_Reader_readUnit_109 ?_
      refine r_aload_n (pc := 112) (i := 0) d_Reader_readUnit_112 rfl rfl ?_
      refine r_getf (pc := 113) (ci := 9) (k := 4) (C := "CricketHay$Reader") (T := F_9) (N := 12) (v := .int (hI hq3 1 4)) (fun s => Std.k s (lc hn rfl) kq_1) rfl (Nat.le_of_ble_eq_true rfl) rfl w_40 (fun _ => rfl) d_Reader_readUnit_113 ?_
      refine r_aload_n (pc := 116) (i := 0) d_Reader_readUnit_116 rfl rfl ?_
      refine r_getf (pc := 117) (ci := 9) (k := 6) (C := "CricketHay$Reader") (T := F_9) (N := 12) (v := .int (hI hq3 1 6)) (fun s => Std.k s (lc hn rfl) kq_1) rfl (Nat.le_of_ble_eq_true rfl) rfl w_42 (fun _ => rfl) d_Reader_readUnit_117 ?_
      refine r_cVv (pc := 120) (T := F_5) (N := 5) (st := []) (ok_Formula_add hn cq31 kcq31 (hI hq3 1 4) (hI hq3 1 6) hq3) (fun s => Std.k s (ltn (cm hn) (kl_F kcq31)) kcq31) rfl w_615 w_4 w_612 w_613 w_614 hy_Formula_add (hf_of (d2 := 1) (D := dE + 13) (by omega) (Nat.le_of_ble_eq_true rfl)) ⟨Nat.le_of_ble_eq_true rfl, Nat.le_of_ble_eq_true rfl⟩ rfl (Nat.le_of_ble_eq_true rfl) d_Reader_readUnit_120 (fun hq32 => ?_)
      refine r_aload_n (pc := 123) (i := 0) d_Reader_readUnit_123 rfl rfl ?_
      refine r_cVv (pc := 124) (T := F_9) (N := 12) (st := []) (ok_Reader_next hn hq32) (fun s => Std.k s (lc hn rfl) kq_1) rfl w_486 w_2 w_483 w_485 ws_1 hy_Reader_next (hf_of (d2 := 6) (D := dE + 13) (by omega) (Nat.le_of_ble_eq_true rfl)) ⟨Nat.le_of_ble_eq_true rfl, Nat.le_of_ble_eq_true rfl⟩ rfl (Nat.le_of_ble_eq_true rfl) d_Reader_readUnit_124 (fun hq33 => ?_)
      refine r_goto (pc := 127) (tgt := 143) d_Reader_readUnit_127 (by rfl) ?_
      exact r_vret (pc := 143) rfl d_Reader_readUnit_143
    refine r_lookup (pc := 35) (tgt := 138) d_Reader_readUnit_35 (by decide) ((lv_osw cq4 (by rfl)).trans ((lv_osw cq8 (by rfl)).trans ((lv_osw cq10 (by rfl)).trans ((lv_osw cq14 (by rfl)).trans ((lv_osw cq18 (by rfl)).trans ((lv_osw cq22 (by rfl)).trans ((lv_osw cq26 (by rfl)).trans ((lv_osw cq30 (by rfl)).trans (rfl))))))))) (by rfl) ?_
    refine r_aload_n (pc := 138) (i := 0) d_Reader_readUnit_138 rfl rfl ?_
    refine r_iconst (pc := 139) (v := 2) d_Reader_readUnit_139 (by rfl) ?_
    refine r_cVv (pc := 140) (T := F_9) (N := 12) (st := []) (ok_Reader_fail hn (2 : Int32) hq3) (fun s => Std.k s (lc hn rfl) kq_1) rfl w_500 w_2 w_497 w_499 ws_3 hy_Reader_fail (hf_of (d2 := 1) (D := dE + 13) (by omega) (Nat.le_of_ble_eq_true rfl)) ⟨Nat.le_of_ble_eq_true rfl, Nat.le_of_ble_eq_true rfl⟩ rfl (Nat.le_of_ble_eq_true rfl) d_Reader_readUnit_140 (fun hq34 => ?_)
    exact r_vret (pc := 143) rfl d_Reader_readUnit_143
  · refine r_aload_n (pc := 12) (i := 0) d_Reader_readUnit_12 rfl rfl ?_
    refine r_iconst (pc := 13) (v := 2) d_Reader_readUnit_13 (by rfl) ?_
    refine r_cVv (pc := 14) (T := F_9) (N := 12) (st := []) (ok_Reader_fail hn (2 : Int32) h) (fun s => Std.k s (lc hn rfl) kq_1) rfl w_500 w_2 w_497 w_499 ws_3 hy_Reader_fail (hf_of (d2 := 1) (D := dE + 13) (by omega) (Nat.le_of_ble_eq_true rfl)) ⟨Nat.le_of_ble_eq_true rfl, Nat.le_of_ble_eq_true rfl⟩ rfl (Nat.le_of_ble_eq_true rfl) d_Reader_readUnit_14 (fun hq35 => ?_)
    exact r_vret (pc := 17) rfl d_Reader_readUnit_17

def f_Reader_readTerm_b40 (rE : Int32 → AH → Option AH) (a1 : Int32) (k7 : Int32 → AH → Option AH) (x2 : Int32) (h : AH) : Option AH :=
  lt (hI h 1 4) fun xq1 =>
  bV (f_Reader_next h) fun hq2 =>
  bV (f_Reader_readUnit rE a1 hq2) fun hq3 =>
  gd hq3 1 2 5 fun cq4 =>
  bV (f_Formula_add cq4 xq1 (0 : Int32) hq3) fun hq5 =>
  lt (x2 + (1 : Int32)) fun xq6 =>
  k7 xq6 hq5
set_option maxHeartbeats 2000000 in
theorem o_Reader_readTerm_b40 {G : AE} {n : Nat} (hn : NN ≤ n) {rE : Int32 → AH → Option AH} {dE : Nat} (hrE : ∀ (a1 : Int32) (h : AH), OK G n y_Reader_readEither dE φV [.ref 1, .int a1] h (rE a1 h)) {a1 : Int32}  {k7 : Int32 → AH → Option AH} (hk7 : ∀ (x2 : Int32) (h : AH), AJ G n y_Reader_readTerm (dE + 14) φV 7 [some (.ref 1), some (.int a1), some (.int x2), none] [] h (k7 x2 h)) : ∀ (x2 : Int32) (h : AH), AJ G n y_Reader_readTerm (dE + 14) φV 40 [some (.ref 1), some (.int a1), some (.int x2), none] [] h (f_Reader_readTerm_b40 rE a1 k7 x2 h) := by
  intro x2 h
  rw [f_Reader_readTerm_b40]
  refine r_aload_n (pc := 40) (i := 0) d_Reader_readTerm_40 rfl rfl ?_
  refine r_getf (pc := 41) (ci := 9) (k := 4) (C := "CricketHay$Reader") (T := F_9) (N := 12) (v := .int (hI h 1 4)) (fun s => Std.k s (lc hn rfl) kq_1) rfl (Nat.le_of_ble_eq_true rfl) rfl w_40 (fun _ => rfl) d_Reader_readTerm_41 ?_
  refine r_ltI (fun xq1 => ?_)
  refine r_istore_n (pc := 44) (i := 3) (lv1 := [some (.ref 1), some (.int a1), some (.int x2), some (.int xq1)]) d_Reader_readTerm_44 rfl (Nat.le_of_ble_eq_true rfl) rfl ?_
  refine r_aload_n (pc := 45) (i := 0) d_Reader_readTerm_45 rfl rfl ?_
  refine r_cVv (pc := 46) (T := F_9) (N := 12) (st := []) (ok_Reader_next hn h) (fun s => Std.k s (lc hn rfl) kq_1) rfl w_486 w_2 w_483 w_485 ws_1 hy_Reader_next (hf_of (d2 := 6) (D := dE + 14) (by omega) (Nat.le_of_ble_eq_true rfl)) ⟨Nat.le_of_ble_eq_true rfl, Nat.le_of_ble_eq_true rfl⟩ rfl (Nat.le_of_ble_eq_true rfl) d_Reader_readTerm_46 (fun hq2 => ?_)
  refine r_aload_n (pc := 49) (i := 0) d_Reader_readTerm_49 rfl rfl ?_
  refine r_iload_n (pc := 50) (i := 1) d_Reader_readTerm_50 rfl rfl ?_
  refine r_cVv (pc := 51) (T := F_9) (N := 12) (st := []) (ok_Reader_readUnit hn hrE a1 hq2) (fun s => Std.k s (lc hn rfl) kq_1) rfl w_627 w_2 w_624 w_626 ws_20 hy_Reader_readUnit (hf_of (d2 := dE + 13) (D := dE + 14) (by omega) (Nat.le_of_ble_eq_true rfl)) ⟨Nat.le_of_ble_eq_true rfl, Nat.le_of_ble_eq_true rfl⟩ rfl (Nat.le_of_ble_eq_true rfl) d_Reader_readTerm_51 (fun hq3 => ?_)
  refine r_aload_n (pc := 54) (i := 0) d_Reader_readTerm_54 rfl rfl ?_
  refine r_gd (fun cq4 rcq4 kcq4 => ?_)
  refine r_getf (pc := 55) (ci := 9) (k := 2) (C := "CricketHay$Reader") (T := F_9) (N := 12) (v := .ref cq4) (fun s => Std.k s (lc hn rfl) kq_1) rfl (Nat.le_of_ble_eq_true rfl) rfl w_38 (fun _ => vr rfl rcq4) d_Reader_readTerm_55 ?_
  refine r_iload_n (pc := 58) (i := 3) d_Reader_readTerm_58 rfl rfl ?_
  refine r_iconst (pc := 59) (v := 0) d_Reader_readTerm_59 (by rfl) ?_
  refine r_cVv (pc := 60) (T := F_5) (N := 5) (st := []) (ok_Formula_add hn cq4 kcq4 xq1 (0 : Int32) hq3) (fun s => Std.k s (ltn (cm hn) (kl_F kcq4)) kcq4) rfl w_615 w_4 w_612 w_613 w_614 hy_Formula_add (hf_of (d2 := 1) (D := dE + 14) (by omega) (Nat.le_of_ble_eq_true rfl)) ⟨Nat.le_of_ble_eq_true rfl, Nat.le_of_ble_eq_true rfl⟩ rfl (Nat.le_of_ble_eq_true rfl) d_Reader_readTerm_60 (fun hq5 => ?_)
  refine r_ltE (fun xq6 exq6 => ?_)
  refine r_iinc (pc := 63) (v := xq6) (lv1 := [some (.ref 1), some (.int a1), some (.int xq6), some (.int xq1)]) d_Reader_readTerm_63 rfl exq6.symm (Nat.le_of_ble_eq_true rfl) rfl ?_
  refine r_goto (pc := 66) (tgt := 7) d_Reader_readTerm_66 (by rfl) ?_
  exact r_wk (hk7 xq6 hq5) ⟨rfl, ⟨rfl, ⟨rfl, trivial⟩⟩⟩
def f_Reader_readTerm_l7 (rE : Int32 → AH → Option AH) (a1 : Int32)  : Nat → Int32 → AH → Option AH
  | 0, _, _ => none
  | n + 1, x2, h =>
    if (30 : Int32) ≤ x2 then
      some h
    else
      if (hI h 1 4) = (42 : Int32) then
        f_Reader_readTerm_b40 rE a1 (f_Reader_readTerm_l7 rE a1 n) x2 h
      else
        if (hI h 1 4) = (47 : Int32) then
          f_Reader_readTerm_b40 rE a1 (f_Reader_readTerm_l7 rE a1 n) x2 h
        else
          if ¬ (hI h 1 4) = (37 : Int32) then
            some h
          else
            f_Reader_readTerm_b40 rE a1 (f_Reader_readTerm_l7 rE a1 n) x2 h
set_option maxHeartbeats 2000000 in
theorem o_Reader_readTerm_l7 {G : AE} {n : Nat} (hn : NN ≤ n) {rE : Int32 → AH → Option AH} {dE : Nat} (hrE : ∀ (a1 : Int32) (h : AH), OK G n y_Reader_readEither dE φV [.ref 1, .int a1] h (rE a1 h)) {a1 : Int32}   : ∀ (n0 : Nat) (x2 : Int32) (h : AH), AJ G n y_Reader_readTerm (dE + 14) φV 7 [some (.ref 1), some (.int a1), some (.int x2), none] [] h (f_Reader_readTerm_l7 rE a1 n0 x2 h) := by
  intro n0
  induction n0 with
  | zero => intros; exact r_none
  | succ n0 ih =>
    intro x2 h
    rw [f_Reader_readTerm_l7]
    refine r_iload_n (pc := 7) (i := 2) d_Reader_readTerm_7 rfl rfl ?_
    refine r_bipush (pc := 8) (v := 30) d_Reader_readTerm_8 (by rfl) ?_
    refine r_icmp_ge (pc := 10) (tgt := 69) d_Reader_readTerm_10 (by rfl) ?_ ?_
    · exact r_vret (pc := 69) rfl d_Reader_readTerm_69
    · refine r_aload_n (pc := 13) (i := 0) d_Reader_readTerm_13 rfl rfl ?_
      refine r_getf (pc := 14) (ci := 9) (k := 4) (C := "CricketHay$Reader") (T := F_9) (N := 12) (v := .int (hI h 1 4)) (fun s => Std.k s (lc hn rfl) kq_1) rfl (Nat.le_of_ble_eq_true rfl) rfl w_40 (fun _ => rfl) d_Reader_readTerm_14 ?_
      refine r_bipush (pc := 17) (v := 42) d_Reader_readTerm_17 (by rfl) ?_
      refine r_icmp_eq (pc := 19) (tgt := 40) d_Reader_readTerm_19 (by rfl) ?_ ?_
      · exact r_wk (o_Reader_readTerm_b40 hn hrE ih x2 h) ⟨rfl, ⟨rfl, ⟨rfl, trivial⟩⟩⟩
      · refine r_aload_n (pc := 22) (i := 0) d_Reader_readTerm_22 rfl rfl ?_
        refine r_getf (pc := 23) (ci := 9) (k := 4) (C := "CricketHay$Reader") (T := F_9) (N := 12) (v := .int (hI h 1 4)) (fun s => Std.k s (lc hn rfl) kq_1) rfl (Nat.le_of_ble_eq_true rfl) rfl w_40 (fun _ => rfl) d_Reader_readTerm_23 ?_
        refine r_bipush (pc := 26) (v := 47) d_Reader_readTerm_26 (by rfl) ?_
        refine r_icmp_eq (pc := 28) (tgt := 40) d_Reader_readTerm_28 (by rfl) ?_ ?_
        · exact r_wk (o_Reader_readTerm_b40 hn hrE ih x2 h) ⟨rfl, ⟨rfl, ⟨rfl, trivial⟩⟩⟩
        · refine r_aload_n (pc := 31) (i := 0) d_Reader_readTerm_31 rfl rfl ?_
          refine r_getf (pc := 32) (ci := 9) (k := 4) (C := "CricketHay$Reader") (T := F_9) (N := 12) (v := .int (hI h 1 4)) (fun s => Std.k s (lc hn rfl) kq_1) rfl (Nat.le_of_ble_eq_true rfl) rfl w_40 (fun _ => rfl) d_Reader_readTerm_32 ?_
          refine r_bipush (pc := 35) (v := 37) d_Reader_readTerm_35 (by rfl) ?_
          refine r_icmp_ne (pc := 37) (tgt := 69) d_Reader_readTerm_37 (by rfl) ?_ ?_
          · exact r_vret (pc := 69) rfl d_Reader_readTerm_69
          · exact r_wk (o_Reader_readTerm_b40 hn hrE ih x2 h) ⟨rfl, ⟨rfl, ⟨rfl, trivial⟩⟩⟩
def f_Reader_readTerm (rE : Int32 → AH → Option AH) (a1 : Int32) (h : AH) : Option AH :=
  bV (f_Reader_readUnit rE a1 h) fun hq1 =>
  f_Reader_readTerm_l7 rE a1 FU (0 : Int32) hq1
set_option maxHeartbeats 2000000 in
theorem ok_Reader_readTerm {G : AE} {n : Nat} (hn : NN ≤ n) {rE : Int32 → AH → Option AH} {dE : Nat} (hrE : ∀ (a1 : Int32) (h : AH), OK G n y_Reader_readEither dE φV [.ref 1, .int a1] h (rE a1 h)) (a1 : Int32) (h : AH) : OK G n y_Reader_readTerm (dE + 14) φV [.ref 1, .int a1] h (f_Reader_readTerm rE a1 h) := by
  refine ok_of (y := y_Reader_readTerm) (lv0 := [some (.ref 1), some (.int a1), none, none]) (by decide +kernel) (Nat.le_of_ble_eq_true rfl) ⟨rfl, ⟨rfl, trivial⟩⟩ ?_
  rw [f_Reader_readTerm]
  refine r_aload_n (pc := 0) (i := 0) d_Reader_readTerm_0 rfl rfl ?_
  refine r_iload_n (pc := 1) (i := 1) d_Reader_readTerm_1 rfl rfl ?_
  refine r_cVv (pc := 2) (T := F_9) (N := 12) (st := []) (ok_Reader_readUnit hn hrE a1 h) (fun s => Std.k s (lc hn rfl) kq_1) rfl w_627 w_2 w_624 w_626 ws_20 hy_Reader_readUnit (hf_of (d2 := dE + 13) (D := dE + 14) (by omega) (Nat.le_of_ble_eq_true rfl)) ⟨Nat.le_of_ble_eq_true rfl, Nat.le_of_ble_eq_true rfl⟩ rfl (Nat.le_of_ble_eq_true rfl) d_Reader_readTerm_2 (fun hq1 => ?_)
  refine r_iconst (pc := 5) (v := 0) d_Reader_readTerm_5 (by rfl) ?_
  refine r_istore_n (pc := 6) (i := 2) (lv1 := [some (.ref 1), some (.int a1), some (.int (0 : Int32)), none]) d_Reader_readTerm_6 rfl (Nat.le_of_ble_eq_true rfl) rfl ?_
  exact r_wk (o_Reader_readTerm_l7 hn hrE FU (0 : Int32) hq1) ⟨rfl, ⟨rfl, ⟨rfl, trivial⟩⟩⟩

def f_Reader_readSum_b31 (rE : Int32 → AH → Option AH) (a1 : Int32) (k7 : Int32 → AH → Option AH) (x2 : Int32) (h : AH) : Option AH :=
  lt (hI h 1 4) fun xq1 =>
  bV (f_Reader_next h) fun hq2 =>
  bV (f_Reader_readTerm rE a1 hq2) fun hq3 =>
  gd hq3 1 2 5 fun cq4 =>
  bV (f_Formula_add cq4 xq1 (0 : Int32) hq3) fun hq5 =>
  lt (x2 + (1 : Int32)) fun xq6 =>
  k7 xq6 hq5
set_option maxHeartbeats 2000000 in
theorem o_Reader_readSum_b31 {G : AE} {n : Nat} (hn : NN ≤ n) {rE : Int32 → AH → Option AH} {dE : Nat} (hrE : ∀ (a1 : Int32) (h : AH), OK G n y_Reader_readEither dE φV [.ref 1, .int a1] h (rE a1 h)) {a1 : Int32}  {k7 : Int32 → AH → Option AH} (hk7 : ∀ (x2 : Int32) (h : AH), AJ G n y_Reader_readSum (dE + 15) φV 7 [some (.ref 1), some (.int a1), some (.int x2), none] [] h (k7 x2 h)) : ∀ (x2 : Int32) (h : AH), AJ G n y_Reader_readSum (dE + 15) φV 31 [some (.ref 1), some (.int a1), some (.int x2), none] [] h (f_Reader_readSum_b31 rE a1 k7 x2 h) := by
  intro x2 h
  rw [f_Reader_readSum_b31]
  refine r_aload_n (pc := 31) (i := 0) d_Reader_readSum_31 rfl rfl ?_
  refine r_getf (pc := 32) (ci := 9) (k := 4) (C := "CricketHay$Reader") (T := F_9) (N := 12) (v := .int (hI h 1 4)) (fun s => Std.k s (lc hn rfl) kq_1) rfl (Nat.le_of_ble_eq_true rfl) rfl w_40 (fun _ => rfl) d_Reader_readSum_32 ?_
  refine r_ltI (fun xq1 => ?_)
  refine r_istore_n (pc := 35) (i := 3) (lv1 := [some (.ref 1), some (.int a1), some (.int x2), some (.int xq1)]) d_Reader_readSum_35 rfl (Nat.le_of_ble_eq_true rfl) rfl ?_
  refine r_aload_n (pc := 36) (i := 0) d_Reader_readSum_36 rfl rfl ?_
  refine r_cVv (pc := 37) (T := F_9) (N := 12) (st := []) (ok_Reader_next hn h) (fun s => Std.k s (lc hn rfl) kq_1) rfl w_486 w_2 w_483 w_485 ws_1 hy_Reader_next (hf_of (d2 := 6) (D := dE + 15) (by omega) (Nat.le_of_ble_eq_true rfl)) ⟨Nat.le_of_ble_eq_true rfl, Nat.le_of_ble_eq_true rfl⟩ rfl (Nat.le_of_ble_eq_true rfl) d_Reader_readSum_37 (fun hq2 => ?_)
  refine r_aload_n (pc := 40) (i := 0) d_Reader_readSum_40 rfl rfl ?_
  refine r_iload_n (pc := 41) (i := 1) d_Reader_readSum_41 rfl rfl ?_
  refine r_cVv (pc := 42) (T := F_9) (N := 12) (st := []) (ok_Reader_readTerm hn hrE a1 hq2) (fun s => Std.k s (lc hn rfl) kq_1) rfl w_623 w_2 w_620 w_622 ws_19 hy_Reader_readTerm (hf_of (d2 := dE + 14) (D := dE + 15) (by omega) (Nat.le_of_ble_eq_true rfl)) ⟨Nat.le_of_ble_eq_true rfl, Nat.le_of_ble_eq_true rfl⟩ rfl (Nat.le_of_ble_eq_true rfl) d_Reader_readSum_42 (fun hq3 => ?_)
  refine r_aload_n (pc := 45) (i := 0) d_Reader_readSum_45 rfl rfl ?_
  refine r_gd (fun cq4 rcq4 kcq4 => ?_)
  refine r_getf (pc := 46) (ci := 9) (k := 2) (C := "CricketHay$Reader") (T := F_9) (N := 12) (v := .ref cq4) (fun s => Std.k s (lc hn rfl) kq_1) rfl (Nat.le_of_ble_eq_true rfl) rfl w_38 (fun _ => vr rfl rcq4) d_Reader_readSum_46 ?_
  refine r_iload_n (pc := 49) (i := 3) d_Reader_readSum_49 rfl rfl ?_
  refine r_iconst (pc := 50) (v := 0) d_Reader_readSum_50 (by rfl) ?_
  refine r_cVv (pc := 51) (T := F_5) (N := 5) (st := []) (ok_Formula_add hn cq4 kcq4 xq1 (0 : Int32) hq3) (fun s => Std.k s (ltn (cm hn) (kl_F kcq4)) kcq4) rfl w_615 w_4 w_612 w_613 w_614 hy_Formula_add (hf_of (d2 := 1) (D := dE + 15) (by omega) (Nat.le_of_ble_eq_true rfl)) ⟨Nat.le_of_ble_eq_true rfl, Nat.le_of_ble_eq_true rfl⟩ rfl (Nat.le_of_ble_eq_true rfl) d_Reader_readSum_51 (fun hq5 => ?_)
  refine r_ltE (fun xq6 exq6 => ?_)
  refine r_iinc (pc := 54) (v := xq6) (lv1 := [some (.ref 1), some (.int a1), some (.int xq6), some (.int xq1)]) d_Reader_readSum_54 rfl exq6.symm (Nat.le_of_ble_eq_true rfl) rfl ?_
  refine r_goto (pc := 57) (tgt := 7) d_Reader_readSum_57 (by rfl) ?_
  exact r_wk (hk7 xq6 hq5) ⟨rfl, ⟨rfl, ⟨rfl, trivial⟩⟩⟩
def f_Reader_readSum_l7 (rE : Int32 → AH → Option AH) (a1 : Int32)  : Nat → Int32 → AH → Option AH
  | 0, _, _ => none
  | n + 1, x2, h =>
    if (30 : Int32) ≤ x2 then
      some h
    else
      if (hI h 1 4) = (43 : Int32) then
        f_Reader_readSum_b31 rE a1 (f_Reader_readSum_l7 rE a1 n) x2 h
      else
        if ¬ (hI h 1 4) = (45 : Int32) then
          some h
        else
          f_Reader_readSum_b31 rE a1 (f_Reader_readSum_l7 rE a1 n) x2 h
set_option maxHeartbeats 2000000 in
theorem o_Reader_readSum_l7 {G : AE} {n : Nat} (hn : NN ≤ n) {rE : Int32 → AH → Option AH} {dE : Nat} (hrE : ∀ (a1 : Int32) (h : AH), OK G n y_Reader_readEither dE φV [.ref 1, .int a1] h (rE a1 h)) {a1 : Int32}   : ∀ (n0 : Nat) (x2 : Int32) (h : AH), AJ G n y_Reader_readSum (dE + 15) φV 7 [some (.ref 1), some (.int a1), some (.int x2), none] [] h (f_Reader_readSum_l7 rE a1 n0 x2 h) := by
  intro n0
  induction n0 with
  | zero => intros; exact r_none
  | succ n0 ih =>
    intro x2 h
    rw [f_Reader_readSum_l7]
    refine r_iload_n (pc := 7) (i := 2) d_Reader_readSum_7 rfl rfl ?_
    refine r_bipush (pc := 8) (v := 30) d_Reader_readSum_8 (by rfl) ?_
    refine r_icmp_ge (pc := 10) (tgt := 60) d_Reader_readSum_10 (by rfl) ?_ ?_
    · exact r_vret (pc := 60) rfl d_Reader_readSum_60
    · refine r_aload_n (pc := 13) (i := 0) d_Reader_readSum_13 rfl rfl ?_
      refine r_getf (pc := 14) (ci := 9) (k := 4) (C := "CricketHay$Reader") (T := F_9) (N := 12) (v := .int (hI h 1 4)) (fun s => Std.k s (lc hn rfl) kq_1) rfl (Nat.le_of_ble_eq_true rfl) rfl w_40 (fun _ => rfl) d_Reader_readSum_14 ?_
      refine r_bipush (pc := 17) (v := 43) d_Reader_readSum_17 (by rfl) ?_
      refine r_icmp_eq (pc := 19) (tgt := 31) d_Reader_readSum_19 (by rfl) ?_ ?_
      · exact r_wk (o_Reader_readSum_b31 hn hrE ih x2 h) ⟨rfl, ⟨rfl, ⟨rfl, trivial⟩⟩⟩
      · refine r_aload_n (pc := 22) (i := 0) d_Reader_readSum_22 rfl rfl ?_
        refine r_getf (pc := 23) (ci := 9) (k := 4) (C := "CricketHay$Reader") (T := F_9) (N := 12) (v := .int (hI h 1 4)) (fun s => Std.k s (lc hn rfl) kq_1) rfl (Nat.le_of_ble_eq_true rfl) rfl w_40 (fun _ => rfl) d_Reader_readSum_23 ?_
        refine r_bipush (pc := 26) (v := 45) d_Reader_readSum_26 (by rfl) ?_
        refine r_icmp_ne (pc := 28) (tgt := 60) d_Reader_readSum_28 (by rfl) ?_ ?_
        · exact r_vret (pc := 60) rfl d_Reader_readSum_60
        · exact r_wk (o_Reader_readSum_b31 hn hrE ih x2 h) ⟨rfl, ⟨rfl, ⟨rfl, trivial⟩⟩⟩
def f_Reader_readSum (rE : Int32 → AH → Option AH) (a1 : Int32) (h : AH) : Option AH :=
  bV (f_Reader_readTerm rE a1 h) fun hq1 =>
  f_Reader_readSum_l7 rE a1 FU (0 : Int32) hq1
set_option maxHeartbeats 2000000 in
theorem ok_Reader_readSum {G : AE} {n : Nat} (hn : NN ≤ n) {rE : Int32 → AH → Option AH} {dE : Nat} (hrE : ∀ (a1 : Int32) (h : AH), OK G n y_Reader_readEither dE φV [.ref 1, .int a1] h (rE a1 h)) (a1 : Int32) (h : AH) : OK G n y_Reader_readSum (dE + 15) φV [.ref 1, .int a1] h (f_Reader_readSum rE a1 h) := by
  refine ok_of (y := y_Reader_readSum) (lv0 := [some (.ref 1), some (.int a1), none, none]) (by decide +kernel) (Nat.le_of_ble_eq_true rfl) ⟨rfl, ⟨rfl, trivial⟩⟩ ?_
  rw [f_Reader_readSum]
  refine r_aload_n (pc := 0) (i := 0) d_Reader_readSum_0 rfl rfl ?_
  refine r_iload_n (pc := 1) (i := 1) d_Reader_readSum_1 rfl rfl ?_
  refine r_cVv (pc := 2) (T := F_9) (N := 12) (st := []) (ok_Reader_readTerm hn hrE a1 h) (fun s => Std.k s (lc hn rfl) kq_1) rfl w_623 w_2 w_620 w_622 ws_19 hy_Reader_readTerm (hf_of (d2 := dE + 14) (D := dE + 15) (by omega) (Nat.le_of_ble_eq_true rfl)) ⟨Nat.le_of_ble_eq_true rfl, Nat.le_of_ble_eq_true rfl⟩ rfl (Nat.le_of_ble_eq_true rfl) d_Reader_readSum_2 (fun hq1 => ?_)
  refine r_iconst (pc := 5) (v := 0) d_Reader_readSum_5 (by rfl) ?_
  refine r_istore_n (pc := 6) (i := 2) (lv1 := [some (.ref 1), some (.int a1), some (.int (0 : Int32)), none]) d_Reader_readSum_6 rfl (Nat.le_of_ble_eq_true rfl) rfl ?_
  exact r_wk (o_Reader_readSum_l7 hn hrE FU (0 : Int32) hq1) ⟨rfl, ⟨rfl, ⟨rfl, trivial⟩⟩⟩

def f_Reader_readOne_b73 (rE : Int32 → AH → Option AH) (rO : Int32 → AH → Option AH) (a1 : Int32)  (x2 : Int32) (h : AH) : Option AH :=
  bV (f_Reader_next h) fun hq1 =>
  bV (f_Reader_readSum rE a1 hq1) fun hq2 =>
  gd hq2 1 2 5 fun cq3 =>
  bV (f_Formula_add cq3 x2 (0 : Int32) hq2) fun hq4 =>
  some hq4
set_option maxHeartbeats 2000000 in
theorem o_Reader_readOne_b73 {G : AE} {n : Nat} (hn : NN ≤ n) {rE : Int32 → AH → Option AH} {dE : Nat} (hrE : ∀ (a1 : Int32) (h : AH), OK G n y_Reader_readEither dE φV [.ref 1, .int a1] h (rE a1 h)) {rO : Int32 → AH → Option AH} {dk : Nat} (hrO : ∀ (a1 : Int32) (h : AH), OK G n y_Reader_readOne (dE + 16 + dk) φV [.ref 1, .int a1] h (rO a1 h)) {a1 : Int32}   : ∀ (x2 : Int32) (h : AH), AJ G n y_Reader_readOne (dE + 17 + dk) φV 73 [some (.ref 1), some (.int a1), some (.int x2)] [] h (f_Reader_readOne_b73 rE rO a1 x2 h) := by
  intro x2 h
  rw [f_Reader_readOne_b73]
  refine r_aload_n (pc := 73) (i := 0) d_Reader_readOne_73 rfl rfl ?_
  refine r_cVv (pc := 74) (T := F_9) (N := 12) (st := []) (ok_Reader_next hn h) (fun s => Std.k s (lc hn rfl) kq_1) rfl w_486 w_2 w_483 w_485 ws_1 hy_Reader_next (hf_of (d2 := 6) (D := dE + 17 + dk) (by omega) (Nat.le_of_ble_eq_true rfl)) ⟨Nat.le_of_ble_eq_true rfl, Nat.le_of_ble_eq_true rfl⟩ rfl (Nat.le_of_ble_eq_true rfl) d_Reader_readOne_74 (fun hq1 => ?_)
  refine r_aload_n (pc := 77) (i := 0) d_Reader_readOne_77 rfl rfl ?_
  refine r_iload_n (pc := 78) (i := 1) d_Reader_readOne_78 rfl rfl ?_
  refine r_cVv (pc := 79) (T := F_9) (N := 12) (st := []) (ok_Reader_readSum hn hrE a1 hq1) (fun s => Std.k s (lc hn rfl) kq_1) rfl w_619 w_2 w_616 w_618 ws_18 hy_Reader_readSum (hf_of (d2 := dE + 15) (D := dE + 17 + dk) (by omega) (Nat.le_of_ble_eq_true rfl)) ⟨Nat.le_of_ble_eq_true rfl, Nat.le_of_ble_eq_true rfl⟩ rfl (Nat.le_of_ble_eq_true rfl) d_Reader_readOne_79 (fun hq2 => ?_)
  refine r_aload_n (pc := 82) (i := 0) d_Reader_readOne_82 rfl rfl ?_
  refine r_gd (fun cq3 rcq3 kcq3 => ?_)
  refine r_getf (pc := 83) (ci := 9) (k := 2) (C := "CricketHay$Reader") (T := F_9) (N := 12) (v := .ref cq3) (fun s => Std.k s (lc hn rfl) kq_1) rfl (Nat.le_of_ble_eq_true rfl) rfl w_38 (fun _ => vr rfl rcq3) d_Reader_readOne_83 ?_
  refine r_iload_n (pc := 86) (i := 2) d_Reader_readOne_86 rfl rfl ?_
  refine r_iconst (pc := 87) (v := 0) d_Reader_readOne_87 (by rfl) ?_
  refine r_cVv (pc := 88) (T := F_5) (N := 5) (st := []) (ok_Formula_add hn cq3 kcq3 x2 (0 : Int32) hq2) (fun s => Std.k s (ltn (cm hn) (kl_F kcq3)) kcq3) rfl w_615 w_4 w_612 w_613 w_614 hy_Formula_add (hf_of (d2 := 1) (D := dE + 17 + dk) (by omega) (Nat.le_of_ble_eq_true rfl)) ⟨Nat.le_of_ble_eq_true rfl, Nat.le_of_ble_eq_true rfl⟩ rfl (Nat.le_of_ble_eq_true rfl) d_Reader_readOne_88 (fun hq4 => ?_)
  exact r_vret (pc := 91) rfl d_Reader_readOne_91
def f_Reader_readOne_e (rE : Int32 → AH → Option AH) (rO : Int32 → AH → Option AH) (a1 : Int32) (h : AH) : Option AH :=
  if ¬ (hI h 1 4) = (271 : Int32) then
    bV (f_Reader_readSum rE a1 h) fun hq1 =>
    lt (hI hq1 1 4) fun xq2 =>
    if xq2 = (60 : Int32) then
      f_Reader_readOne_b73 rE rO a1 xq2 hq1
    else
      if xq2 = (62 : Int32) then
        f_Reader_readOne_b73 rE rO a1 xq2 hq1
      else
        if ¬ xq2 = (61 : Int32) then
          some hq1
        else
          f_Reader_readOne_b73 rE rO a1 xq2 hq1
  else
    if a1 ≤ (6 : Int32) then
      bV (f_Reader_next h) fun hq3 =>
      bV (rO (a1 + (1 : Int32)) hq3) fun hq4 =>
      gd hq4 1 2 5 fun cq5 =>
      bV (f_Formula_add cq5 (271 : Int32) (0 : Int32) hq4) fun hq6 =>
      some hq6
    else
      bV (f_Reader_fail (2 : Int32) h) fun hq7 =>
      some hq7
def f_Reader_readOne (rE : Int32 → AH → Option AH) : Nat → Int32 → AH → Option AH
  | 0, _, _ => none
  | n + 1, a1, h => f_Reader_readOne_e rE (f_Reader_readOne rE n) a1 h
set_option maxHeartbeats 2000000 in
theorem ok_Reader_readOne_e {G : AE} {n : Nat} (hn : NN ≤ n) {rE : Int32 → AH → Option AH} {dE : Nat} (hrE : ∀ (a1 : Int32) (h : AH), OK G n y_Reader_readEither dE φV [.ref 1, .int a1] h (rE a1 h)) {rO : Int32 → AH → Option AH} {dk : Nat} (hrO : ∀ (a1 : Int32) (h : AH), OK G n y_Reader_readOne (dE + 16 + dk) φV [.ref 1, .int a1] h (rO a1 h)) (a1 : Int32) (h : AH) : OK G n y_Reader_readOne (dE + 17 + dk) φV [.ref 1, .int a1] h (f_Reader_readOne_e rE rO a1 h) := by
  refine ok_of (y := y_Reader_readOne) (lv0 := [some (.ref 1), some (.int a1), none]) (by decide +kernel) (Nat.le_of_ble_eq_true rfl) ⟨rfl, ⟨rfl, trivial⟩⟩ ?_
  rw [f_Reader_readOne_e]
  refine r_aload_n (pc := 0) (i := 0) d_Reader_readOne_0 rfl rfl ?_
  refine r_getf (pc := 1) (ci := 9) (k := 4) (C := "CricketHay$Reader") (T := F_9) (N := 12) (v := .int (hI h 1 4)) (fun s => Std.k s (lc hn rfl) kq_1) rfl (Nat.le_of_ble_eq_true rfl) rfl w_40 (fun _ => rfl) d_Reader_readOne_1 ?_
  refine r_sipush (pc := 4) (v := 271) d_Reader_readOne_4 (by rfl) ?_
  refine r_icmp_ne (pc := 7) (tgt := 45) d_Reader_readOne_7 (by rfl) ?_ ?_
  · refine r_aload_n (pc := 45) (i := 0) d_Reader_readOne_45 rfl rfl ?_
    refine r_iload_n (pc := 46) (i := 1) d_Reader_readOne_46 rfl rfl ?_
    refine r_cVv (pc := 47) (T := F_9) (N := 12) (st := []) (ok_Reader_readSum hn hrE a1 h) (fun s => Std.k s (lc hn rfl) kq_1) rfl w_619 w_2 w_616 w_618 ws_18 hy_Reader_readSum (hf_of (d2 := dE + 15) (D := dE + 17 + dk) (by omega) (Nat.le_of_ble_eq_true rfl)) ⟨Nat.le_of_ble_eq_true rfl, Nat.le_of_ble_eq_true rfl⟩ rfl (Nat.le_of_ble_eq_true rfl) d_Reader_readOne_47 (fun hq1 => ?_)
    refine r_aload_n (pc := 50) (i := 0) d_Reader_readOne_50 rfl rfl ?_
    refine r_getf (pc := 51) (ci := 9) (k := 4) (C := "CricketHay$Reader") (T := F_9) (N := 12) (v := .int (hI hq1 1 4)) (fun s => Std.k s (lc hn rfl) kq_1) rfl (Nat.le_of_ble_eq_true rfl) rfl w_40 (fun _ => rfl) d_Reader_readOne_51 ?_
    refine r_ltI (fun xq2 => ?_)
    refine r_istore_n (pc := 54) (i := 2) (lv1 := [some (.ref 1), some (.int a1), some (.int xq2)]) d_Reader_readOne_54 rfl (Nat.le_of_ble_eq_true rfl) rfl ?_
    refine r_iload_n (pc := 55) (i := 2) d_Reader_readOne_55 rfl rfl ?_
    refine r_bipush (pc := 56) (v := 60) d_Reader_readOne_56 (by rfl) ?_
    refine r_icmp_eq (pc := 58) (tgt := 73) d_Reader_readOne_58 (by rfl) ?_ ?_
    · exact r_wk (o_Reader_readOne_b73 hn hrE hrO xq2 hq1) ⟨rfl, ⟨rfl, ⟨rfl, trivial⟩⟩⟩
    · refine r_iload_n (pc := 61) (i := 2) d_Reader_readOne_61 rfl rfl ?_
      refine r_bipush (pc := 62) (v := 62) d_Reader_readOne_62 (by rfl) ?_
      refine r_icmp_eq (pc := 64) (tgt := 73) d_Reader_readOne_64 (by rfl) ?_ ?_
      · exact r_wk (o_Reader_readOne_b73 hn hrE hrO xq2 hq1) ⟨rfl, ⟨rfl, ⟨rfl, trivial⟩⟩⟩
      · refine r_iload_n (pc := 67) (i := 2) d_Reader_readOne_67 rfl rfl ?_
        refine r_bipush (pc := 68) (v := 61) d_Reader_readOne_68 (by rfl) ?_
        refine r_icmp_ne (pc := 70) (tgt := 91) d_Reader_readOne_70 (by rfl) ?_ ?_
        · exact r_vret (pc := 91) rfl d_Reader_readOne_91
        · exact r_wk (o_Reader_readOne_b73 hn hrE hrO xq2 hq1) ⟨rfl, ⟨rfl, ⟨rfl, trivial⟩⟩⟩
  · refine r_iload_n (pc := 10) (i := 1) d_Reader_readOne_10 rfl rfl ?_
    refine r_bipush (pc := 11) (v := 6) d_Reader_readOne_11 (by rfl) ?_
    refine r_icmp_le (pc := 13) (tgt := 22) d_Reader_readOne_13 (by rfl) ?_ ?_
    · refine r_aload_n (pc := 22) (i := 0) d_Reader_readOne_22 rfl rfl ?_
      refine r_cVv (pc := 23) (T := F_9) (N := 12) (st := []) (ok_Reader_next hn h) (fun s => Std.k s (lc hn rfl) kq_1) rfl w_486 w_2 w_483 w_485 ws_1 hy_Reader_next (hf_of (d2 := 6) (D := dE + 17 + dk) (by omega) (Nat.le_of_ble_eq_true rfl)) ⟨Nat.le_of_ble_eq_true rfl, Nat.le_of_ble_eq_true rfl⟩ rfl (Nat.le_of_ble_eq_true rfl) d_Reader_readOne_23 (fun hq3 => ?_)
      refine r_aload_n (pc := 26) (i := 0) d_Reader_readOne_26 rfl rfl ?_
      refine r_iload_n (pc := 27) (i := 1) d_Reader_readOne_27 rfl rfl ?_
      refine r_iconst (pc := 28) (v := 1) d_Reader_readOne_28 (by rfl) ?_
      refine r_iadd (pc := 29) d_Reader_readOne_29 ?_
      refine r_cVv (pc := 30) (T := F_9) (N := 12) (st := []) (hrO (a1 + (1 : Int32)) hq3) (fun s => Std.k s (lc hn rfl) kq_1) rfl w_611 w_2 w_608 w_610 ws_17 hy_Reader_readOne (hf_of (d2 := dE + 16 + dk) (D := dE + 17 + dk) (by omega) (Nat.le_of_ble_eq_true rfl)) ⟨Nat.le_of_ble_eq_true rfl, Nat.le_of_ble_eq_true rfl⟩ rfl (Nat.le_of_ble_eq_true rfl) d_Reader_readOne_30 (fun hq4 => ?_)
      refine r_aload_n (pc := 33) (i := 0) d_Reader_readOne_33 rfl rfl ?_
      refine r_gd (fun cq5 rcq5 kcq5 => ?_)
      refine r_getf (pc := 34) (ci := 9) (k := 2) (C := "CricketHay$Reader") (T := F_9) (N := 12) (v := .ref cq5) (fun s => Std.k s (lc hn rfl) kq_1) rfl (Nat.le_of_ble_eq_true rfl) rfl w_38 (fun _ => vr rfl rcq5) d_Reader_readOne_34 ?_
      refine r_sipush (pc := 37) (v := 271) d_Reader_readOne_37 (by rfl) ?_
      refine r_iconst (pc := 40) (v := 0) d_Reader_readOne_40 (by rfl) ?_
      refine r_cVv (pc := 41) (T := F_5) (N := 5) (st := []) (ok_Formula_add hn cq5 kcq5 (271 : Int32) (0 : Int32) hq4) (fun s => Std.k s (ltn (cm hn) (kl_F kcq5)) kcq5) rfl w_615 w_4 w_612 w_613 w_614 hy_Formula_add (hf_of (d2 := 1) (D := dE + 17 + dk) (by omega) (Nat.le_of_ble_eq_true rfl)) ⟨Nat.le_of_ble_eq_true rfl, Nat.le_of_ble_eq_true rfl⟩ rfl (Nat.le_of_ble_eq_true rfl) d_Reader_readOne_41 (fun hq6 => ?_)
      exact r_vret (pc := 44) rfl d_Reader_readOne_44
    · refine r_aload_n (pc := 16) (i := 0) d_Reader_readOne_16 rfl rfl ?_
      refine r_iconst (pc := 17) (v := 2) d_Reader_readOne_17 (by rfl) ?_
      refine r_cVv (pc := 18) (T := F_9) (N := 12) (st := []) (ok_Reader_fail hn (2 : Int32) h) (fun s => Std.k s (lc hn rfl) kq_1) rfl w_500 w_2 w_497 w_499 ws_3 hy_Reader_fail (hf_of (d2 := 1) (D := dE + 17 + dk) (by omega) (Nat.le_of_ble_eq_true rfl)) ⟨Nat.le_of_ble_eq_true rfl, Nat.le_of_ble_eq_true rfl⟩ rfl (Nat.le_of_ble_eq_true rfl) d_Reader_readOne_18 (fun hq7 => ?_)
      exact r_vret (pc := 21) rfl d_Reader_readOne_21

theorem ok_Reader_readOne {G : AE} {n : Nat} (hn : NN ≤ n) {rE : Int32 → AH → Option AH} {dE : Nat} (hrE : ∀ (a1 : Int32) (h : AH), OK G n y_Reader_readEither dE φV [.ref 1, .int a1] h (rE a1 h)) : ∀ (d : Nat) (a1 : Int32) (h : AH), OK G n y_Reader_readOne (dE + 16 + d) φV [.ref 1, .int a1] h (f_Reader_readOne rE d a1 h) := by
  intro d
  induction d with
  | zero => intro a1 h a hX; cases hX
  | succ d ih =>
    intro a1 h
    have := ok_Reader_readOne_e hn hrE (dk := d) ih a1 h
    rw [show dE + 17 + d = dE + 16 + (d + 1) by omega] at this
    exact this

def f_Reader_readBoth_l7 (rE : Int32 → AH → Option AH) (a1 : Int32)  : Nat → Int32 → AH → Option AH
  | 0, _, _ => none
  | n + 1, x2, h =>
    if (30 : Int32) ≤ x2 then
      some h
    else
      bI (f_Reader_take (270 : Int32) h) fun rq1 hq2 =>
      if rq1 = 0 then
        some hq2
      else
        bV (f_Reader_readOne rE 10 a1 hq2) fun hq3 =>
        gd hq3 1 2 5 fun cq4 =>
        bV (f_Formula_add cq4 (270 : Int32) (0 : Int32) hq3) fun hq5 =>
        lt (x2 + (1 : Int32)) fun xq6 =>
        f_Reader_readBoth_l7 rE a1 n xq6 hq5
set_option maxHeartbeats 2000000 in
theorem o_Reader_readBoth_l7 {G : AE} {n : Nat} (hn : NN ≤ n) {rE : Int32 → AH → Option AH} {dE : Nat} (hrE : ∀ (a1 : Int32) (h : AH), OK G n y_Reader_readEither dE φV [.ref 1, .int a1] h (rE a1 h)) {a1 : Int32}   : ∀ (n0 : Nat) (x2 : Int32) (h : AH), AJ G n y_Reader_readBoth (dE + 27) φV 7 [some (.ref 1), some (.int a1), some (.int x2)] [] h (f_Reader_readBoth_l7 rE a1 n0 x2 h) := by
  intro n0
  induction n0 with
  | zero => intros; exact r_none
  | succ n0 ih =>
    intro x2 h
    rw [f_Reader_readBoth_l7]
    refine r_iload_n (pc := 7) (i := 2) d_Reader_readBoth_7 rfl rfl ?_
    refine r_bipush (pc := 8) (v := 30) d_Reader_readBoth_8 (by rfl) ?_
    refine r_icmp_ge (pc := 10) (tgt := 45) d_Reader_readBoth_10 (by rfl) ?_ ?_
    · exact r_vret (pc := 45) rfl d_Reader_readBoth_45
    · refine r_aload_n (pc := 13) (i := 0) d_Reader_readBoth_13 rfl rfl ?_
      refine r_sipush (pc := 14) (v := 270) d_Reader_readBoth_14 (by rfl) ?_
      refine r_cVi (pc := 17) (T := F_9) (N := 12) (st := []) (ok_Reader_take hn (270 : Int32) h) (fun s => Std.k s (lc hn rfl) kq_1) rfl w_599 w_2 w_596 w_598 ws_14 hy_Reader_take (hf_of (d2 := 7) (D := dE + 27) (by omega) (Nat.le_of_ble_eq_true rfl)) ⟨Nat.le_of_ble_eq_true rfl, Nat.le_of_ble_eq_true rfl⟩ rfl (Nat.le_of_ble_eq_true rfl) d_Reader_readBoth_17 (fun rq1 hq2 => ?_)
      refine r_if_eq (pc := 20) (tgt := 45) d_Reader_readBoth_20 (by rfl) ?_ ?_
      · exact r_vret (pc := 45) rfl d_Reader_readBoth_45
      · refine r_aload_n (pc := 23) (i := 0) d_Reader_readBoth_23 rfl rfl ?_
        refine r_iload_n (pc := 24) (i := 1) d_Reader_readBoth_24 rfl rfl ?_
        refine r_cVv (pc := 25) (T := F_9) (N := 12) (st := []) (ok_Reader_readOne hn hrE 10 a1 hq2) (fun s => Std.k s (lc hn rfl) kq_1) rfl w_611 w_2 w_608 w_610 ws_17 hy_Reader_readOne (hf_of (d2 := dE + 16 + 10) (D := dE + 27) (by omega) (Nat.le_of_ble_eq_true rfl)) ⟨Nat.le_of_ble_eq_true rfl, Nat.le_of_ble_eq_true rfl⟩ rfl (Nat.le_of_ble_eq_true rfl) d_Reader_readBoth_25 (fun hq3 => ?_)
        refine r_aload_n (pc := 28) (i := 0) d_Reader_readBoth_28 rfl rfl ?_
        refine r_gd (fun cq4 rcq4 kcq4 => ?_)
        refine r_getf (pc := 29) (ci := 9) (k := 2) (C := "CricketHay$Reader") (T := F_9) (N := 12) (v := .ref cq4) (fun s => Std.k s (lc hn rfl) kq_1) rfl (Nat.le_of_ble_eq_true rfl) rfl w_38 (fun _ => vr rfl rcq4) d_Reader_readBoth_29 ?_
        refine r_sipush (pc := 32) (v := 270) d_Reader_readBoth_32 (by rfl) ?_
        refine r_iconst (pc := 35) (v := 0) d_Reader_readBoth_35 (by rfl) ?_
        refine r_cVv (pc := 36) (T := F_5) (N := 5) (st := []) (ok_Formula_add hn cq4 kcq4 (270 : Int32) (0 : Int32) hq3) (fun s => Std.k s (ltn (cm hn) (kl_F kcq4)) kcq4) rfl w_615 w_4 w_612 w_613 w_614 hy_Formula_add (hf_of (d2 := 1) (D := dE + 27) (by omega) (Nat.le_of_ble_eq_true rfl)) ⟨Nat.le_of_ble_eq_true rfl, Nat.le_of_ble_eq_true rfl⟩ rfl (Nat.le_of_ble_eq_true rfl) d_Reader_readBoth_36 (fun hq5 => ?_)
        refine r_ltE (fun xq6 exq6 => ?_)
        refine r_iinc (pc := 39) (v := xq6) (lv1 := [some (.ref 1), some (.int a1), some (.int xq6)]) d_Reader_readBoth_39 rfl exq6.symm (Nat.le_of_ble_eq_true rfl) rfl ?_
        refine r_goto (pc := 42) (tgt := 7) d_Reader_readBoth_42 (by rfl) ?_
        exact r_wk (ih xq6 hq5) ⟨rfl, ⟨rfl, ⟨rfl, trivial⟩⟩⟩
def f_Reader_readBoth (rE : Int32 → AH → Option AH) (a1 : Int32) (h : AH) : Option AH :=
  bV (f_Reader_readOne rE 10 a1 h) fun hq1 =>
  f_Reader_readBoth_l7 rE a1 FU (0 : Int32) hq1
set_option maxHeartbeats 2000000 in
theorem ok_Reader_readBoth {G : AE} {n : Nat} (hn : NN ≤ n) {rE : Int32 → AH → Option AH} {dE : Nat} (hrE : ∀ (a1 : Int32) (h : AH), OK G n y_Reader_readEither dE φV [.ref 1, .int a1] h (rE a1 h)) (a1 : Int32) (h : AH) : OK G n y_Reader_readBoth (dE + 27) φV [.ref 1, .int a1] h (f_Reader_readBoth rE a1 h) := by
  refine ok_of (y := y_Reader_readBoth) (lv0 := [some (.ref 1), some (.int a1), none]) (by decide +kernel) (Nat.le_of_ble_eq_true rfl) ⟨rfl, ⟨rfl, trivial⟩⟩ ?_
  rw [f_Reader_readBoth]
  refine r_aload_n (pc := 0) (i := 0) d_Reader_readBoth_0 rfl rfl ?_
  refine r_iload_n (pc := 1) (i := 1) d_Reader_readBoth_1 rfl rfl ?_
  refine r_cVv (pc := 2) (T := F_9) (N := 12) (st := []) (ok_Reader_readOne hn hrE 10 a1 h) (fun s => Std.k s (lc hn rfl) kq_1) rfl w_611 w_2 w_608 w_610 ws_17 hy_Reader_readOne (hf_of (d2 := dE + 16 + 10) (D := dE + 27) (by omega) (Nat.le_of_ble_eq_true rfl)) ⟨Nat.le_of_ble_eq_true rfl, Nat.le_of_ble_eq_true rfl⟩ rfl (Nat.le_of_ble_eq_true rfl) d_Reader_readBoth_2 (fun hq1 => ?_)
  refine r_iconst (pc := 5) (v := 0) d_Reader_readBoth_5 (by rfl) ?_
  refine r_istore_n (pc := 6) (i := 2) (lv1 := [some (.ref 1), some (.int a1), some (.int (0 : Int32))]) d_Reader_readBoth_6 rfl (Nat.le_of_ble_eq_true rfl) rfl ?_
  exact r_wk (o_Reader_readBoth_l7 hn hrE FU (0 : Int32) hq1) ⟨rfl, ⟨rfl, ⟨rfl, trivial⟩⟩⟩

def f_Reader_readEither_l7 (rE : Int32 → AH → Option AH) (a1 : Int32)  : Nat → Int32 → AH → Option AH
  | 0, _, _ => none
  | n + 1, x2, h =>
    if (30 : Int32) ≤ x2 then
      some h
    else
      bI (f_Reader_take (269 : Int32) h) fun rq1 hq2 =>
      if rq1 = 0 then
        some hq2
      else
        bV (f_Reader_readBoth rE a1 hq2) fun hq3 =>
        gd hq3 1 2 5 fun cq4 =>
        bV (f_Formula_add cq4 (269 : Int32) (0 : Int32) hq3) fun hq5 =>
        lt (x2 + (1 : Int32)) fun xq6 =>
        f_Reader_readEither_l7 rE a1 n xq6 hq5
set_option maxHeartbeats 2000000 in
theorem o_Reader_readEither_l7 {G : AE} {n : Nat} (hn : NN ≤ n) {rE : Int32 → AH → Option AH} {dE : Nat} (hrE : ∀ (a1 : Int32) (h : AH), OK G n y_Reader_readEither dE φV [.ref 1, .int a1] h (rE a1 h)) {a1 : Int32}   : ∀ (n0 : Nat) (x2 : Int32) (h : AH), AJ G n y_Reader_readEither (dE + 28) φV 7 [some (.ref 1), some (.int a1), some (.int x2)] [] h (f_Reader_readEither_l7 rE a1 n0 x2 h) := by
  intro n0
  induction n0 with
  | zero => intros; exact r_none
  | succ n0 ih =>
    intro x2 h
    rw [f_Reader_readEither_l7]
    refine r_iload_n (pc := 7) (i := 2) d_Reader_readEither_7 rfl rfl ?_
    refine r_bipush (pc := 8) (v := 30) d_Reader_readEither_8 (by rfl) ?_
    refine r_icmp_ge (pc := 10) (tgt := 45) d_Reader_readEither_10 (by rfl) ?_ ?_
    · exact r_vret (pc := 45) rfl d_Reader_readEither_45
    · refine r_aload_n (pc := 13) (i := 0) d_Reader_readEither_13 rfl rfl ?_
      refine r_sipush (pc := 14) (v := 269) d_Reader_readEither_14 (by rfl) ?_
      refine r_cVi (pc := 17) (T := F_9) (N := 12) (st := []) (ok_Reader_take hn (269 : Int32) h) (fun s => Std.k s (lc hn rfl) kq_1) rfl w_599 w_2 w_596 w_598 ws_14 hy_Reader_take (hf_of (d2 := 7) (D := dE + 28) (by omega) (Nat.le_of_ble_eq_true rfl)) ⟨Nat.le_of_ble_eq_true rfl, Nat.le_of_ble_eq_true rfl⟩ rfl (Nat.le_of_ble_eq_true rfl) d_Reader_readEither_17 (fun rq1 hq2 => ?_)
      refine r_if_eq (pc := 20) (tgt := 45) d_Reader_readEither_20 (by rfl) ?_ ?_
      · exact r_vret (pc := 45) rfl d_Reader_readEither_45
      · refine r_aload_n (pc := 23) (i := 0) d_Reader_readEither_23 rfl rfl ?_
        refine r_iload_n (pc := 24) (i := 1) d_Reader_readEither_24 rfl rfl ?_
        refine r_cVv (pc := 25) (T := F_9) (N := 12) (st := []) (ok_Reader_readBoth hn hrE a1 hq2) (fun s => Std.k s (lc hn rfl) kq_1) rfl w_607 w_2 w_604 w_606 ws_16 hy_Reader_readBoth (hf_of (d2 := dE + 27) (D := dE + 28) (by omega) (Nat.le_of_ble_eq_true rfl)) ⟨Nat.le_of_ble_eq_true rfl, Nat.le_of_ble_eq_true rfl⟩ rfl (Nat.le_of_ble_eq_true rfl) d_Reader_readEither_25 (fun hq3 => ?_)
        refine r_aload_n (pc := 28) (i := 0) d_Reader_readEither_28 rfl rfl ?_
        refine r_gd (fun cq4 rcq4 kcq4 => ?_)
        refine r_getf (pc := 29) (ci := 9) (k := 2) (C := "CricketHay$Reader") (T := F_9) (N := 12) (v := .ref cq4) (fun s => Std.k s (lc hn rfl) kq_1) rfl (Nat.le_of_ble_eq_true rfl) rfl w_38 (fun _ => vr rfl rcq4) d_Reader_readEither_29 ?_
        refine r_sipush (pc := 32) (v := 269) d_Reader_readEither_32 (by rfl) ?_
        refine r_iconst (pc := 35) (v := 0) d_Reader_readEither_35 (by rfl) ?_
        refine r_cVv (pc := 36) (T := F_5) (N := 5) (st := []) (ok_Formula_add hn cq4 kcq4 (269 : Int32) (0 : Int32) hq3) (fun s => Std.k s (ltn (cm hn) (kl_F kcq4)) kcq4) rfl w_615 w_4 w_612 w_613 w_614 hy_Formula_add (hf_of (d2 := 1) (D := dE + 28) (by omega) (Nat.le_of_ble_eq_true rfl)) ⟨Nat.le_of_ble_eq_true rfl, Nat.le_of_ble_eq_true rfl⟩ rfl (Nat.le_of_ble_eq_true rfl) d_Reader_readEither_36 (fun hq5 => ?_)
        refine r_ltE (fun xq6 exq6 => ?_)
        refine r_iinc (pc := 39) (v := xq6) (lv1 := [some (.ref 1), some (.int a1), some (.int xq6)]) d_Reader_readEither_39 rfl exq6.symm (Nat.le_of_ble_eq_true rfl) rfl ?_
        refine r_goto (pc := 42) (tgt := 7) d_Reader_readEither_42 (by rfl) ?_
        exact r_wk (ih xq6 hq5) ⟨rfl, ⟨rfl, ⟨rfl, trivial⟩⟩⟩
def f_Reader_readEither_e (rE : Int32 → AH → Option AH) (a1 : Int32) (h : AH) : Option AH :=
  bV (f_Reader_readBoth rE a1 h) fun hq1 =>
  f_Reader_readEither_l7 rE a1 FU (0 : Int32) hq1
def f_Reader_readEither  : Nat → Int32 → AH → Option AH
  | 0, _, _ => none
  | n + 1, a1, h => f_Reader_readEither_e (f_Reader_readEither n) a1 h
set_option maxHeartbeats 2000000 in
theorem ok_Reader_readEither_e {G : AE} {n : Nat} (hn : NN ≤ n) {rE : Int32 → AH → Option AH} {dE : Nat} (hrE : ∀ (a1 : Int32) (h : AH), OK G n y_Reader_readEither dE φV [.ref 1, .int a1] h (rE a1 h)) (a1 : Int32) (h : AH) : OK G n y_Reader_readEither (dE + 28) φV [.ref 1, .int a1] h (f_Reader_readEither_e rE a1 h) := by
  refine ok_of (y := y_Reader_readEither) (lv0 := [some (.ref 1), some (.int a1), none]) (by decide +kernel) (Nat.le_of_ble_eq_true rfl) ⟨rfl, ⟨rfl, trivial⟩⟩ ?_
  rw [f_Reader_readEither_e]
  refine r_aload_n (pc := 0) (i := 0) d_Reader_readEither_0 rfl rfl ?_
  refine r_iload_n (pc := 1) (i := 1) d_Reader_readEither_1 rfl rfl ?_
  refine r_cVv (pc := 2) (T := F_9) (N := 12) (st := []) (ok_Reader_readBoth hn hrE a1 h) (fun s => Std.k s (lc hn rfl) kq_1) rfl w_607 w_2 w_604 w_606 ws_16 hy_Reader_readBoth (hf_of (d2 := dE + 27) (D := dE + 28) (by omega) (Nat.le_of_ble_eq_true rfl)) ⟨Nat.le_of_ble_eq_true rfl, Nat.le_of_ble_eq_true rfl⟩ rfl (Nat.le_of_ble_eq_true rfl) d_Reader_readEither_2 (fun hq1 => ?_)
  refine r_iconst (pc := 5) (v := 0) d_Reader_readEither_5 (by rfl) ?_
  refine r_istore_n (pc := 6) (i := 2) (lv1 := [some (.ref 1), some (.int a1), some (.int (0 : Int32))]) d_Reader_readEither_6 rfl (Nat.le_of_ble_eq_true rfl) rfl ?_
  exact r_wk (o_Reader_readEither_l7 hn hrE FU (0 : Int32) hq1) ⟨rfl, ⟨rfl, ⟨rfl, trivial⟩⟩⟩

theorem ok_Reader_readEither {G : AE} {n : Nat} (hn : NN ≤ n) : ∀ (d : Nat) (a1 : Int32) (h : AH), OK G n y_Reader_readEither (28 * d) φV [.ref 1, .int a1] h (f_Reader_readEither d a1 h) := by
  intro d
  induction d with
  | zero => intro a1 h a hX; cases hX
  | succ d ih => intro a1 h; exact ok_Reader_readEither_e hn (dE := 28 * d) ih a1 h

def f_Reader_readLine_b179     (h : AH) : Option AH :=
  bV (f_Reader_need (59 : Int32) h) fun hq1 =>
  some hq1
set_option maxHeartbeats 2000000 in
theorem o_Reader_readLine_b179 {G : AE} {n : Nat} (hn : NN ≤ n)     : ∀  (h : AH), AJ G n y_Reader_readLine (281) φV 179 [some (.ref 1), none] [] h (f_Reader_readLine_b179 h) := by
  intro  h
  rw [f_Reader_readLine_b179]
  refine r_aload_n (pc := 179) (i := 0) d_Reader_readLine_179 rfl rfl ?_
  refine r_bipush (pc := 180) (v := 59) d_Reader_readLine_180 (by rfl) ?_
  refine r_cVv (pc := 182) (T := F_9) (N := 12) (st := []) (ok_Reader_need hn (59 : Int32) h) (fun s => Std.k s (lc hn rfl) kq_1) rfl w_587 w_2 w_584 w_586 ws_11 hy_Reader_need ⟨Nat.le_of_ble_eq_true rfl, Nat.le_of_ble_eq_true rfl⟩ ⟨Nat.le_of_ble_eq_true rfl, Nat.le_of_ble_eq_true rfl⟩ rfl (Nat.le_of_ble_eq_true rfl) d_Reader_readLine_182 (fun hq1 => ?_)
  exact r_vret (pc := 185) rfl d_Reader_readLine_185
def f_Reader_readLine   (h : AH) : Option AH :=
  lt (hI h 1 4) fun xq1 =>
  bI (f_Reader_mayStand xq1 h) fun rq2 hq3 =>
  if ¬ rq2 = 0 then
    bV (f_Reader_next hq3) fun hq4 =>
    if xq1 = (256 : Int32) then
      bV (f_Reader_readKind hq4) fun hq6 =>
      f_Reader_readLine_b179 hq6
    else
    if xq1 = (257 : Int32) then
      bV (f_Reader_readDealer hq4) fun hq8 =>
      f_Reader_readLine_b179 hq8
    else
    if xq1 = (264 : Int32) then
      gd hq4 1 1 7 fun cq10 =>
      lt (sR hq4 1 2 (some (cq10 + 9))) fun hq11 =>
      bV (f_Reader_readEither 10 (0 : Int32) hq11) fun hq12 =>
      f_Reader_readLine_b179 hq12
    else
    if xq1 = (265 : Int32) then
      gd hq4 1 1 7 fun cq14 =>
      lt (sR hq4 1 2 (some (cq14 + 13))) fun hq15 =>
      bV (f_Reader_readEither 10 (0 : Int32) hq15) fun hq16 =>
      f_Reader_readLine_b179 hq16
    else
    if xq1 = (266 : Int32) then
      bV (f_Reader_readSnap hq4) fun hq18 =>
      f_Reader_readLine_b179 hq18
    else
    if xq1 = (267 : Int32) then
      gd hq4 1 1 7 fun cq20 =>
      bI (f_Reader_needNumber (1 : Int32) (9 : Int32) hq4) fun rq21 hq22 =>
      lt (sI hq22 cq20 14 rq21) fun hq23 =>
      f_Reader_readLine_b179 hq23
    else
      gd hq4 1 1 7 fun cq24 =>
      bI (f_Reader_needNumber (0 : Int32) (999 : Int32) hq4) fun rq25 hq26 =>
      lt (sI hq26 cq24 15 rq25) fun hq27 =>
      f_Reader_readLine_b179 hq27
  else
    bV (f_Reader_fail (2 : Int32) hq3) fun hq28 =>
    some hq28
set_option maxHeartbeats 2000000 in
theorem ok_Reader_readLine {G : AE} {n : Nat} (hn : NN ≤ n)   (h : AH) : OK G n y_Reader_readLine (281) φV [.ref 1] h (f_Reader_readLine h) := by
  refine ok_of (y := y_Reader_readLine) (lv0 := [some (.ref 1), none]) (by decide +kernel) (Nat.le_of_ble_eq_true rfl) ⟨rfl, trivial⟩ ?_
  rw [f_Reader_readLine]
  refine r_aload_n (pc := 0) (i := 0) d_Reader_readLine_0 rfl rfl ?_
  refine r_getf (pc := 1) (ci := 9) (k := 4) (C := "CricketHay$Reader") (T := F_9) (N := 12) (v := .int (hI h 1 4)) (fun s => Std.k s (lc hn rfl) kq_1) rfl (Nat.le_of_ble_eq_true rfl) rfl w_40 (fun _ => rfl) d_Reader_readLine_1 ?_
  refine r_ltI (fun xq1 => ?_)
  refine r_istore_n (pc := 4) (i := 1) (lv1 := [some (.ref 1), some (.int xq1)]) d_Reader_readLine_4 rfl (Nat.le_of_ble_eq_true rfl) rfl ?_
  refine r_aload_n (pc := 5) (i := 0) d_Reader_readLine_5 rfl rfl ?_
  refine r_iload_n (pc := 6) (i := 1) d_Reader_readLine_6 rfl rfl ?_
  refine r_cVi (pc := 7) (T := F_9) (N := 12) (st := []) (ok_Reader_mayStand hn xq1 h) (fun s => Std.k s (lc hn rfl) kq_1) rfl w_567 w_2 w_564 w_566 ws_6 hy_Reader_mayStand ⟨Nat.le_of_ble_eq_true rfl, Nat.le_of_ble_eq_true rfl⟩ ⟨Nat.le_of_ble_eq_true rfl, Nat.le_of_ble_eq_true rfl⟩ rfl (Nat.le_of_ble_eq_true rfl) d_Reader_readLine_7 (fun rq2 hq3 => ?_)
  refine r_if_ne (pc := 10) (tgt := 19) d_Reader_readLine_10 (by rfl) ?_ ?_
  · refine r_aload_n (pc := 19) (i := 0) d_Reader_readLine_19 rfl rfl ?_
    refine r_cVv (pc := 20) (T := F_9) (N := 12) (st := []) (ok_Reader_next hn hq3) (fun s => Std.k s (lc hn rfl) kq_1) rfl w_486 w_2 w_483 w_485 ws_1 hy_Reader_next ⟨Nat.le_of_ble_eq_true rfl, Nat.le_of_ble_eq_true rfl⟩ ⟨Nat.le_of_ble_eq_true rfl, Nat.le_of_ble_eq_true rfl⟩ rfl (Nat.le_of_ble_eq_true rfl) d_Reader_readLine_20 (fun hq4 => ?_)
    refine r_iload_n (pc := 23) (i := 1) d_Reader_readLine_23 rfl rfl ?_
    refine r_split (fun cq5 => ?_) (fun cq5 => ?_)
    · refine r_tableIn (pc := 24) (tgt := 88) d_Reader_readLine_24 (by rw [cq5]; decide) (by rw [cq5]; decide) (by rw [cq5] <;> rfl) (by rfl) ?_
      refine r_aload_n (pc := 88) (i := 0) d_Reader_readLine_88 rfl rfl ?_
      refine r_cVv (pc := 89) (T := F_9) (N := 12) (st := []) (ok_Reader_readKind hn hq4) (fun s => Std.k s (lc hn rfl) kq_1) rfl w_575 w_2 w_572 w_574 ws_8 hy_Reader_readKind ⟨Nat.le_of_ble_eq_true rfl, Nat.le_of_ble_eq_true rfl⟩ ⟨Nat.le_of_ble_eq_true rfl, Nat.le_of_ble_eq_true rfl⟩ rfl (Nat.le_of_ble_eq_true rfl) d_Reader_readLine_89 (fun hq6 => ?_)
      refine r_goto (pc := 92) (tgt := 179) d_Reader_readLine_92 (by rfl) ?_
      exact r_wk (o_Reader_readLine_b179 hn hq6) ⟨rfl, trivial⟩
    refine r_split (fun cq7 => ?_) (fun cq7 => ?_)
    · refine r_tableIn (pc := 24) (tgt := 95) d_Reader_readLine_24 (by rw [cq7]; decide) (by rw [cq7]; decide) (by rw [cq7] <;> rfl) (by rfl) ?_
      refine r_aload_n (pc := 95) (i := 0) d_Reader_readLine_95 rfl rfl ?_
      refine r_cVv (pc := 96) (T := F_9) (N := 12) (st := []) (ok_Reader_readDealer hn hq4) (fun s => Std.k s (lc hn rfl) kq_1) rfl w_583 w_2 w_580 w_582 ws_10 hy_Reader_readDealer ⟨Nat.le_of_ble_eq_true rfl, Nat.le_of_ble_eq_true rfl⟩ ⟨Nat.le_of_ble_eq_true rfl, Nat.le_of_ble_eq_true rfl⟩ rfl (Nat.le_of_ble_eq_true rfl) d_Reader_readLine_96 (fun hq8 => ?_)
      refine r_goto (pc := 99) (tgt := 179) d_Reader_readLine_99 (by rfl) ?_
      exact r_wk (o_Reader_readLine_b179 hn hq8) ⟨rfl, trivial⟩
    refine r_split (fun cq9 => ?_) (fun cq9 => ?_)
    · refine r_tableIn (pc := 24) (tgt := 102) d_Reader_readLine_24 (by rw [cq9]; decide) (by rw [cq9]; decide) (by rw [cq9] <;> rfl) (by rfl) ?_
      refine r_aload_n (pc := 102) (i := 0) d_Reader_readLine_102 rfl rfl ?_
      refine r_aload_n (pc := 103) (i := 0) d_Reader_readLine_103 rfl rfl ?_
      refine r_gd (fun cq10 rcq10 kcq10 => ?_)
      refine r_getf (pc := 104) (ci := 9) (k := 1) (C := "CricketHay$Reader") (T := F_9) (N := 12) (v := .ref cq10) (fun s => Std.k s (lc hn rfl) kq_1) rfl (Nat.le_of_ble_eq_true rfl) rfl w_37 (fun _ => vr rfl rcq10) d_Reader_readLine_104 ?_
      refine r_getf (pc := 107) (ci := 7) (k := 8) (C := "CricketHay$Market") (T := F_7) (N := 16) (v := .ref (cq10 + 9)) (fun s => Std.k s (ltn (cm hn) (kl_M kcq10)) kcq10) rfl (Nat.le_of_ble_eq_true rfl) rfl w_144 (fun s => vr rfl (Std.r s (ltn (cm hn) (kl_M kcq10)) (rr_M_8 kcq10))) d_Reader_readLine_107 ?_
      refine r_putR (pc := 110) (ci := 9) (k := 2) (C := "CricketHay$Reader") (T := F_9) (N := 12) (fun s => Std.k s (lc hn rfl) kq_1) rfl (Nat.le_of_ble_eq_true rfl) rfl rfl w_38 (fun _ _ => rfl) (fun _ => rfl) (fun _ => rfl) (fun s => Std.sR s _ _ _ (by decide +kernel)) d_Reader_readLine_110 ?_
      refine r_ltH (fun hq11 => ?_)
      refine r_aload_n (pc := 113) (i := 0) d_Reader_readLine_113 rfl rfl ?_
      refine r_iconst (pc := 114) (v := 0) d_Reader_readLine_114 (by rfl) ?_
      refine r_cVv (pc := 115) (T := F_9) (N := 12) (st := []) (ok_Reader_readEither hn 10 (0 : Int32) hq11) (fun s => Std.k s (lc hn rfl) kq_1) rfl w_603 w_2 w_600 w_602 ws_15 hy_Reader_readEither ⟨Nat.le_of_ble_eq_true rfl, Nat.le_of_ble_eq_true rfl⟩ ⟨Nat.le_of_ble_eq_true rfl, Nat.le_of_ble_eq_true rfl⟩ rfl (Nat.le_of_ble_eq_true rfl) d_Reader_readLine_115 (fun hq12 => ?_)
      refine r_goto (pc := 118) (tgt := 179) d_Reader_readLine_118 (by rfl) ?_
      exact r_wk (o_Reader_readLine_b179 hn hq12) ⟨rfl, trivial⟩
    refine r_split (fun cq13 => ?_) (fun cq13 => ?_)
    · refine r_tableIn (pc := 24) (tgt := 121) d_Reader_readLine_24 (by rw [cq13]; decide) (by rw [cq13]; decide) (by rw [cq13] <;> rfl) (by rfl) ?_
      refine r_aload_n (pc := 121) (i := 0) d_Reader_readLine_121 rfl rfl ?_
      refine r_aload_n (pc := 122) (i := 0) d_Reader_readLine_122 rfl rfl ?_
      refine r_gd (fun cq14 rcq14 kcq14 => ?_)
      refine r_getf (pc := 123) (ci := 9) (k := 1) (C := "CricketHay$Reader") (T := F_9) (N := 12) (v := .ref cq14) (fun s => Std.k s (lc hn rfl) kq_1) rfl (Nat.le_of_ble_eq_true rfl) rfl w_37 (fun _ => vr rfl rcq14) d_Reader_readLine_123 ?_
      refine r_getf (pc := 126) (ci := 7) (k := 9) (C := "CricketHay$Market") (T := F_7) (N := 16) (v := .ref (cq14 + 13)) (fun s => Std.k s (ltn (cm hn) (kl_M kcq14)) kcq14) rfl (Nat.le_of_ble_eq_true rfl) rfl w_147 (fun s => vr rfl (Std.r s (ltn (cm hn) (kl_M kcq14)) (rr_M_9 kcq14))) d_Reader_readLine_126 ?_
      refine r_putR (pc := 129) (ci := 9) (k := 2) (C := "CricketHay$Reader") (T := F_9) (N := 12) (fun s => Std.k s (lc hn rfl) kq_1) rfl (Nat.le_of_ble_eq_true rfl) rfl rfl w_38 (fun _ _ => rfl) (fun _ => rfl) (fun _ => rfl) (fun s => Std.sR s _ _ _ (by decide +kernel)) d_Reader_readLine_129 ?_
      refine r_ltH (fun hq15 => ?_)
      refine r_aload_n (pc := 132) (i := 0) d_Reader_readLine_132 rfl rfl ?_
      refine r_iconst (pc := 133) (v := 0) d_Reader_readLine_133 (by rfl) ?_
      refine r_cVv (pc := 134) (T := F_9) (N := 12) (st := []) (ok_Reader_readEither hn 10 (0 : Int32) hq15) (fun s => Std.k s (lc hn rfl) kq_1) rfl w_603 w_2 w_600 w_602 ws_15 hy_Reader_readEither ⟨Nat.le_of_ble_eq_true rfl, Nat.le_of_ble_eq_true rfl⟩ ⟨Nat.le_of_ble_eq_true rfl, Nat.le_of_ble_eq_true rfl⟩ rfl (Nat.le_of_ble_eq_true rfl) d_Reader_readLine_134 (fun hq16 => ?_)
      refine r_goto (pc := 137) (tgt := 179) d_Reader_readLine_137 (by rfl) ?_
      exact r_wk (o_Reader_readLine_b179 hn hq16) ⟨rfl, trivial⟩
    refine r_split (fun cq17 => ?_) (fun cq17 => ?_)
    · refine r_tableIn (pc := 24) (tgt := 140) d_Reader_readLine_24 (by rw [cq17]; decide) (by rw [cq17]; decide) (by rw [cq17] <;> rfl) (by rfl) ?_
      refine r_aload_n (pc := 140) (i := 0) d_Reader_readLine_140 rfl rfl ?_
      refine r_cVv (pc := 141) (T := F_9) (N := 12) (st := []) (ok_Reader_readSnap hn hq4) (fun s => Std.k s (lc hn rfl) kq_1) rfl w_635 w_2 w_632 w_634 ws_22 hy_Reader_readSnap ⟨Nat.le_of_ble_eq_true rfl, Nat.le_of_ble_eq_true rfl⟩ ⟨Nat.le_of_ble_eq_true rfl, Nat.le_of_ble_eq_true rfl⟩ rfl (Nat.le_of_ble_eq_true rfl) d_Reader_readLine_141 (fun hq18 => ?_)
      refine r_goto (pc := 144) (tgt := 179) d_Reader_readLine_144 (by rfl) ?_
      exact r_wk (o_Reader_readLine_b179 hn hq18) ⟨rfl, trivial⟩
    refine r_split (fun cq19 => ?_) (fun cq19 => ?_)
    · refine r_tableIn (pc := 24) (tgt := 147) d_Reader_readLine_24 (by rw [cq19]; decide) (by rw [cq19]; decide) (by rw [cq19] <;> rfl) (by rfl) ?_
      refine r_aload_n (pc := 147) (i := 0) d_Reader_readLine_147 rfl rfl ?_
      refine r_gd (fun cq20 rcq20 kcq20 => ?_)
      refine r_getf (pc := 148) (ci := 9) (k := 1) (C := "CricketHay$Reader") (T := F_9) (N := 12) (v := .ref cq20) (fun s => Std.k s (lc hn rfl) kq_1) rfl (Nat.le_of_ble_eq_true rfl) rfl w_37 (fun _ => vr rfl rcq20) d_Reader_readLine_148 ?_
      refine r_aload_n (pc := 151) (i := 0) d_Reader_readLine_151 rfl rfl ?_
      refine r_iconst (pc := 152) (v := 1) d_Reader_readLine_152 (by rfl) ?_
      refine r_bipush (pc := 153) (v := 9) d_Reader_readLine_153 (by rfl) ?_
      refine r_cVi (pc := 155) (T := F_9) (N := 12) (st := [.ref cq20]) (ok_Reader_needNumber hn (1 : Int32) (9 : Int32) hq4) (fun s => Std.k s (lc hn rfl) kq_1) rfl w_595 w_2 w_592 w_594 ws_13 hy_Reader_needNumber ⟨Nat.le_of_ble_eq_true rfl, Nat.le_of_ble_eq_true rfl⟩ ⟨Nat.le_of_ble_eq_true rfl, Nat.le_of_ble_eq_true rfl⟩ rfl (Nat.le_of_ble_eq_true rfl) d_Reader_readLine_155 (fun rq21 hq22 => ?_)
      refine r_putI (pc := 158) (ci := 7) (k := 14) (C := "CricketHay$Market") (T := F_7) (N := 16) (fun s => Std.k s (ltn (cm hn) (kl_M kcq20)) kcq20) rfl (Nat.le_of_ble_eq_true rfl) rfl rfl w_167 (fun _ _ => rfl) (fun _ => rfl) (fun _ => rfl) (fun s => Std.sI s _ _ _) d_Reader_readLine_158 ?_
      refine r_ltH (fun hq23 => ?_)
      refine r_goto (pc := 161) (tgt := 179) d_Reader_readLine_161 (by rfl) ?_
      exact r_wk (o_Reader_readLine_b179 hn hq23) ⟨rfl, trivial⟩
    refine r_tableD (pc := 24) (tgt := 164) d_Reader_readLine_24 [256, 257, 264, 265, 266, 267] (List.forall_mem_cons.mpr ⟨lv_neT cq5 (show ((256 : Int32)).toInt = 256 from rfl), List.forall_mem_cons.mpr ⟨lv_neT cq7 (show ((257 : Int32)).toInt = 257 from rfl), List.forall_mem_cons.mpr ⟨lv_neT cq9 (show ((264 : Int32)).toInt = 264 from rfl), List.forall_mem_cons.mpr ⟨lv_neT cq13 (show ((265 : Int32)).toInt = 265 from rfl), List.forall_mem_cons.mpr ⟨lv_neT cq17 (show ((266 : Int32)).toInt = 266 from rfl), List.forall_mem_cons.mpr ⟨lv_neT cq19 (show ((267 : Int32)).toInt = 267 from rfl), List.forall_mem_nil _⟩⟩⟩⟩⟩⟩) (by decide) (by rfl) ?_
    refine r_aload_n (pc := 164) (i := 0) d_Reader_readLine_164 rfl rfl ?_
    refine r_gd (fun cq24 rcq24 kcq24 => ?_)
    refine r_getf (pc := 165) (ci := 9) (k := 1) (C := "CricketHay$Reader") (T := F_9) (N := 12) (v := .ref cq24) (fun s => Std.k s (lc hn rfl) kq_1) rfl (Nat.le_of_ble_eq_true rfl) rfl w_37 (fun _ => vr rfl rcq24) d_Reader_readLine_165 ?_
    refine r_aload_n (pc := 168) (i := 0) d_Reader_readLine_168 rfl rfl ?_
    refine r_iconst (pc := 169) (v := 0) d_Reader_readLine_169 (by rfl) ?_
    refine r_sipush (pc := 170) (v := 999) d_Reader_readLine_170 (by rfl) ?_
    refine r_cVi (pc := 173) (T := F_9) (N := 12) (st := [.ref cq24]) (ok_Reader_needNumber hn (0 : Int32) (999 : Int32) hq4) (fun s => Std.k s (lc hn rfl) kq_1) rfl w_595 w_2 w_592 w_594 ws_13 hy_Reader_needNumber ⟨Nat.le_of_ble_eq_true rfl, Nat.le_of_ble_eq_true rfl⟩ ⟨Nat.le_of_ble_eq_true rfl, Nat.le_of_ble_eq_true rfl⟩ rfl (Nat.le_of_ble_eq_true rfl) d_Reader_readLine_173 (fun rq25 hq26 => ?_)
    refine r_putI (pc := 176) (ci := 7) (k := 15) (C := "CricketHay$Market") (T := F_7) (N := 16) (fun s => Std.k s (ltn (cm hn) (kl_M kcq24)) kcq24) rfl (Nat.le_of_ble_eq_true rfl) rfl rfl w_170 (fun _ _ => rfl) (fun _ => rfl) (fun _ => rfl) (fun s => Std.sI s _ _ _) d_Reader_readLine_176 ?_
    refine r_ltH (fun hq27 => ?_)
    exact r_wk (o_Reader_readLine_b179 hn hq27) ⟨rfl, trivial⟩
  · refine r_aload_n (pc := 13) (i := 0) d_Reader_readLine_13 rfl rfl ?_
    refine r_iconst (pc := 14) (v := 2) d_Reader_readLine_14 (by rfl) ?_
    refine r_cVv (pc := 15) (T := F_9) (N := 12) (st := []) (ok_Reader_fail hn (2 : Int32) hq3) (fun s => Std.k s (lc hn rfl) kq_1) rfl w_500 w_2 w_497 w_499 ws_3 hy_Reader_fail ⟨Nat.le_of_ble_eq_true rfl, Nat.le_of_ble_eq_true rfl⟩ ⟨Nat.le_of_ble_eq_true rfl, Nat.le_of_ble_eq_true rfl⟩ rfl (Nat.le_of_ble_eq_true rfl) d_Reader_readLine_15 (fun hq28 => ?_)
    exact r_vret (pc := 18) rfl d_Reader_readLine_18

def f_Reader_read_b69  (a1 : Nat)   (h : AH) : Option (Int32 × AH) :=
  if ¬ (hI h 1 10) = 0 then
    some ((0 : Int32), h)
  else
    some ((1 : Int32), h)
set_option maxHeartbeats 2000000 in
theorem o_Reader_read_b69 {G : AE} {n : Nat} (hn : NN ≤ n)  {a1 : Nat} (ha1 : kdF a1 = .inr 7)  : ∀  (h : AH), AJ G n y_Reader_read (282) φI 69 [some (.ref 1), none, none] [] h (f_Reader_read_b69 a1 h) := by
  intro  h
  rw [f_Reader_read_b69]
  refine r_aload_n (pc := 69) (i := 0) d_Reader_read_69 rfl rfl ?_
  refine r_getf (pc := 70) (ci := 9) (k := 10) (C := "CricketHay$Reader") (T := F_9) (N := 12) (v := .int (hI h 1 10)) (fun s => Std.k s (lc hn rfl) kq_1) rfl (Nat.le_of_ble_eq_true rfl) rfl w_47 (fun _ => rfl) d_Reader_read_70 ?_
  refine r_if_ne (pc := 73) (tgt := 80) d_Reader_read_73 (by rfl) ?_ ?_
  · refine r_iconst (pc := 80) (v := 0) d_Reader_read_80 (by rfl) ?_
    exact r_zret (pc := 81) rfl rfl d_Reader_read_81
  · refine r_iconst (pc := 76) (v := 1) d_Reader_read_76 (by rfl) ?_
    refine r_goto (pc := 77) (tgt := 81) d_Reader_read_77 (by rfl) ?_
    exact r_zret (pc := 81) rfl rfl d_Reader_read_81
def f_Reader_read_l38  (a1 : Nat)  : Nat → Int32 → AH → Option (Int32 × AH)
  | 0, _, _ => none
  | n + 1, x2, h =>
    if (1600 : Int32) < x2 then
      f_Reader_read_b69 a1 h
    else
      if ¬ (hI h 1 10) = 0 then
        f_Reader_read_b69 a1 h
      else
        if (hI h 1 4) = 0 then
          f_Reader_read_b69 a1 h
        else
          bV (f_Reader_readLine h) fun hq1 =>
          lt (x2 + (1 : Int32)) fun xq2 =>
          f_Reader_read_l38 a1 n xq2 hq1
set_option maxHeartbeats 2000000 in
theorem o_Reader_read_l38 {G : AE} {n : Nat} (hn : NN ≤ n)  {a1 : Nat} (ha1 : kdF a1 = .inr 7)  : ∀ (n0 : Nat) (x2 : Int32) (h : AH), AJ G n y_Reader_read (282) φI 38 [some (.ref 1), none, some (.int x2)] [] h (f_Reader_read_l38 a1 n0 x2 h) := by
  intro n0
  induction n0 with
  | zero => intros; exact r_none
  | succ n0 ih =>
    intro x2 h
    rw [f_Reader_read_l38]
    refine r_iload_n (pc := 38) (i := 2) d_Reader_read_38 rfl rfl ?_
    refine r_sipush (pc := 39) (v := 1600) d_Reader_read_39 (by rfl) ?_
    refine r_icmp_gt (pc := 42) (tgt := 69) d_Reader_read_42 (by rfl) ?_ ?_
    · exact r_wk (o_Reader_read_b69 hn ha1 h) ⟨rfl, trivial⟩
    · refine r_aload_n (pc := 45) (i := 0) d_Reader_read_45 rfl rfl ?_
      refine r_getf (pc := 46) (ci := 9) (k := 10) (C := "CricketHay$Reader") (T := F_9) (N := 12) (v := .int (hI h 1 10)) (fun s => Std.k s (lc hn rfl) kq_1) rfl (Nat.le_of_ble_eq_true rfl) rfl w_47 (fun _ => rfl) d_Reader_read_46 ?_
      refine r_if_ne (pc := 49) (tgt := 69) d_Reader_read_49 (by rfl) ?_ ?_
      · exact r_wk (o_Reader_read_b69 hn ha1 h) ⟨rfl, trivial⟩
      · refine r_aload_n (pc := 52) (i := 0) d_Reader_read_52 rfl rfl ?_
        refine r_getf (pc := 53) (ci := 9) (k := 4) (C := "CricketHay$Reader") (T := F_9) (N := 12) (v := .int (hI h 1 4)) (fun s => Std.k s (lc hn rfl) kq_1) rfl (Nat.le_of_ble_eq_true rfl) rfl w_40 (fun _ => rfl) d_Reader_read_53 ?_
        refine r_if_eq (pc := 56) (tgt := 69) d_Reader_read_56 (by rfl) ?_ ?_
        · exact r_wk (o_Reader_read_b69 hn ha1 h) ⟨rfl, trivial⟩
        · refine r_aload_n (pc := 59) (i := 0) d_Reader_read_59 rfl rfl ?_
          refine r_cVv (pc := 60) (T := F_9) (N := 12) (st := []) (ok_Reader_readLine hn h) (fun s => Std.k s (lc hn rfl) kq_1) rfl w_563 w_2 w_560 w_562 ws_5 hy_Reader_readLine ⟨Nat.le_of_ble_eq_true rfl, Nat.le_of_ble_eq_true rfl⟩ ⟨Nat.le_of_ble_eq_true rfl, Nat.le_of_ble_eq_true rfl⟩ rfl (Nat.le_of_ble_eq_true rfl) d_Reader_read_60 (fun hq1 => ?_)
          refine r_ltE (fun xq2 exq2 => ?_)
          refine r_iinc (pc := 63) (v := xq2) (lv1 := [some (.ref 1), none, some (.int xq2)]) d_Reader_read_63 rfl exq2.symm (Nat.le_of_ble_eq_true rfl) rfl ?_
          refine r_goto (pc := 66) (tgt := 38) d_Reader_read_66 (by rfl) ?_
          exact r_wk (ih xq2 hq1) ⟨rfl, ⟨rfl, trivial⟩⟩
def f_Reader_read  (a1 : Nat) (h : AH) : Option (Int32 × AH) :=
  lt (sR h 1 1 (some a1)) fun hq1 =>
  gd hq1 1 1 7 fun cq2 =>
  bV (f_Market_reset cq2 hq1) fun hq3 =>
  lt (sI hq3 1 3 (0 : Int32)) fun hq4 =>
  lt (sI hq4 1 8 (0 : Int32)) fun hq5 =>
  lt (sI hq5 1 10 (0 : Int32)) fun hq6 =>
  lt (sI hq6 1 11 (-1 : Int32)) fun hq7 =>
  bV (f_Reader_next hq7) fun hq8 =>
  f_Reader_read_l38 a1 FU (0 : Int32) hq8
set_option maxHeartbeats 2000000 in
theorem ok_Reader_read {G : AE} {n : Nat} (hn : NN ≤ n)  (a1 : Nat) (ha1 : kdF a1 = .inr 7) (h : AH) : OK G n y_Reader_read (282) φI [.ref 1, .ref a1] h (f_Reader_read a1 h) := by
  refine ok_of (y := y_Reader_read) (lv0 := [some (.ref 1), some (.ref a1), none]) (by decide +kernel) (Nat.le_of_ble_eq_true rfl) ⟨rfl, ⟨rfl, trivial⟩⟩ ?_
  rw [f_Reader_read]
  refine r_aload_n (pc := 0) (i := 0) d_Reader_read_0 rfl rfl ?_
  refine r_aload_n (pc := 1) (i := 1) d_Reader_read_1 rfl rfl ?_
  refine r_putR (pc := 2) (ci := 9) (k := 1) (C := "CricketHay$Reader") (T := F_9) (N := 12) (fun s => Std.k s (lc hn rfl) kq_1) rfl (Nat.le_of_ble_eq_true rfl) rfl rfl w_37 (fun _ _ => rfl) (fun _ => rfl) (fun _ => rfl) (fun s => Std.sR s _ _ _ (by decide +kernel)) d_Reader_read_2 ?_
  refine r_ltH (fun hq1 => ?_)
  refine r_aload_n (pc := 5) (i := 0) d_Reader_read_5 rfl rfl ?_
  refine r_gd (fun cq2 rcq2 kcq2 => ?_)
  refine r_getf (pc := 6) (ci := 9) (k := 1) (C := "CricketHay$Reader") (T := F_9) (N := 12) (v := .ref cq2) (fun s => Std.k s (lc hn rfl) kq_1) rfl (Nat.le_of_ble_eq_true rfl) rfl w_37 (fun _ => vr rfl rcq2) d_Reader_read_6 ?_
  refine r_cVNv (pc := 9) (T := F_7) (N := 16) (st := []) (ok_Market_reset hn cq2 kcq2 hq1) (fun s => Std.k s (ltn (cm hn) (kl_M kcq2)) kcq2) rfl w_111 w_3 (host := "CricketHay") (by decide +kernel) w_110 ws_0 hy_Market_reset ⟨Nat.le_of_ble_eq_true rfl, Nat.le_of_ble_eq_true rfl⟩ ⟨Nat.le_of_ble_eq_true rfl, Nat.le_of_ble_eq_true rfl⟩ rfl (Nat.le_of_ble_eq_true rfl) d_Reader_read_9 (fun hq3 => ?_)
  refine r_aload_n (pc := 12) (i := 0) d_Reader_read_12 rfl rfl ?_
  refine r_iconst (pc := 13) (v := 0) d_Reader_read_13 (by rfl) ?_
  refine r_putI (pc := 14) (ci := 9) (k := 3) (C := "CricketHay$Reader") (T := F_9) (N := 12) (fun s => Std.k s (lc hn rfl) kq_1) rfl (Nat.le_of_ble_eq_true rfl) rfl rfl w_39 (fun _ _ => rfl) (fun _ => rfl) (fun _ => rfl) (fun s => Std.sI s _ _ _) d_Reader_read_14 ?_
  refine r_ltH (fun hq4 => ?_)
  refine r_aload_n (pc := 17) (i := 0) d_Reader_read_17 rfl rfl ?_
  refine r_iconst (pc := 18) (v := 0) d_Reader_read_18 (by rfl) ?_
  refine r_putI (pc := 19) (ci := 9) (k := 8) (C := "CricketHay$Reader") (T := F_9) (N := 12) (fun s => Std.k s (lc hn rfl) kq_1) rfl (Nat.le_of_ble_eq_true rfl) rfl rfl w_44 (fun _ _ => rfl) (fun _ => rfl) (fun _ => rfl) (fun s => Std.sI s _ _ _) d_Reader_read_19 ?_
  refine r_ltH (fun hq5 => ?_)
  refine r_aload_n (pc := 22) (i := 0) d_Reader_read_22 rfl rfl ?_
  refine r_iconst (pc := 23) (v := 0) d_Reader_read_23 (by rfl) ?_
  refine r_putI (pc := 24) (ci := 9) (k := 10) (C := "CricketHay$Reader") (T := F_9) (N := 12) (fun s => Std.k s (lc hn rfl) kq_1) rfl (Nat.le_of_ble_eq_true rfl) rfl rfl w_47 (fun _ _ => rfl) (fun _ => rfl) (fun _ => rfl) (fun s => Std.sI s _ _ _) d_Reader_read_24 ?_
  refine r_ltH (fun hq6 => ?_)
  refine r_aload_n (pc := 27) (i := 0) d_Reader_read_27 rfl rfl ?_
  refine r_iconst (pc := 28) (v := -1) d_Reader_read_28 (by rfl) ?_
  refine r_putI (pc := 29) (ci := 9) (k := 11) (C := "CricketHay$Reader") (T := F_9) (N := 12) (fun s => Std.k s (lc hn rfl) kq_1) rfl (Nat.le_of_ble_eq_true rfl) rfl rfl w_49 (fun _ _ => rfl) (fun _ => rfl) (fun _ => rfl) (fun s => Std.sI s _ _ _) d_Reader_read_29 ?_
  refine r_ltH (fun hq7 => ?_)
  refine r_aload_n (pc := 32) (i := 0) d_Reader_read_32 rfl rfl ?_
  refine r_cVv (pc := 33) (T := F_9) (N := 12) (st := []) (ok_Reader_next hn hq7) (fun s => Std.k s (lc hn rfl) kq_1) rfl w_486 w_2 w_483 w_485 ws_1 hy_Reader_next ⟨Nat.le_of_ble_eq_true rfl, Nat.le_of_ble_eq_true rfl⟩ ⟨Nat.le_of_ble_eq_true rfl, Nat.le_of_ble_eq_true rfl⟩ rfl (Nat.le_of_ble_eq_true rfl) d_Reader_read_33 (fun hq8 => ?_)
  refine r_iconst (pc := 36) (v := 0) d_Reader_read_36 (by rfl) ?_
  refine r_istore_n (pc := 37) (i := 2) (lv1 := [some (.ref 1), some (.ref a1), some (.int (0 : Int32))]) d_Reader_read_37 rfl (Nat.le_of_ble_eq_true rfl) rfl ?_
  exact r_wk (o_Reader_read_l38 hn ha1 FU (0 : Int32) hq8) ⟨rfl, ⟨rfl, trivial⟩⟩

def f_Yard_open_l2  (t : Nat) (a1 : Nat)  : Nat → Int32 → AH → Option AH
  | 0, _, _ => none
  | n + 1, x2, h =>
    if (6 : Int32) ≤ x2 then
      lt (sI h t 6 (0 : Int32)) fun hq1 =>
      lt (sI hq1 t 7 (0 : Int32)) fun hq2 =>
      lt (sI hq2 t 8 (0 : Int32)) fun hq3 =>
      lt (sI hq3 t 9 (hI hq3 a1 15)) fun hq4 =>
      some hq4
    else
      gx x2 6 <|
      gx x2 6 <|
      lt (sI h (t + 1) (ix x2) (hI h (a1 + 6) (ix x2))) fun hq7 =>
      gx x2 6 <|
      gx x2 6 <|
      lt (sI hq7 (t + 2) (ix x2) (hI hq7 (a1 + 7) (ix x2))) fun hq10 =>
      gx x2 6 <|
      lt (sI hq10 (t + 3) (ix x2) (0 : Int32)) fun hq12 =>
      gx x2 6 <|
      gx x2 6 <|
      lt (sI hq12 (t + 4) (ix x2) (hI hq12 (a1 + 5) (ix x2))) fun hq15 =>
      gx x2 6 <|
      lt (sI hq15 (t + 5) (ix x2) (0 : Int32)) fun hq17 =>
      gx x2 6 <|
      lt (sI hq17 (t + 6) (ix x2) (0 : Int32)) fun hq19 =>
      lt (x2 + (1 : Int32)) fun xq20 =>
      f_Yard_open_l2 t a1 n xq20 hq19
set_option maxHeartbeats 2000000 in
theorem o_Yard_open_l2 {G : AE} {n : Nat} (hn : CM ≤ n)  {t : Nat} {a1 : Nat} (ht : kdF t = .inr 10) (ha1 : kdF a1 = .inr 7)  : ∀ (n0 : Nat) (x2 : Int32) (h : AH), AJ G n y_Yard_open (1) φV 2 [some (.ref t), some (.ref a1), some (.int x2)] [] h (f_Yard_open_l2 t a1 n0 x2 h) := by
  intro n0
  induction n0 with
  | zero => intros; exact r_none
  | succ n0 ih =>
    intro x2 h
    rw [f_Yard_open_l2]
    refine r_iload_n (pc := 2) (i := 2) d_Yard_open_2 rfl rfl ?_
    refine r_bipush (pc := 3) (v := 6) d_Yard_open_3 (by rfl) ?_
    refine r_icmp_ge (pc := 5) (tgt := 71) d_Yard_open_5 (by rfl) ?_ ?_
    · refine r_aload_n (pc := 71) (i := 0) d_Yard_open_71 rfl rfl ?_
      refine r_iconst (pc := 72) (v := 0) d_Yard_open_72 (by rfl) ?_
      refine r_putI (pc := 73) (ci := 10) (k := 6) (C := "CricketHay$Yard") (T := F_10) (N := 10) (fun s => Std.k s (ltn hn (kl_Y ht)) ht) rfl (Nat.le_of_ble_eq_true rfl) rfl rfl w_227 (fun _ _ => rfl) (fun _ => rfl) (fun _ => rfl) (fun s => Std.sI s _ _ _) d_Yard_open_73 ?_
      refine r_ltH (fun hq1 => ?_)
      refine r_aload_n (pc := 76) (i := 0) d_Yard_open_76 rfl rfl ?_
      refine r_iconst (pc := 77) (v := 0) d_Yard_open_77 (by rfl) ?_
      refine r_putI (pc := 78) (ci := 10) (k := 7) (C := "CricketHay$Yard") (T := F_10) (N := 10) (fun s => Std.k s (ltn hn (kl_Y ht)) ht) rfl (Nat.le_of_ble_eq_true rfl) rfl rfl w_229 (fun _ _ => rfl) (fun _ => rfl) (fun _ => rfl) (fun s => Std.sI s _ _ _) d_Yard_open_78 ?_
      refine r_ltH (fun hq2 => ?_)
      refine r_aload_n (pc := 81) (i := 0) d_Yard_open_81 rfl rfl ?_
      refine r_iconst (pc := 82) (v := 0) d_Yard_open_82 (by rfl) ?_
      refine r_putI (pc := 83) (ci := 10) (k := 8) (C := "CricketHay$Yard") (T := F_10) (N := 10) (fun s => Std.k s (ltn hn (kl_Y ht)) ht) rfl (Nat.le_of_ble_eq_true rfl) rfl rfl w_233 (fun _ _ => rfl) (fun _ => rfl) (fun _ => rfl) (fun s => Std.sI s _ _ _) d_Yard_open_83 ?_
      refine r_ltH (fun hq3 => ?_)
      refine r_aload_n (pc := 86) (i := 0) d_Yard_open_86 rfl rfl ?_
      refine r_aload_n (pc := 87) (i := 1) d_Yard_open_87 rfl rfl ?_
      refine r_getf (pc := 88) (ci := 7) (k := 15) (C := "CricketHay$Market") (T := F_7) (N := 16) (v := .int (hI hq3 a1 15)) (fun s => Std.k s (ltn hn (kl_M ha1)) ha1) rfl (Nat.le_of_ble_eq_true rfl) rfl w_169 (fun _ => rfl) d_Yard_open_88 ?_
      refine r_putI (pc := 91) (ci := 10) (k := 9) (C := "CricketHay$Yard") (T := F_10) (N := 10) (fun s => Std.k s (ltn hn (kl_Y ht)) ht) rfl (Nat.le_of_ble_eq_true rfl) rfl rfl w_237 (fun _ _ => rfl) (fun _ => rfl) (fun _ => rfl) (fun s => Std.sI s _ _ _) d_Yard_open_91 ?_
      refine r_ltH (fun hq4 => ?_)
      exact r_vret (pc := 94) rfl d_Yard_open_94
    · refine r_aload_n (pc := 8) (i := 0) d_Yard_open_8 rfl rfl ?_
      refine r_getf (pc := 9) (ci := 10) (k := 0) (C := "CricketHay$Yard") (T := F_10) (N := 10) (v := .ref (t + 1)) (fun s => Std.k s (ltn hn (kl_Y ht)) ht) rfl (Nat.le_of_ble_eq_true rfl) rfl w_210 (fun s => vr rfl (Std.r s (ltn hn (kl_Y ht)) (rr_Y_0 ht))) d_Yard_open_9 ?_
      refine r_iload_n (pc := 12) (i := 2) d_Yard_open_12 rfl rfl ?_
      refine r_aload_n (pc := 13) (i := 1) d_Yard_open_13 rfl rfl ?_
      refine r_getf (pc := 14) (ci := 7) (k := 5) (C := "CricketHay$Market") (T := F_7) (N := 16) (v := .ref (a1 + 6)) (fun s => Std.k s (ltn hn (kl_M ha1)) ha1) rfl (Nat.le_of_ble_eq_true rfl) rfl w_133 (fun s => vr rfl (Std.r s (ltn hn (kl_M ha1)) (rr_M_5 ha1))) d_Yard_open_14 ?_
      refine r_iload_n (pc := 17) (i := 2) d_Yard_open_17 rfl rfl ?_
      refine r_gx (fun zq5 => ?_)
      refine r_iald (pc := 18) (n := 6) (i0 := (ix x2)) (fun s => Std.k s (ltn hn (kj_M_5 ha1)) (kk_M_5 ha1)) zq5 rfl d_Yard_open_18 ?_
      refine r_gx (fun zq6 => ?_)
      refine r_iast (pc := 19) (n := 6) (i0 := (ix x2)) (fun s => Std.k s (ltn hn (kj_Y_0 ht)) (kk_Y_0 ht)) zq6 rfl (fun s => Std.sI s _ _ _) d_Yard_open_19 ?_
      refine r_ltH (fun hq7 => ?_)
      refine r_aload_n (pc := 20) (i := 0) d_Yard_open_20 rfl rfl ?_
      refine r_getf (pc := 21) (ci := 10) (k := 1) (C := "CricketHay$Yard") (T := F_10) (N := 10) (v := .ref (t + 2)) (fun s => Std.k s (ltn hn (kl_Y ht)) ht) rfl (Nat.le_of_ble_eq_true rfl) rfl w_213 (fun s => vr rfl (Std.r s (ltn hn (kl_Y ht)) (rr_Y_1 ht))) d_Yard_open_21 ?_
      refine r_iload_n (pc := 24) (i := 2) d_Yard_open_24 rfl rfl ?_
      refine r_aload_n (pc := 25) (i := 1) d_Yard_open_25 rfl rfl ?_
      refine r_getf (pc := 26) (ci := 7) (k := 6) (C := "CricketHay$Market") (T := F_7) (N := 16) (v := .ref (a1 + 7)) (fun s => Std.k s (ltn hn (kl_M ha1)) ha1) rfl (Nat.le_of_ble_eq_true rfl) rfl w_136 (fun s => vr rfl (Std.r s (ltn hn (kl_M ha1)) (rr_M_6 ha1))) d_Yard_open_26 ?_
      refine r_iload_n (pc := 29) (i := 2) d_Yard_open_29 rfl rfl ?_
      refine r_gx (fun zq8 => ?_)
      refine r_iald (pc := 30) (n := 6) (i0 := (ix x2)) (fun s => Std.k s (ltn hn (kj_M_6 ha1)) (kk_M_6 ha1)) zq8 rfl d_Yard_open_30 ?_
      refine r_gx (fun zq9 => ?_)
      refine r_iast (pc := 31) (n := 6) (i0 := (ix x2)) (fun s => Std.k s (ltn hn (kj_Y_1 ht)) (kk_Y_1 ht)) zq9 rfl (fun s => Std.sI s _ _ _) d_Yard_open_31 ?_
      refine r_ltH (fun hq10 => ?_)
      refine r_aload_n (pc := 32) (i := 0) d_Yard_open_32 rfl rfl ?_
      refine r_getf (pc := 33) (ci := 10) (k := 2) (C := "CricketHay$Yard") (T := F_10) (N := 10) (v := .ref (t + 3)) (fun s => Std.k s (ltn hn (kl_Y ht)) ht) rfl (Nat.le_of_ble_eq_true rfl) rfl w_216 (fun s => vr rfl (Std.r s (ltn hn (kl_Y ht)) (rr_Y_2 ht))) d_Yard_open_33 ?_
      refine r_iload_n (pc := 36) (i := 2) d_Yard_open_36 rfl rfl ?_
      refine r_iconst (pc := 37) (v := 0) d_Yard_open_37 (by rfl) ?_
      refine r_gx (fun zq11 => ?_)
      refine r_iast (pc := 38) (n := 6) (i0 := (ix x2)) (fun s => Std.k s (ltn hn (kj_Y_2 ht)) (kk_Y_2 ht)) zq11 rfl (fun s => Std.sI s _ _ _) d_Yard_open_38 ?_
      refine r_ltH (fun hq12 => ?_)
      refine r_aload_n (pc := 39) (i := 0) d_Yard_open_39 rfl rfl ?_
      refine r_getf (pc := 40) (ci := 10) (k := 3) (C := "CricketHay$Yard") (T := F_10) (N := 10) (v := .ref (t + 4)) (fun s => Std.k s (ltn hn (kl_Y ht)) ht) rfl (Nat.le_of_ble_eq_true rfl) rfl w_218 (fun s => vr rfl (Std.r s (ltn hn (kl_Y ht)) (rr_Y_3 ht))) d_Yard_open_40 ?_
      refine r_iload_n (pc := 43) (i := 2) d_Yard_open_43 rfl rfl ?_
      refine r_aload_n (pc := 44) (i := 1) d_Yard_open_44 rfl rfl ?_
      refine r_getf (pc := 45) (ci := 7) (k := 4) (C := "CricketHay$Market") (T := F_7) (N := 16) (v := .ref (a1 + 5)) (fun s => Std.k s (ltn hn (kl_M ha1)) ha1) rfl (Nat.le_of_ble_eq_true rfl) rfl w_130 (fun s => vr rfl (Std.r s (ltn hn (kl_M ha1)) (rr_M_4 ha1))) d_Yard_open_45 ?_
      refine r_iload_n (pc := 48) (i := 2) d_Yard_open_48 rfl rfl ?_
      refine r_gx (fun zq13 => ?_)
      refine r_iald (pc := 49) (n := 6) (i0 := (ix x2)) (fun s => Std.k s (ltn hn (kj_M_4 ha1)) (kk_M_4 ha1)) zq13 rfl d_Yard_open_49 ?_
      refine r_gx (fun zq14 => ?_)
      refine r_iast (pc := 50) (n := 6) (i0 := (ix x2)) (fun s => Std.k s (ltn hn (kj_Y_3 ht)) (kk_Y_3 ht)) zq14 rfl (fun s => Std.sI s _ _ _) d_Yard_open_50 ?_
      refine r_ltH (fun hq15 => ?_)
      refine r_aload_n (pc := 51) (i := 0) d_Yard_open_51 rfl rfl ?_
      refine r_getf (pc := 52) (ci := 10) (k := 4) (C := "CricketHay$Yard") (T := F_10) (N := 10) (v := .ref (t + 5)) (fun s => Std.k s (ltn hn (kl_Y ht)) ht) rfl (Nat.le_of_ble_eq_true rfl) rfl w_221 (fun s => vr rfl (Std.r s (ltn hn (kl_Y ht)) (rr_Y_4 ht))) d_Yard_open_52 ?_
      refine r_iload_n (pc := 55) (i := 2) d_Yard_open_55 rfl rfl ?_
      refine r_iconst (pc := 56) (v := 0) d_Yard_open_56 (by rfl) ?_
      refine r_gx (fun zq16 => ?_)
      refine r_iast (pc := 57) (n := 6) (i0 := (ix x2)) (fun s => Std.k s (ltn hn (kj_Y_4 ht)) (kk_Y_4 ht)) zq16 rfl (fun s => Std.sI s _ _ _) d_Yard_open_57 ?_
      refine r_ltH (fun hq17 => ?_)
      refine r_aload_n (pc := 58) (i := 0) d_Yard_open_58 rfl rfl ?_
      refine r_getf (pc := 59) (ci := 10) (k := 5) (C := "CricketHay$Yard") (T := F_10) (N := 10) (v := .ref (t + 6)) (fun s => Std.k s (ltn hn (kl_Y ht)) ht) rfl (Nat.le_of_ble_eq_true rfl) rfl w_224 (fun s => vr rfl (Std.r s (ltn hn (kl_Y ht)) (rr_Y_5 ht))) d_Yard_open_59 ?_
      refine r_iload_n (pc := 62) (i := 2) d_Yard_open_62 rfl rfl ?_
      refine r_iconst (pc := 63) (v := 0) d_Yard_open_63 (by rfl) ?_
      refine r_gx (fun zq18 => ?_)
      refine r_iast (pc := 64) (n := 6) (i0 := (ix x2)) (fun s => Std.k s (ltn hn (kj_Y_5 ht)) (kk_Y_5 ht)) zq18 rfl (fun s => Std.sI s _ _ _) d_Yard_open_64 ?_
      refine r_ltH (fun hq19 => ?_)
      refine r_ltE (fun xq20 exq20 => ?_)
      refine r_iinc (pc := 65) (v := xq20) (lv1 := [some (.ref t), some (.ref a1), some (.int xq20)]) d_Yard_open_65 rfl exq20.symm (Nat.le_of_ble_eq_true rfl) rfl ?_
      refine r_goto (pc := 68) (tgt := 2) d_Yard_open_68 (by rfl) ?_
      exact r_wk (ih xq20 hq19) ⟨rfl, ⟨rfl, ⟨rfl, trivial⟩⟩⟩
def f_Yard_open  (t : Nat) (a1 : Nat) (h : AH) : Option AH :=
  f_Yard_open_l2 t a1 FU (0 : Int32) h
set_option maxHeartbeats 2000000 in
theorem ok_Yard_open {G : AE} {n : Nat} (hn : CM ≤ n)  (t : Nat) (ht : kdF t = .inr 10) (a1 : Nat) (ha1 : kdF a1 = .inr 7) (h : AH) : OK G n y_Yard_open (1) φV [.ref t, .ref a1] h (f_Yard_open t a1 h) := by
  refine ok_of (y := y_Yard_open) (lv0 := [some (.ref t), some (.ref a1), none]) (by decide +kernel) (Nat.le_of_ble_eq_true rfl) ⟨rfl, ⟨rfl, trivial⟩⟩ ?_
  rw [f_Yard_open]
  refine r_iconst (pc := 0) (v := 0) d_Yard_open_0 (by rfl) ?_
  refine r_istore_n (pc := 1) (i := 2) (lv1 := [some (.ref t), some (.ref a1), some (.int (0 : Int32))]) d_Yard_open_1 rfl (Nat.le_of_ble_eq_true rfl) rfl ?_
  exact r_wk (o_Yard_open_l2 hn ht ha1 FU (0 : Int32) h) ⟨rfl, ⟨rfl, ⟨rfl, trivial⟩⟩⟩

def f_Acts_forget   (h : AH) : Option AH :=
  lt (sI h 53 1 (0 : Int32)) fun hq1 =>
  lt (sI hq1 53 2 (0 : Int32)) fun hq2 =>
  some hq2
set_option maxHeartbeats 2000000 in
theorem ok_Acts_forget {G : AE} {n : Nat} (hn : NN ≤ n)   (h : AH) : OK G n y_Acts_forget (1) φV [.ref 53] h (f_Acts_forget h) := by
  refine ok_of (y := y_Acts_forget) (lv0 := [some (.ref 53)]) (by decide +kernel) (Nat.le_of_ble_eq_true rfl) ⟨rfl, trivial⟩ ?_
  rw [f_Acts_forget]
  refine r_aload_n (pc := 0) (i := 0) d_Acts_forget_0 rfl rfl ?_
  refine r_iconst (pc := 1) (v := 0) d_Acts_forget_1 (by rfl) ?_
  refine r_putI (pc := 2) (ci := 0) (k := 1) (C := "CricketHay$Acts") (T := F_0) (N := 3) (fun s => Std.k s (lc hn rfl) kq_53) rfl (Nat.le_of_ble_eq_true rfl) rfl rfl w_284 (fun _ _ => rfl) (fun _ => rfl) (fun _ => rfl) (fun s => Std.sI s _ _ _) d_Acts_forget_2 ?_
  refine r_ltH (fun hq1 => ?_)
  refine r_aload_n (pc := 5) (i := 0) d_Acts_forget_5 rfl rfl ?_
  refine r_iconst (pc := 6) (v := 0) d_Acts_forget_6 (by rfl) ?_
  refine r_putI (pc := 7) (ci := 0) (k := 2) (C := "CricketHay$Acts") (T := F_0) (N := 3) (fun s => Std.k s (lc hn rfl) kq_53) rfl (Nat.le_of_ble_eq_true rfl) rfl rfl w_286 (fun _ _ => rfl) (fun _ => rfl) (fun _ => rfl) (fun s => Std.sI s _ _ _) d_Acts_forget_7 ?_
  refine r_ltH (fun hq2 => ?_)
  exact r_vret (pc := 10) rfl d_Acts_forget_10

def f_Boxes_empty_l2    : Nat → Int32 → AH → Option AH
  | 0, _, _ => none
  | n + 1, x1, h =>
    if (3 : Int32) ≤ x1 then
      some h
    else
      gx x1 3 <|
      lt (sI h 344 (ix x1) (vp_nar .boolean (0 : Int32))) fun hq2 =>
      lt (x1 + (1 : Int32)) fun xq3 =>
      f_Boxes_empty_l2 n xq3 hq2
set_option maxHeartbeats 2000000 in
theorem o_Boxes_empty_l2 {G : AE} {n : Nat} (hn : NN ≤ n)     : ∀ (n0 : Nat) (x1 : Int32) (h : AH), AJ G n y_Boxes_empty (1) φV 2 [some (.ref 342), some (.int x1)] [] h (f_Boxes_empty_l2 n0 x1 h) := by
  intro n0
  induction n0 with
  | zero => intros; exact r_none
  | succ n0 ih =>
    intro x1 h
    rw [f_Boxes_empty_l2]
    refine r_iload_n (pc := 2) (i := 1) d_Boxes_empty_2 rfl rfl ?_
    refine r_iconst (pc := 3) (v := 3) d_Boxes_empty_3 (by rfl) ?_
    refine r_icmp_ge (pc := 4) (tgt := 20) d_Boxes_empty_4 (by rfl) ?_ ?_
    · exact r_vret (pc := 20) rfl d_Boxes_empty_20
    · refine r_aload_n (pc := 7) (i := 0) d_Boxes_empty_7 rfl rfl ?_
      refine r_getf (pc := 8) (ci := 1) (k := 1) (C := "CricketHay$Boxes") (T := F_1) (N := 2) (v := .ref 344) (fun s => Std.k s (lc hn rfl) kq_342) rfl (Nat.le_of_ble_eq_true rfl) rfl w_304 (fun s => vr rfl (Std.r s (lc hn rfl) rq_342_1)) d_Boxes_empty_8 ?_
      refine r_iload_n (pc := 11) (i := 1) d_Boxes_empty_11 rfl rfl ?_
      refine r_iconst (pc := 12) (v := 0) d_Boxes_empty_12 (by rfl) ?_
      refine r_gx (fun zq1 => ?_)
      refine r_zast (pc := 13) (n := 3) (i0 := (ix x1)) (fun s => Std.k s (lc hn rfl) kq_344) zq1 rfl (fun s => Std.sI s _ _ _) d_Boxes_empty_13 ?_
      refine r_ltH (fun hq2 => ?_)
      refine r_ltE (fun xq3 exq3 => ?_)
      refine r_iinc (pc := 14) (v := xq3) (lv1 := [some (.ref 342), some (.int xq3)]) d_Boxes_empty_14 rfl exq3.symm (Nat.le_of_ble_eq_true rfl) rfl ?_
      refine r_goto (pc := 17) (tgt := 2) d_Boxes_empty_17 (by rfl) ?_
      exact r_wk (ih xq3 hq2) ⟨rfl, ⟨rfl, trivial⟩⟩
def f_Boxes_empty   (h : AH) : Option AH :=
  f_Boxes_empty_l2 FU (0 : Int32) h
set_option maxHeartbeats 2000000 in
theorem ok_Boxes_empty {G : AE} {n : Nat} (hn : NN ≤ n)   (h : AH) : OK G n y_Boxes_empty (1) φV [.ref 342] h (f_Boxes_empty h) := by
  refine ok_of (y := y_Boxes_empty) (lv0 := [some (.ref 342), none]) (by decide +kernel) (Nat.le_of_ble_eq_true rfl) ⟨rfl, trivial⟩ ?_
  rw [f_Boxes_empty]
  refine r_iconst (pc := 0) (v := 0) d_Boxes_empty_0 (by rfl) ?_
  refine r_istore_n (pc := 1) (i := 1) (lv1 := [some (.ref 342), some (.int (0 : Int32))]) d_Boxes_empty_1 rfl (Nat.le_of_ble_eq_true rfl) rfl ?_
  exact r_wk (o_Boxes_empty_l2 hn FU (0 : Int32) h) ⟨rfl, ⟨rfl, trivial⟩⟩

def f_Ears_forget   (h : AH) : Option AH :=
  lt (sI h 366 10 (0 : Int32)) fun hq1 =>
  lt (sI hq1 366 7 (-1 : Int32)) fun hq2 =>
  some hq2
set_option maxHeartbeats 2000000 in
theorem ok_Ears_forget {G : AE} {n : Nat} (hn : NN ≤ n)   (h : AH) : OK G n y_Ears_forget (1) φV [.ref 366] h (f_Ears_forget h) := by
  refine ok_of (y := y_Ears_forget) (lv0 := [some (.ref 366)]) (by decide +kernel) (Nat.le_of_ble_eq_true rfl) ⟨rfl, trivial⟩ ?_
  rw [f_Ears_forget]
  refine r_aload_n (pc := 0) (i := 0) d_Ears_forget_0 rfl rfl ?_
  refine r_iconst (pc := 1) (v := 0) d_Ears_forget_1 (by rfl) ?_
  refine r_putI (pc := 2) (ci := 4) (k := 10) (C := "CricketHay$Ears") (T := F_4) (N := 12) (fun s => Std.k s (lc hn rfl) kq_366) rfl (Nat.le_of_ble_eq_true rfl) rfl rfl w_327 (fun _ _ => rfl) (fun _ => rfl) (fun _ => rfl) (fun s => Std.sI s _ _ _) d_Ears_forget_2 ?_
  refine r_ltH (fun hq1 => ?_)
  refine r_aload_n (pc := 5) (i := 0) d_Ears_forget_5 rfl rfl ?_
  refine r_iconst (pc := 6) (v := -1) d_Ears_forget_6 (by rfl) ?_
  refine r_putI (pc := 7) (ci := 4) (k := 7) (C := "CricketHay$Ears") (T := F_4) (N := 12) (fun s => Std.k s (lc hn rfl) kq_366) rfl (Nat.le_of_ble_eq_true rfl) rfl rfl w_324 (fun _ _ => rfl) (fun _ => rfl) (fun _ => rfl) (fun s => Std.sI s _ _ _) d_Ears_forget_7 ?_
  refine r_ltH (fun hq2 => ?_)
  exact r_vret (pc := 10) rfl d_Ears_forget_10

def f_Lie_wipe   (h : AH) : Option AH :=
  lt (sI h 380 1 (0 : Int32)) fun hq1 =>
  some hq1
set_option maxHeartbeats 2000000 in
theorem ok_Lie_wipe {G : AE} {n : Nat} (hn : NN ≤ n)   (h : AH) : OK G n y_Lie_wipe (1) φV [.ref 380] h (f_Lie_wipe h) := by
  refine ok_of (y := y_Lie_wipe) (lv0 := [some (.ref 380)]) (by decide +kernel) (Nat.le_of_ble_eq_true rfl) ⟨rfl, trivial⟩ ?_
  rw [f_Lie_wipe]
  refine r_aload_n (pc := 0) (i := 0) d_Lie_wipe_0 rfl rfl ?_
  refine r_iconst (pc := 1) (v := 0) d_Lie_wipe_1 (by rfl) ?_
  refine r_putI (pc := 2) (ci := 6) (k := 1) (C := "CricketHay$Lie") (T := F_6) (N := 2) (fun s => Std.k s (lc hn rfl) kq_380) rfl (Nat.le_of_ble_eq_true rfl) rfl rfl w_411 (fun _ _ => rfl) (fun _ => rfl) (fun _ => rfl) (fun s => Std.sI s _ _ _) d_Lie_wipe_2 ?_
  refine r_ltH (fun hq1 => ?_)
  exact r_vret (pc := 5) rfl d_Lie_wipe_5

def f_H_market   (h : AH) : Option (Int32 × AH) :=
  gd h 0 2 7 fun cq1 =>
  bI (f_Reader_read cq1 h) fun rq2 hq3 =>
  lt (sI hq3 1 9 (0 : Int32)) fun hq4 =>
  if ¬ rq2 = 0 then
    gd hq4 0 1 7 fun cq5 =>
    gd hq4 0 2 7 fun cq6 =>
    lt (sR hq4 0 1 (some cq6)) fun hq7 =>
    lt (sR hq7 0 2 (some cq5)) fun hq8 =>
    gd hq8 0 1 7 fun cq9 =>
    bV (f_Yard_open 37 cq9 hq8) fun hq10 =>
    bV (f_Acts_forget hq10) fun hq11 =>
    bV (f_Boxes_empty hq11) fun hq12 =>
    bV (f_Ears_forget hq12) fun hq13 =>
    bV (f_Lie_wipe hq13) fun hq14 =>
    gd hq14 0 1 7 fun cq15 =>
    some ((hI hq14 cq15 11), hq14)
  else
    some ((-1 : Int32), hq4)
set_option maxHeartbeats 2000000 in
theorem ok_H_market {G : AE} {n : Nat} (hn : NN ≤ n)   (h : AH) : OK G n y_H_market (283) φI [.ref 0] h (f_H_market h) := by
  refine ok_of (y := y_H_market) (lv0 := [some (.ref 0), none, none]) (by decide +kernel) (Nat.le_of_ble_eq_true rfl) ⟨rfl, trivial⟩ ?_
  rw [f_H_market]
  refine r_aload_n (pc := 0) (i := 0) d_H_market_0 rfl rfl ?_
  refine r_getf (pc := 1) (ci := 11) (k := 0) (C := "CricketHay") (T := F_11) (N := 13) (v := .ref 1) (fun s => Std.k s (lc hn rfl) kq_0) rfl (Nat.le_of_ble_eq_true rfl) rfl w_422 (fun s => vr rfl (Std.r s (lc hn rfl) rq_0_0)) d_H_market_1 ?_
  refine r_aload_n (pc := 4) (i := 0) d_H_market_4 rfl rfl ?_
  refine r_gd (fun cq1 rcq1 kcq1 => ?_)
  refine r_getf (pc := 5) (ci := 11) (k := 2) (C := "CricketHay") (T := F_11) (N := 13) (v := .ref cq1) (fun s => Std.k s (lc hn rfl) kq_0) rfl (Nat.le_of_ble_eq_true rfl) rfl w_424 (fun _ => vr rfl rcq1) d_H_market_5 ?_
  refine r_cVi (pc := 8) (T := F_9) (N := 12) (st := []) (ok_Reader_read hn cq1 kcq1 h) (fun s => Std.k s (lc hn rfl) kq_1) rfl w_481 w_2 w_478 w_479 w_480 hy_Reader_read ⟨Nat.le_of_ble_eq_true rfl, Nat.le_of_ble_eq_true rfl⟩ ⟨Nat.le_of_ble_eq_true rfl, Nat.le_of_ble_eq_true rfl⟩ rfl (Nat.le_of_ble_eq_true rfl) d_H_market_8 (fun rq2 hq3 => ?_)
  refine r_istore_n (pc := 11) (i := 1) (lv1 := [some (.ref 0), some (.int rq2), none]) d_H_market_11 rfl (Nat.le_of_ble_eq_true rfl) rfl ?_
  refine r_aload_n (pc := 12) (i := 0) d_H_market_12 rfl rfl ?_
  refine r_getf (pc := 13) (ci := 11) (k := 0) (C := "CricketHay") (T := F_11) (N := 13) (v := .ref 1) (fun s => Std.k s (lc hn rfl) kq_0) rfl (Nat.le_of_ble_eq_true rfl) rfl w_422 (fun s => vr rfl (Std.r s (lc hn rfl) rq_0_0)) d_H_market_13 ?_
  refine r_iconst (pc := 16) (v := 0) d_H_market_16 (by rfl) ?_
  refine r_putI (pc := 17) (ci := 9) (k := 9) (C := "CricketHay$Reader") (T := F_9) (N := 12) (fun s => Std.k s (lc hn rfl) kq_1) rfl (Nat.le_of_ble_eq_true rfl) rfl rfl w_46 (fun _ _ => rfl) (fun _ => rfl) (fun _ => rfl) (fun s => Std.sI s _ _ _) d_H_market_17 ?_
  refine r_ltH (fun hq4 => ?_)
  refine r_iload_n (pc := 20) (i := 1) d_H_market_20 rfl rfl ?_
  refine r_if_ne (pc := 21) (tgt := 26) d_H_market_21 (by rfl) ?_ ?_
  · refine r_aload_n (pc := 26) (i := 0) d_H_market_26 rfl rfl ?_
    refine r_gd (fun cq5 rcq5 kcq5 => ?_)
    refine r_getf (pc := 27) (ci := 11) (k := 1) (C := "CricketHay") (T := F_11) (N := 13) (v := .ref cq5) (fun s => Std.k s (lc hn rfl) kq_0) rfl (Nat.le_of_ble_eq_true rfl) rfl w_423 (fun _ => vr rfl rcq5) d_H_market_27 ?_
    refine r_astore_n (pc := 30) (i := 2) (lv1 := [some (.ref 0), some (.int rq2), some (.ref cq5)]) d_H_market_30 rfl (Nat.le_of_ble_eq_true rfl) rfl ?_
    refine r_aload_n (pc := 31) (i := 0) d_H_market_31 rfl rfl ?_
    refine r_aload_n (pc := 32) (i := 0) d_H_market_32 rfl rfl ?_
    refine r_gd (fun cq6 rcq6 kcq6 => ?_)
    refine r_getf (pc := 33) (ci := 11) (k := 2) (C := "CricketHay") (T := F_11) (N := 13) (v := .ref cq6) (fun s => Std.k s (lc hn rfl) kq_0) rfl (Nat.le_of_ble_eq_true rfl) rfl w_424 (fun _ => vr rfl rcq6) d_H_market_33 ?_
    refine r_putR (pc := 36) (ci := 11) (k := 1) (C := "CricketHay") (T := F_11) (N := 13) (fun s => Std.k s (lc hn rfl) kq_0) rfl (Nat.le_of_ble_eq_true rfl) rfl rfl w_423 (fun _ _ => rfl) (fun _ => rfl) (fun _ => rfl) (fun s => Std.sR s _ _ _ (by decide +kernel)) d_H_market_36 ?_
    refine r_ltH (fun hq7 => ?_)
    refine r_aload_n (pc := 39) (i := 0) d_H_market_39 rfl rfl ?_
    refine r_aload_n (pc := 40) (i := 2) d_H_market_40 rfl rfl ?_
    refine r_putR (pc := 41) (ci := 11) (k := 2) (C := "CricketHay") (T := F_11) (N := 13) (fun s => Std.k s (lc hn rfl) kq_0) rfl (Nat.le_of_ble_eq_true rfl) rfl rfl w_424 (fun _ _ => rfl) (fun _ => rfl) (fun _ => rfl) (fun s => Std.sR s _ _ _ (by decide +kernel)) d_H_market_41 ?_
    refine r_ltH (fun hq8 => ?_)
    refine r_aload_n (pc := 44) (i := 0) d_H_market_44 rfl rfl ?_
    refine r_getf (pc := 45) (ci := 11) (k := 3) (C := "CricketHay") (T := F_11) (N := 13) (v := .ref 37) (fun s => Std.k s (lc hn rfl) kq_0) rfl (Nat.le_of_ble_eq_true rfl) rfl w_425 (fun s => vr rfl (Std.r s (lc hn rfl) rq_0_3)) d_H_market_45 ?_
    refine r_aload_n (pc := 48) (i := 0) d_H_market_48 rfl rfl ?_
    refine r_gd (fun cq9 rcq9 kcq9 => ?_)
    refine r_getf (pc := 49) (ci := 11) (k := 1) (C := "CricketHay") (T := F_11) (N := 13) (v := .ref cq9) (fun s => Std.k s (lc hn rfl) kq_0) rfl (Nat.le_of_ble_eq_true rfl) rfl w_423 (fun _ => vr rfl rcq9) d_H_market_49 ?_
    refine r_cVv (pc := 52) (T := F_10) (N := 10) (st := []) (ok_Yard_open (cm hn) 37 kq_37 cq9 kcq9 hq8) (fun s => Std.k s (lc hn rfl) kq_37) rfl w_421 w_5 w_418 w_419 w_420 hy_Yard_open ⟨Nat.le_of_ble_eq_true rfl, Nat.le_of_ble_eq_true rfl⟩ ⟨Nat.le_of_ble_eq_true rfl, Nat.le_of_ble_eq_true rfl⟩ rfl (Nat.le_of_ble_eq_true rfl) d_H_market_52 (fun hq10 => ?_)
    refine r_aload_n (pc := 55) (i := 0) d_H_market_55 rfl rfl ?_
    refine r_getf (pc := 56) (ci := 11) (k := 6) (C := "CricketHay") (T := F_11) (N := 13) (v := .ref 53) (fun s => Std.k s (lc hn rfl) kq_0) rfl (Nat.le_of_ble_eq_true rfl) rfl w_428 (fun s => vr rfl (Std.r s (lc hn rfl) rq_0_6)) d_H_market_56 ?_
    refine r_cVv (pc := 59) (T := F_0) (N := 3) (st := []) (ok_Acts_forget hn hq10) (fun s => Std.k s (lc hn rfl) kq_53) rfl w_639 w_7 w_636 w_637 w_638 hy_Acts_forget ⟨Nat.le_of_ble_eq_true rfl, Nat.le_of_ble_eq_true rfl⟩ ⟨Nat.le_of_ble_eq_true rfl, Nat.le_of_ble_eq_true rfl⟩ rfl (Nat.le_of_ble_eq_true rfl) d_H_market_59 (fun hq11 => ?_)
    refine r_aload_n (pc := 62) (i := 0) d_H_market_62 rfl rfl ?_
    refine r_getf (pc := 63) (ci := 11) (k := 7) (C := "CricketHay") (T := F_11) (N := 13) (v := .ref 342) (fun s => Std.k s (lc hn rfl) kq_0) rfl (Nat.le_of_ble_eq_true rfl) rfl w_429 (fun s => vr rfl (Std.r s (lc hn rfl) rq_0_7)) d_H_market_63 ?_
    refine r_cVv (pc := 66) (T := F_1) (N := 2) (st := []) (ok_Boxes_empty hn hq11) (fun s => Std.k s (lc hn rfl) kq_342) rfl w_643 w_8 w_640 w_641 w_642 hy_Boxes_empty ⟨Nat.le_of_ble_eq_true rfl, Nat.le_of_ble_eq_true rfl⟩ ⟨Nat.le_of_ble_eq_true rfl, Nat.le_of_ble_eq_true rfl⟩ rfl (Nat.le_of_ble_eq_true rfl) d_H_market_66 (fun hq12 => ?_)
    refine r_aload_n (pc := 69) (i := 0) d_H_market_69 rfl rfl ?_
    refine r_getf (pc := 70) (ci := 11) (k := 8) (C := "CricketHay") (T := F_11) (N := 13) (v := .ref 366) (fun s => Std.k s (lc hn rfl) kq_0) rfl (Nat.le_of_ble_eq_true rfl) rfl w_430 (fun s => vr rfl (Std.r s (lc hn rfl) rq_0_8)) d_H_market_70 ?_
    refine r_cVv (pc := 73) (T := F_4) (N := 12) (st := []) (ok_Ears_forget hn hq12) (fun s => Std.k s (lc hn rfl) kq_366) rfl w_647 w_9 w_644 w_645 w_646 hy_Ears_forget ⟨Nat.le_of_ble_eq_true rfl, Nat.le_of_ble_eq_true rfl⟩ ⟨Nat.le_of_ble_eq_true rfl, Nat.le_of_ble_eq_true rfl⟩ rfl (Nat.le_of_ble_eq_true rfl) d_H_market_73 (fun hq13 => ?_)
    refine r_aload_n (pc := 76) (i := 0) d_H_market_76 rfl rfl ?_
    refine r_getf (pc := 77) (ci := 11) (k := 11) (C := "CricketHay") (T := F_11) (N := 13) (v := .ref 380) (fun s => Std.k s (lc hn rfl) kq_0) rfl (Nat.le_of_ble_eq_true rfl) rfl w_433 (fun s => vr rfl (Std.r s (lc hn rfl) rq_0_11)) d_H_market_77 ?_
    refine r_cVv (pc := 80) (T := F_6) (N := 2) (st := []) (ok_Lie_wipe hn hq13) (fun s => Std.k s (lc hn rfl) kq_380) rfl w_651 w_12 w_648 w_649 w_650 hy_Lie_wipe ⟨Nat.le_of_ble_eq_true rfl, Nat.le_of_ble_eq_true rfl⟩ ⟨Nat.le_of_ble_eq_true rfl, Nat.le_of_ble_eq_true rfl⟩ rfl (Nat.le_of_ble_eq_true rfl) d_H_market_80 (fun hq14 => ?_)
    refine r_aload_n (pc := 83) (i := 0) d_H_market_83 rfl rfl ?_
    refine r_gd (fun cq15 rcq15 kcq15 => ?_)
    refine r_getf (pc := 84) (ci := 11) (k := 1) (C := "CricketHay") (T := F_11) (N := 13) (v := .ref cq15) (fun s => Std.k s (lc hn rfl) kq_0) rfl (Nat.le_of_ble_eq_true rfl) rfl w_423 (fun _ => vr rfl rcq15) d_H_market_84 ?_
    refine r_getf (pc := 87) (ci := 7) (k := 11) (C := "CricketHay$Market") (T := F_7) (N := 16) (v := .int (hI hq14 cq15 11)) (fun s => Std.k s (ltn (cm hn) (kl_M kcq15)) kcq15) rfl (Nat.le_of_ble_eq_true rfl) rfl w_155 (fun _ => rfl) d_H_market_87 ?_
    exact r_iret (pc := 90) rfl d_H_market_90
  · refine r_iconst (pc := 24) (v := -1) d_H_market_24 (by rfl) ?_
    exact r_iret (pc := 25) rfl d_H_market_25
