theorem w_10 : Cond.initialized "CricketHay$Mating" ∈ lw_good := q_t 10 (by decide +kernel) rfl
theorem w_21 : Cond.initialized "java/lang/Integer" ∈ lw_good := q_t 21 (by decide +kernel) rfl
theorem w_95 : Cond.fieldLink "CricketHay" 343 "CricketHay$Formula" "units" "I" ∈ lw_good := q_t 95 (by decide +kernel) rfl
theorem w_126 : Cond.fieldLink "CricketHay$Yard" 67 "CricketHay$Market" "song" "[I" ∈ lw_good := q_t 126 (by decide +kernel) rfl
theorem w_145 : Cond.fieldLink "CricketHay" 339 "CricketHay$Market" "chirps" "LCricketHay$Formula;" ∈ lw_good := q_t 145 (by decide +kernel) rfl
theorem w_148 : Cond.fieldLink "CricketHay" 348 "CricketHay$Market" "heat" "LCricketHay$Formula;" ∈ lw_good := q_t 148 (by decide +kernel) rfl
theorem w_151 : Cond.fieldLink "CricketHay" 323 "CricketHay$Market" "kinds" "I" ∈ lw_good := q_t 151 (by decide +kernel) rfl
theorem w_228 : Cond.fieldLink "CricketHay" 329 "CricketHay$Yard" "cold" "I" ∈ lw_good := q_t 228 (by decide +kernel) rfl
theorem w_231 : Cond.fieldLink "CricketHay$Ears" 50 "CricketHay$Yard" "hour" "I" ∈ lw_good := q_t 231 (by decide +kernel) rfl
theorem w_235 : Cond.fieldLink "CricketHay$Ears" 55 "CricketHay$Yard" "day" "I" ∈ lw_good := q_t 235 (by decide +kernel) rfl
theorem w_238 : Cond.fieldLink "CricketHay" 326 "CricketHay$Yard" "seed" "I" ∈ lw_good := q_t 238 (by decide +kernel) rfl
theorem w_285 : Cond.fieldLink "CricketHay" 332 "CricketHay$Acts" "done" "I" ∈ lw_good := q_t 285 (by decide +kernel) rfl
theorem w_287 : Cond.fieldLink "CricketHay" 335 "CricketHay$Acts" "undone" "I" ∈ lw_good := q_t 287 (by decide +kernel) rfl
theorem w_303 : Cond.fieldLink "CricketHay$Boxes" 11 "CricketHay$Boxes" "yards" "[LCricketHay$Yard;" ∈ lw_good := q_t 303 (by decide +kernel) rfl
theorem w_317 : Cond.fieldLink "CricketHay$Ears" 9 "CricketHay$Ears" "heats" "[I" ∈ lw_good := q_t 317 (by decide +kernel) rfl
theorem w_318 : Cond.fieldLink "CricketHay$Ears" 15 "CricketHay$Ears" "chirps" "[I" ∈ lw_good := q_t 318 (by decide +kernel) rfl
theorem w_319 : Cond.fieldLink "CricketHay$Ears" 18 "CricketHay$Ears" "had" "[Z" ∈ lw_good := q_t 319 (by decide +kernel) rfl
theorem w_320 : Cond.fieldLink "CricketHay$Ears" 22 "CricketHay$Ears" "told" "[I" ∈ lw_good := q_t 320 (by decide +kernel) rfl
theorem w_321 : Cond.fieldLink "CricketHay$Ears" 25 "CricketHay$Ears" "untold" "[I" ∈ lw_good := q_t 321 (by decide +kernel) rfl
theorem w_322 : Cond.fieldLink "CricketHay$Ears" 28 "CricketHay$Ears" "fitting" "[Z" ∈ lw_good := q_t 322 (by decide +kernel) rfl
theorem w_323 : Cond.fieldLink "CricketHay$Ears" 31 "CricketHay$Ears" "sung" "[I" ∈ lw_good := q_t 323 (by decide +kernel) rfl
theorem w_325 : Cond.fieldLink "CricketHay$Ears" 38 "CricketHay$Ears" "sungDay" "I" ∈ lw_good := q_t 325 (by decide +kernel) rfl
theorem w_326 : Cond.fieldLink "CricketHay$Ears" 41 "CricketHay$Ears" "fits" "I" ∈ lw_good := q_t 326 (by decide +kernel) rfl
theorem w_328 : Cond.fieldLink "CricketHay" 338 "CricketHay$Ears" "count" "I" ∈ lw_good := q_t 328 (by decide +kernel) rfl
theorem w_329 : Cond.fieldLink "CricketHay$Ears" 47 "CricketHay$Ears" "time" "I" ∈ lw_good := q_t 329 (by decide +kernel) rfl
theorem w_330 : Cond.fieldLink "CricketHay" 301 "CricketHay$Ears" "time" "I" ∈ lw_good := q_t 330 (by decide +kernel) rfl
theorem w_362 : Cond.fieldLink "CricketHay$Mating" 11 "CricketHay$Mating" "reached" "[I" ∈ lw_good := q_t 362 (by decide +kernel) rfl
theorem w_363 : Cond.fieldLink "CricketHay$Mating" 15 "CricketHay$Mating" "first" "I" ∈ lw_good := q_t 363 (by decide +kernel) rfl
theorem w_412 : Cond.fieldLink "CricketHay" 292 "CricketHay$Lie" "count" "I" ∈ lw_good := q_t 412 (by decide +kernel) rfl
theorem w_431 : Cond.fieldLink "CricketHay" 67 "CricketHay" "mating" "LCricketHay$Mating;" ∈ lw_good := q_t 431 (by decide +kernel) rfl
theorem w_961 : Cond.methodLink "CricketHay" 280 ⟨"CricketHay$Yard", "songsThere", "(LCricketHay$Market;)I"⟩ ∈ lw_good := q_t 961 (by decide +kernel) rfl
theorem w_962 : Cond.instanceMethod ⟨"CricketHay$Yard", "songsThere", "(LCricketHay$Market;)I"⟩ ∈ lw_good := q_t 962 (by decide +kernel) rfl
theorem w_963 : Cond.selects "CricketHay$Yard" ⟨"CricketHay$Yard", "songsThere", "(LCricketHay$Market;)I"⟩ ⟨"CricketHay$Yard", "songsThere", "(LCricketHay$Market;)I"⟩ ∈ lw_good := q_t 963 (by decide +kernel) rfl
theorem w_964 : Cond.code ⟨"CricketHay$Yard", "songsThere", "(LCricketHay$Market;)I"⟩ prog_12_method_6_code 4 (some .int) ∈ lw_good := q_t 964 (by decide +kernel) rfl
theorem w_965 : Cond.methodLink "CricketHay" 283 ⟨"CricketHay$Mating", "breed", "(I)V"⟩ ∈ lw_good := q_t 965 (by decide +kernel) rfl
theorem w_966 : Cond.instanceMethod ⟨"CricketHay$Mating", "breed", "(I)V"⟩ ∈ lw_good := q_t 966 (by decide +kernel) rfl
theorem w_967 : Cond.selects "CricketHay$Mating" ⟨"CricketHay$Mating", "breed", "(I)V"⟩ ⟨"CricketHay$Mating", "breed", "(I)V"⟩ ∈ lw_good := q_t 967 (by decide +kernel) rfl
theorem w_968 : Cond.code ⟨"CricketHay$Mating", "breed", "(I)V"⟩ prog_10_method_2_code 5 none ∈ lw_good := q_t 968 (by decide +kernel) rfl
theorem w_969 : Cond.methodLink "CricketHay$Mating" 19 ⟨"java/util/Arrays", "fill", "([II)V"⟩ ∈ lw_good := q_t 969 (by decide +kernel) rfl
theorem w_970 : Cond.methodLink "CricketHay$Mating" 25 ⟨"CricketHay$Mating", "sums", "(I)I"⟩ ∈ lw_good := q_t 970 (by decide +kernel) rfl
theorem w_971 : Cond.static ⟨"CricketHay$Mating", "sums", "(I)I"⟩ ∈ lw_good := q_t 971 (by decide +kernel) rfl
theorem w_972 : Cond.code ⟨"CricketHay$Mating", "sums", "(I)I"⟩ prog_10_method_3_code 3 (some .int) ∈ lw_good := q_t 972 (by decide +kernel) rfl
theorem w_973 : Cond.methodLink "CricketHay" 286 ⟨"CricketHay$Mating", "fewest", "(I)I"⟩ ∈ lw_good := q_t 973 (by decide +kernel) rfl
theorem w_974 : Cond.instanceMethod ⟨"CricketHay$Mating", "fewest", "(I)I"⟩ ∈ lw_good := q_t 974 (by decide +kernel) rfl
theorem w_975 : Cond.selects "CricketHay$Mating" ⟨"CricketHay$Mating", "fewest", "(I)I"⟩ ⟨"CricketHay$Mating", "fewest", "(I)I"⟩ ∈ lw_good := q_t 975 (by decide +kernel) rfl
theorem w_976 : Cond.code ⟨"CricketHay$Mating", "fewest", "(I)I"⟩ prog_10_method_5_code 4 (some .int) ∈ lw_good := q_t 976 (by decide +kernel) rfl
theorem w_977 : Cond.methodLink "CricketHay$Mating" 34 ⟨"CricketHay$Mating", "matings", "(I)I"⟩ ∈ lw_good := q_t 977 (by decide +kernel) rfl
theorem w_979 : Cond.instanceMethod ⟨"CricketHay$Mating", "matings", "(I)I"⟩ ∈ lw_good := q_t 979 (by decide +kernel) rfl
theorem w_980 : Cond.code ⟨"CricketHay$Mating", "matings", "(I)I"⟩ prog_10_method_4_code 2 (some .int) ∈ lw_good := q_t 980 (by decide +kernel) rfl
theorem w_981 : Cond.methodLink "CricketHay$Mating" 29 ⟨"java/lang/Integer", "bitCount", "(I)I"⟩ ∈ lw_good := q_t 981 (by decide +kernel) rfl
theorem w_982 : Cond.static ⟨"java/lang/Integer", "bitCount", "(I)I"⟩ ∈ lw_good := q_t 982 (by decide +kernel) rfl
theorem w_983 : Cond.code ⟨"java/lang/Integer", "bitCount", "(I)I"⟩ prog_15_method_49_code 1 (some .int) ∈ lw_good := q_t 983 (by decide +kernel) rfl
theorem w_984 : Cond.constant "java/lang/Integer" 265 (1431655765) ∈ lw_good := q_t 984 (by decide +kernel) rfl
theorem w_985 : Cond.constant "java/lang/Integer" 266 (858993459) ∈ lw_good := q_t 985 (by decide +kernel) rfl
theorem w_986 : Cond.constant "java/lang/Integer" 267 (252645135) ∈ lw_good := q_t 986 (by decide +kernel) rfl
theorem w_991 : Cond.methodLink "CricketHay" 289 ⟨"CricketHay$Mating", "allWithin", "(I)I"⟩ ∈ lw_good := q_t 991 (by decide +kernel) rfl
theorem w_992 : Cond.instanceMethod ⟨"CricketHay$Mating", "allWithin", "(I)I"⟩ ∈ lw_good := q_t 992 (by decide +kernel) rfl
theorem w_993 : Cond.selects "CricketHay$Mating" ⟨"CricketHay$Mating", "allWithin", "(I)I"⟩ ⟨"CricketHay$Mating", "allWithin", "(I)I"⟩ ∈ lw_good := q_t 993 (by decide +kernel) rfl
theorem w_994 : Cond.code ⟨"CricketHay$Mating", "allWithin", "(I)I"⟩ prog_10_method_6_code 4 (some .int) ∈ lw_good := q_t 994 (by decide +kernel) rfl
theorem w_1003 : Cond.methodLink "CricketHay" 295 ⟨"CricketHay$Ears", "tell", "(IIZ)I"⟩ ∈ lw_good := q_t 1003 (by decide +kernel) rfl
theorem w_1004 : Cond.instanceMethod ⟨"CricketHay$Ears", "tell", "(IIZ)I"⟩ ∈ lw_good := q_t 1004 (by decide +kernel) rfl
theorem w_1005 : Cond.selects "CricketHay$Ears" ⟨"CricketHay$Ears", "tell", "(IIZ)I"⟩ ⟨"CricketHay$Ears", "tell", "(IIZ)I"⟩ ∈ lw_good := q_t 1005 (by decide +kernel) rfl
theorem w_1006 : Cond.code ⟨"CricketHay$Ears", "tell", "(IIZ)I"⟩ prog_6_method_3_code 4 (some .int) ∈ lw_good := q_t 1006 (by decide +kernel) rfl
theorem w_1011 : Cond.methodLink "CricketHay" 299 ⟨"CricketHay$Ears", "takeBack", "(I)Z"⟩ ∈ lw_good := q_t 1011 (by decide +kernel) rfl
theorem w_1012 : Cond.instanceMethod ⟨"CricketHay$Ears", "takeBack", "(I)Z"⟩ ∈ lw_good := q_t 1012 (by decide +kernel) rfl
theorem w_1013 : Cond.selects "CricketHay$Ears" ⟨"CricketHay$Ears", "takeBack", "(I)Z"⟩ ⟨"CricketHay$Ears", "takeBack", "(I)Z"⟩ ∈ lw_good := q_t 1013 (by decide +kernel) rfl
theorem w_1014 : Cond.code ⟨"CricketHay$Ears", "takeBack", "(I)Z"⟩ prog_6_method_4_code 2 (some .boolean) ∈ lw_good := q_t 1014 (by decide +kernel) rfl
theorem w_1019 : Cond.constant "CricketHay" 304 (100000) ∈ lw_good := q_t 1019 (by decide +kernel) rfl
theorem w_1024 : Cond.methodLink "CricketHay" 305 ⟨"CricketHay$Ears", "findFits", "(LCricketHay$Market;LCricketHay$Yard;I)I"⟩ ∈ lw_good := q_t 1024 (by decide +kernel) rfl
theorem w_1025 : Cond.instanceMethod ⟨"CricketHay$Ears", "findFits", "(LCricketHay$Market;LCricketHay$Yard;I)I"⟩ ∈ lw_good := q_t 1025 (by decide +kernel) rfl
theorem w_1026 : Cond.selects "CricketHay$Ears" ⟨"CricketHay$Ears", "findFits", "(LCricketHay$Market;LCricketHay$Yard;I)I"⟩ ⟨"CricketHay$Ears", "findFits", "(LCricketHay$Market;LCricketHay$Yard;I)I"⟩ ∈ lw_good := q_t 1026 (by decide +kernel) rfl
theorem w_1027 : Cond.code ⟨"CricketHay$Ears", "findFits", "(LCricketHay$Market;LCricketHay$Yard;I)I"⟩ prog_6_method_6_code 5 (some .int) ∈ lw_good := q_t 1027 (by decide +kernel) rfl
theorem w_1028 : Cond.methodLink "CricketHay$Ears" 58 ⟨"java/util/Arrays", "fill", "([II)V"⟩ ∈ lw_good := q_t 1028 (by decide +kernel) rfl
theorem w_1029 : Cond.methodLink "CricketHay$Ears" 64 ⟨"CricketHay$Ears", "isFit", "(LCricketHay$Market;II)Z"⟩ ∈ lw_good := q_t 1029 (by decide +kernel) rfl
theorem w_1031 : Cond.instanceMethod ⟨"CricketHay$Ears", "isFit", "(LCricketHay$Market;II)Z"⟩ ∈ lw_good := q_t 1031 (by decide +kernel) rfl
theorem w_1032 : Cond.code ⟨"CricketHay$Ears", "isFit", "(LCricketHay$Market;II)Z"⟩ prog_6_method_7_code 5 (some .boolean) ∈ lw_good := q_t 1032 (by decide +kernel) rfl
theorem w_1033 : Cond.methodLink "CricketHay$Ears" 68 ⟨"CricketHay$Ears", "counts", "(II)Z"⟩ ∈ lw_good := q_t 1033 (by decide +kernel) rfl
theorem w_1035 : Cond.instanceMethod ⟨"CricketHay$Ears", "counts", "(II)Z"⟩ ∈ lw_good := q_t 1035 (by decide +kernel) rfl
theorem w_1036 : Cond.code ⟨"CricketHay$Ears", "counts", "(II)Z"⟩ prog_6_method_5_code 3 (some .boolean) ∈ lw_good := q_t 1036 (by decide +kernel) rfl
theorem w_1037 : Cond.methodLink "CricketHay$Ears" 72 ⟨"CricketHay$Ears", "sings", "(LCricketHay$Market;II)I"⟩ ∈ lw_good := q_t 1037 (by decide +kernel) rfl
theorem w_1039 : Cond.instanceMethod ⟨"CricketHay$Ears", "sings", "(LCricketHay$Market;II)I"⟩ ∈ lw_good := q_t 1039 (by decide +kernel) rfl
theorem w_1040 : Cond.code ⟨"CricketHay$Ears", "sings", "(LCricketHay$Market;II)I"⟩ prog_6_method_8_code 5 (some .int) ∈ lw_good := q_t 1040 (by decide +kernel) rfl
theorem w_1041 : Cond.methodLink "CricketHay$Ears" 76 ⟨"CricketHay$Market", "sung", "(IIIIII)I"⟩ ∈ lw_good := q_t 1041 (by decide +kernel) rfl
theorem w_1046 : Cond.methodLink "CricketHay" 309 ⟨"CricketHay$Ears", "onlySong", "()I"⟩ ∈ lw_good := q_t 1046 (by decide +kernel) rfl
theorem w_1047 : Cond.instanceMethod ⟨"CricketHay$Ears", "onlySong", "()I"⟩ ∈ lw_good := q_t 1047 (by decide +kernel) rfl
theorem w_1048 : Cond.selects "CricketHay$Ears" ⟨"CricketHay$Ears", "onlySong", "()I"⟩ ⟨"CricketHay$Ears", "onlySong", "()I"⟩ ∈ lw_good := q_t 1048 (by decide +kernel) rfl
theorem w_1049 : Cond.code ⟨"CricketHay$Ears", "onlySong", "()I"⟩ prog_6_method_9_code 3 (some .int) ∈ lw_good := q_t 1049 (by decide +kernel) rfl
theorem w_1054 : Cond.methodLink "CricketHay" 312 ⟨"CricketHay$Ears", "leftAtMost", "(LCricketHay$Market;II)I"⟩ ∈ lw_good := q_t 1054 (by decide +kernel) rfl
theorem w_1055 : Cond.instanceMethod ⟨"CricketHay$Ears", "leftAtMost", "(LCricketHay$Market;II)I"⟩ ∈ lw_good := q_t 1055 (by decide +kernel) rfl
theorem w_1056 : Cond.selects "CricketHay$Ears" ⟨"CricketHay$Ears", "leftAtMost", "(LCricketHay$Market;II)I"⟩ ⟨"CricketHay$Ears", "leftAtMost", "(LCricketHay$Market;II)I"⟩ ∈ lw_good := q_t 1056 (by decide +kernel) rfl
theorem w_1057 : Cond.code ⟨"CricketHay$Ears", "leftAtMost", "(LCricketHay$Market;II)I"⟩ prog_6_method_10_code 6 (some .int) ∈ lw_good := q_t 1057 (by decide +kernel) rfl
theorem w_1058 : Cond.methodLink "CricketHay$Ears" 81 ⟨"java/lang/Math", "max", "(II)I"⟩ ∈ lw_good := q_t 1058 (by decide +kernel) rfl
theorem w_1063 : Cond.methodLink "CricketHay" 316 ⟨"CricketHay$Boxes", "keep", "(ILCricketHay$Yard;)V"⟩ ∈ lw_good := q_t 1063 (by decide +kernel) rfl
theorem w_1064 : Cond.instanceMethod ⟨"CricketHay$Boxes", "keep", "(ILCricketHay$Yard;)V"⟩ ∈ lw_good := q_t 1064 (by decide +kernel) rfl
theorem w_1065 : Cond.selects "CricketHay$Boxes" ⟨"CricketHay$Boxes", "keep", "(ILCricketHay$Yard;)V"⟩ ⟨"CricketHay$Boxes", "keep", "(ILCricketHay$Yard;)V"⟩ ∈ lw_good := q_t 1065 (by decide +kernel) rfl
theorem w_1066 : Cond.code ⟨"CricketHay$Boxes", "keep", "(ILCricketHay$Yard;)V"⟩ prog_3_method_3_code 3 none ∈ lw_good := q_t 1066 (by decide +kernel) rfl
theorem w_1067 : Cond.methodLink "CricketHay$Boxes" 22 ⟨"CricketHay$Yard", "copy", "(LCricketHay$Yard;)V"⟩ ∈ lw_good := q_t 1067 (by decide +kernel) rfl
theorem w_1072 : Cond.methodLink "CricketHay" 319 ⟨"CricketHay$Boxes", "giveBack", "(ILCricketHay$Yard;)Z"⟩ ∈ lw_good := q_t 1072 (by decide +kernel) rfl
theorem w_1073 : Cond.instanceMethod ⟨"CricketHay$Boxes", "giveBack", "(ILCricketHay$Yard;)Z"⟩ ∈ lw_good := q_t 1073 (by decide +kernel) rfl
theorem w_1074 : Cond.selects "CricketHay$Boxes" ⟨"CricketHay$Boxes", "giveBack", "(ILCricketHay$Yard;)Z"⟩ ⟨"CricketHay$Boxes", "giveBack", "(ILCricketHay$Yard;)Z"⟩ ∈ lw_good := q_t 1074 (by decide +kernel) rfl
theorem w_1075 : Cond.code ⟨"CricketHay$Boxes", "giveBack", "(ILCricketHay$Yard;)Z"⟩ prog_3_method_4_code 3 (some .boolean) ∈ lw_good := q_t 1075 (by decide +kernel) rfl
theorem ws_42 : Cond.selects "CricketHay$Mating" ⟨"CricketHay$Mating", "matings", "(I)I"⟩ ⟨"CricketHay$Mating", "matings", "(I)I"⟩ ∈ lw_good := q_s 42 (by decide +kernel) rfl
theorem ws_43 : Cond.selects "CricketHay$Ears" ⟨"CricketHay$Ears", "isFit", "(LCricketHay$Market;II)Z"⟩ ⟨"CricketHay$Ears", "isFit", "(LCricketHay$Market;II)Z"⟩ ∈ lw_good := q_s 43 (by decide +kernel) rfl
theorem ws_44 : Cond.selects "CricketHay$Ears" ⟨"CricketHay$Ears", "counts", "(II)Z"⟩ ⟨"CricketHay$Ears", "counts", "(II)Z"⟩ ∈ lw_good := q_s 44 (by decide +kernel) rfl
theorem ws_45 : Cond.selects "CricketHay$Ears" ⟨"CricketHay$Ears", "sings", "(LCricketHay$Market;II)I"⟩ ⟨"CricketHay$Ears", "sings", "(LCricketHay$Market;II)I"⟩ ∈ lw_good := q_s 45 (by decide +kernel) rfl
abbrev y_H_law : MI := (⟨"CricketHay", "law", "(I)I"⟩, prog_1_method_30_code, 2, (some .int))
theorem hy_H_law : y_H_law.1.cls ≠ "java/lang/invoke/MethodHandle" ∧ y_H_law.1.cls ≠ "java/lang/invoke/VarHandle" ∧ (parseMethodDescriptor y_H_law.1.desc).map (fun d => d.parameters.length) = some 1 := by decide +kernel
theorem d_H_law_0 : decode y_H_law.2.1 0 = .ok (.iload_n 1, 1) := by decide +kernel
theorem d_H_law_1 : decode y_H_law.2.1 1 = .ok (.iconst 1, 1) := by decide +kernel
theorem d_H_law_2 : decode y_H_law.2.1 2 = .ok (.iconst 3, 1) := by decide +kernel
theorem d_H_law_3 : decode y_H_law.2.1 3 = .ok (.invokestatic 208, 3) := by decide +kernel
theorem d_H_law_6 : decode y_H_law.2.1 6 = .ok (.ifCond .ne 6, 3) := by decide +kernel
theorem d_H_law_9 : decode y_H_law.2.1 9 = .ok (.ldc 254, 2) := by decide +kernel
theorem d_H_law_11 : decode y_H_law.2.1 11 = .ok (.ireturn, 1) := by decide +kernel
theorem d_H_law_12 : decode y_H_law.2.1 12 = .ok (.aload_n 0, 1) := by decide +kernel
theorem d_H_law_13 : decode y_H_law.2.1 13 = .ok (.getfield 39, 3) := by decide +kernel
theorem d_H_law_16 : decode y_H_law.2.1 16 = .ok (.aload_n 0, 1) := by decide +kernel
theorem d_H_law_17 : decode y_H_law.2.1 17 = .ok (.getfield 19, 3) := by decide +kernel
theorem d_H_law_20 : decode y_H_law.2.1 20 = .ok (.aload_n 0, 1) := by decide +kernel
theorem d_H_law_21 : decode y_H_law.2.1 21 = .ok (.getfield 29, 3) := by decide +kernel
theorem d_H_law_24 : decode y_H_law.2.1 24 = .ok (.invokevirtual 155, 3) := by decide +kernel
theorem d_H_law_27 : decode y_H_law.2.1 27 = .ok (.aload_n 0, 1) := by decide +kernel
theorem d_H_law_28 : decode y_H_law.2.1 28 = .ok (.getfield 39, 3) := by decide +kernel
theorem d_H_law_31 : decode y_H_law.2.1 31 = .ok (.iload_n 1, 1) := by decide +kernel
theorem d_H_law_32 : decode y_H_law.2.1 32 = .ok (.invokevirtual 255, 3) := by decide +kernel
theorem d_H_law_35 : decode y_H_law.2.1 35 = .ok (.aload_n 0, 1) := by decide +kernel
theorem d_H_law_36 : decode y_H_law.2.1 36 = .ok (.getfield 39, 3) := by decide +kernel
theorem d_H_law_39 : decode y_H_law.2.1 39 = .ok (.iconst 0, 1) := by decide +kernel
theorem d_H_law_40 : decode y_H_law.2.1 40 = .ok (.invokevirtual 255, 3) := by decide +kernel
theorem d_H_law_43 : decode y_H_law.2.1 43 = .ok (.isub, 1) := by decide +kernel
theorem d_H_law_44 : decode y_H_law.2.1 44 = .ok (.ireturn, 1) := by decide +kernel

abbrev y_Yard_songsThere : MI := (⟨"CricketHay$Yard", "songsThere", "(LCricketHay$Market;)I"⟩, prog_12_method_6_code, 4, (some .int))
theorem hy_Yard_songsThere : y_Yard_songsThere.1.cls ≠ "java/lang/invoke/MethodHandle" ∧ y_Yard_songsThere.1.cls ≠ "java/lang/invoke/VarHandle" ∧ (parseMethodDescriptor y_Yard_songsThere.1.desc).map (fun d => d.parameters.length) = some 1 := by decide +kernel
theorem d_Yard_songsThere_0 : decode y_Yard_songsThere.2.1 0 = .ok (.iconst 0, 1) := by decide +kernel
theorem d_Yard_songsThere_1 : decode y_Yard_songsThere.2.1 1 = .ok (.istore_n 2, 1) := by decide +kernel
theorem d_Yard_songsThere_2 : decode y_Yard_songsThere.2.1 2 = .ok (.iconst 0, 1) := by decide +kernel
theorem d_Yard_songsThere_3 : decode y_Yard_songsThere.2.1 3 = .ok (.istore_n 3, 1) := by decide +kernel
theorem d_Yard_songsThere_4 : decode y_Yard_songsThere.2.1 4 = .ok (.iload_n 3, 1) := by decide +kernel
theorem d_Yard_songsThere_5 : decode y_Yard_songsThere.2.1 5 = .ok (.aload_n 1, 1) := by decide +kernel
theorem d_Yard_songsThere_6 : decode y_Yard_songsThere.2.1 6 = .ok (.getfield 61, 3) := by decide +kernel
theorem d_Yard_songsThere_9 : decode y_Yard_songsThere.2.1 9 = .ok (.if_icmp .ge 29, 3) := by decide +kernel
theorem d_Yard_songsThere_12 : decode y_Yard_songsThere.2.1 12 = .ok (.aload_n 0, 1) := by decide +kernel
theorem d_Yard_songsThere_13 : decode y_Yard_songsThere.2.1 13 = .ok (.getfield 27, 3) := by decide +kernel
theorem d_Yard_songsThere_16 : decode y_Yard_songsThere.2.1 16 = .ok (.iload_n 3, 1) := by decide +kernel
theorem d_Yard_songsThere_17 : decode y_Yard_songsThere.2.1 17 = .ok (.iaload, 1) := by decide +kernel
theorem d_Yard_songsThere_18 : decode y_Yard_songsThere.2.1 18 = .ok (.ifCond .ne 14, 3) := by decide +kernel
theorem d_Yard_songsThere_21 : decode y_Yard_songsThere.2.1 21 = .ok (.iload_n 2, 1) := by decide +kernel
theorem d_Yard_songsThere_22 : decode y_Yard_songsThere.2.1 22 = .ok (.iconst 1, 1) := by decide +kernel
theorem d_Yard_songsThere_23 : decode y_Yard_songsThere.2.1 23 = .ok (.aload_n 1, 1) := by decide +kernel
theorem d_Yard_songsThere_24 : decode y_Yard_songsThere.2.1 24 = .ok (.getfield 67, 3) := by decide +kernel
theorem d_Yard_songsThere_27 : decode y_Yard_songsThere.2.1 27 = .ok (.iload_n 3, 1) := by decide +kernel
theorem d_Yard_songsThere_28 : decode y_Yard_songsThere.2.1 28 = .ok (.iaload, 1) := by decide +kernel
theorem d_Yard_songsThere_29 : decode y_Yard_songsThere.2.1 29 = .ok (.ishl, 1) := by decide +kernel
theorem d_Yard_songsThere_30 : decode y_Yard_songsThere.2.1 30 = .ok (.ior, 1) := by decide +kernel
theorem d_Yard_songsThere_31 : decode y_Yard_songsThere.2.1 31 = .ok (.istore_n 2, 1) := by decide +kernel
theorem d_Yard_songsThere_32 : decode y_Yard_songsThere.2.1 32 = .ok (.iinc 3 1, 3) := by decide +kernel
theorem d_Yard_songsThere_35 : decode y_Yard_songsThere.2.1 35 = .ok (.goto (-31), 3) := by decide +kernel
theorem d_Yard_songsThere_38 : decode y_Yard_songsThere.2.1 38 = .ok (.iload_n 2, 1) := by decide +kernel
theorem d_Yard_songsThere_39 : decode y_Yard_songsThere.2.1 39 = .ok (.ireturn, 1) := by decide +kernel

abbrev y_Mating_sums : MI := (⟨"CricketHay$Mating", "sums", "(I)I"⟩, prog_10_method_3_code, 3, (some .int))
theorem hy_Mating_sums : y_Mating_sums.1.cls ≠ "java/lang/invoke/MethodHandle" ∧ y_Mating_sums.1.cls ≠ "java/lang/invoke/VarHandle" ∧ (parseMethodDescriptor y_Mating_sums.1.desc).map (fun d => d.parameters.length) = some 1 := by decide +kernel
theorem d_Mating_sums_0 : decode y_Mating_sums.2.1 0 = .ok (.iconst 0, 1) := by decide +kernel
theorem d_Mating_sums_1 : decode y_Mating_sums.2.1 1 = .ok (.istore_n 1, 1) := by decide +kernel
theorem d_Mating_sums_2 : decode y_Mating_sums.2.1 2 = .ok (.iconst 0, 1) := by decide +kernel
theorem d_Mating_sums_3 : decode y_Mating_sums.2.1 3 = .ok (.istore_n 2, 1) := by decide +kernel
theorem d_Mating_sums_4 : decode y_Mating_sums.2.1 4 = .ok (.iload_n 2, 1) := by decide +kernel
theorem d_Mating_sums_5 : decode y_Mating_sums.2.1 5 = .ok (.bipush 10, 2) := by decide +kernel
theorem d_Mating_sums_7 : decode y_Mating_sums.2.1 7 = .ok (.if_icmp .ge 34, 3) := by decide +kernel
theorem d_Mating_sums_10 : decode y_Mating_sums.2.1 10 = .ok (.iload_n 0, 1) := by decide +kernel
theorem d_Mating_sums_11 : decode y_Mating_sums.2.1 11 = .ok (.iload_n 2, 1) := by decide +kernel
theorem d_Mating_sums_12 : decode y_Mating_sums.2.1 12 = .ok (.ishr, 1) := by decide +kernel
theorem d_Mating_sums_13 : decode y_Mating_sums.2.1 13 = .ok (.iconst 1, 1) := by decide +kernel
theorem d_Mating_sums_14 : decode y_Mating_sums.2.1 14 = .ok (.iand, 1) := by decide +kernel
theorem d_Mating_sums_15 : decode y_Mating_sums.2.1 15 = .ok (.ifCond .eq 20, 3) := by decide +kernel
theorem d_Mating_sums_18 : decode y_Mating_sums.2.1 18 = .ok (.iload_n 1, 1) := by decide +kernel
theorem d_Mating_sums_19 : decode y_Mating_sums.2.1 19 = .ok (.iload_n 0, 1) := by decide +kernel
theorem d_Mating_sums_20 : decode y_Mating_sums.2.1 20 = .ok (.iload_n 2, 1) := by decide +kernel
theorem d_Mating_sums_21 : decode y_Mating_sums.2.1 21 = .ok (.ishl, 1) := by decide +kernel
theorem d_Mating_sums_22 : decode y_Mating_sums.2.1 22 = .ok (.iload_n 0, 1) := by decide +kernel
theorem d_Mating_sums_23 : decode y_Mating_sums.2.1 23 = .ok (.bipush 10, 2) := by decide +kernel
theorem d_Mating_sums_25 : decode y_Mating_sums.2.1 25 = .ok (.iload_n 2, 1) := by decide +kernel
theorem d_Mating_sums_26 : decode y_Mating_sums.2.1 26 = .ok (.isub, 1) := by decide +kernel
theorem d_Mating_sums_27 : decode y_Mating_sums.2.1 27 = .ok (.ishr, 1) := by decide +kernel
theorem d_Mating_sums_28 : decode y_Mating_sums.2.1 28 = .ok (.ior, 1) := by decide +kernel
theorem d_Mating_sums_29 : decode y_Mating_sums.2.1 29 = .ok (.sipush 1023, 3) := by decide +kernel
theorem d_Mating_sums_32 : decode y_Mating_sums.2.1 32 = .ok (.iand, 1) := by decide +kernel
theorem d_Mating_sums_33 : decode y_Mating_sums.2.1 33 = .ok (.ior, 1) := by decide +kernel
theorem d_Mating_sums_34 : decode y_Mating_sums.2.1 34 = .ok (.istore_n 1, 1) := by decide +kernel
theorem d_Mating_sums_35 : decode y_Mating_sums.2.1 35 = .ok (.iinc 2 1, 3) := by decide +kernel
theorem d_Mating_sums_38 : decode y_Mating_sums.2.1 38 = .ok (.goto (-34), 3) := by decide +kernel
theorem d_Mating_sums_41 : decode y_Mating_sums.2.1 41 = .ok (.iload_n 1, 1) := by decide +kernel
theorem d_Mating_sums_42 : decode y_Mating_sums.2.1 42 = .ok (.ireturn, 1) := by decide +kernel

abbrev y_Mating_breed : MI := (⟨"CricketHay$Mating", "breed", "(I)V"⟩, prog_10_method_2_code, 5, none)
theorem hy_Mating_breed : y_Mating_breed.1.cls ≠ "java/lang/invoke/MethodHandle" ∧ y_Mating_breed.1.cls ≠ "java/lang/invoke/VarHandle" ∧ (parseMethodDescriptor y_Mating_breed.1.desc).map (fun d => d.parameters.length) = some 1 := by decide +kernel
theorem d_Mating_breed_0 : decode y_Mating_breed.2.1 0 = .ok (.aload_n 0, 1) := by decide +kernel
theorem d_Mating_breed_1 : decode y_Mating_breed.2.1 1 = .ok (.iload_n 1, 1) := by decide +kernel
theorem d_Mating_breed_2 : decode y_Mating_breed.2.1 2 = .ok (.sipush 1023, 3) := by decide +kernel
theorem d_Mating_breed_5 : decode y_Mating_breed.2.1 5 = .ok (.iand, 1) := by decide +kernel
theorem d_Mating_breed_6 : decode y_Mating_breed.2.1 6 = .ok (.putfield 15, 3) := by decide +kernel
theorem d_Mating_breed_9 : decode y_Mating_breed.2.1 9 = .ok (.aload_n 0, 1) := by decide +kernel
theorem d_Mating_breed_10 : decode y_Mating_breed.2.1 10 = .ok (.getfield 11, 3) := by decide +kernel
theorem d_Mating_breed_13 : decode y_Mating_breed.2.1 13 = .ok (.iconst 0, 1) := by decide +kernel
theorem d_Mating_breed_14 : decode y_Mating_breed.2.1 14 = .ok (.invokestatic 19, 3) := by decide +kernel
theorem d_Mating_breed_17 : decode y_Mating_breed.2.1 17 = .ok (.aload_n 0, 1) := by decide +kernel
theorem d_Mating_breed_18 : decode y_Mating_breed.2.1 18 = .ok (.getfield 11, 3) := by decide +kernel
theorem d_Mating_breed_21 : decode y_Mating_breed.2.1 21 = .ok (.aload_n 0, 1) := by decide +kernel
theorem d_Mating_breed_22 : decode y_Mating_breed.2.1 22 = .ok (.getfield 15, 3) := by decide +kernel
theorem d_Mating_breed_25 : decode y_Mating_breed.2.1 25 = .ok (.iconst 1, 1) := by decide +kernel
theorem d_Mating_breed_26 : decode y_Mating_breed.2.1 26 = .ok (.iastore, 1) := by decide +kernel
theorem d_Mating_breed_27 : decode y_Mating_breed.2.1 27 = .ok (.aload_n 0, 1) := by decide +kernel
theorem d_Mating_breed_28 : decode y_Mating_breed.2.1 28 = .ok (.getfield 15, 3) := by decide +kernel
theorem d_Mating_breed_31 : decode y_Mating_breed.2.1 31 = .ok (.istore_n 2, 1) := by decide +kernel
theorem d_Mating_breed_32 : decode y_Mating_breed.2.1 32 = .ok (.iload_n 2, 1) := by decide +kernel
theorem d_Mating_breed_33 : decode y_Mating_breed.2.1 33 = .ok (.sipush 1023, 3) := by decide +kernel
theorem d_Mating_breed_36 : decode y_Mating_breed.2.1 36 = .ok (.if_icmp .gt 60, 3) := by decide +kernel
theorem d_Mating_breed_39 : decode y_Mating_breed.2.1 39 = .ok (.aload_n 0, 1) := by decide +kernel
theorem d_Mating_breed_40 : decode y_Mating_breed.2.1 40 = .ok (.getfield 11, 3) := by decide +kernel
theorem d_Mating_breed_43 : decode y_Mating_breed.2.1 43 = .ok (.iload_n 2, 1) := by decide +kernel
theorem d_Mating_breed_44 : decode y_Mating_breed.2.1 44 = .ok (.iaload, 1) := by decide +kernel
theorem d_Mating_breed_45 : decode y_Mating_breed.2.1 45 = .ok (.ifCond .eq 45, 3) := by decide +kernel
theorem d_Mating_breed_48 : decode y_Mating_breed.2.1 48 = .ok (.iload_n 2, 1) := by decide +kernel
theorem d_Mating_breed_49 : decode y_Mating_breed.2.1 49 = .ok (.invokestatic 25, 3) := by decide +kernel
theorem d_Mating_breed_52 : decode y_Mating_breed.2.1 52 = .ok (.istore_n 3, 1) := by decide +kernel
theorem d_Mating_breed_53 : decode y_Mating_breed.2.1 53 = .ok (.iconst 0, 1) := by decide +kernel
theorem d_Mating_breed_54 : decode y_Mating_breed.2.1 54 = .ok (.istore 4, 2) := by decide +kernel
theorem d_Mating_breed_56 : decode y_Mating_breed.2.1 56 = .ok (.iload 4, 2) := by decide +kernel
theorem d_Mating_breed_58 : decode y_Mating_breed.2.1 58 = .ok (.bipush 10, 2) := by decide +kernel
theorem d_Mating_breed_60 : decode y_Mating_breed.2.1 60 = .ok (.if_icmp .ge 30, 3) := by decide +kernel
theorem d_Mating_breed_63 : decode y_Mating_breed.2.1 63 = .ok (.iload_n 3, 1) := by decide +kernel
theorem d_Mating_breed_64 : decode y_Mating_breed.2.1 64 = .ok (.iload 4, 2) := by decide +kernel
theorem d_Mating_breed_66 : decode y_Mating_breed.2.1 66 = .ok (.ishr, 1) := by decide +kernel
theorem d_Mating_breed_67 : decode y_Mating_breed.2.1 67 = .ok (.iconst 1, 1) := by decide +kernel
theorem d_Mating_breed_68 : decode y_Mating_breed.2.1 68 = .ok (.iand, 1) := by decide +kernel
theorem d_Mating_breed_69 : decode y_Mating_breed.2.1 69 = .ok (.ifCond .eq 15, 3) := by decide +kernel
theorem d_Mating_breed_72 : decode y_Mating_breed.2.1 72 = .ok (.aload_n 0, 1) := by decide +kernel
theorem d_Mating_breed_73 : decode y_Mating_breed.2.1 73 = .ok (.getfield 11, 3) := by decide +kernel
theorem d_Mating_breed_76 : decode y_Mating_breed.2.1 76 = .ok (.iload_n 2, 1) := by decide +kernel
theorem d_Mating_breed_77 : decode y_Mating_breed.2.1 77 = .ok (.iconst 1, 1) := by decide +kernel
theorem d_Mating_breed_78 : decode y_Mating_breed.2.1 78 = .ok (.iload 4, 2) := by decide +kernel
theorem d_Mating_breed_80 : decode y_Mating_breed.2.1 80 = .ok (.ishl, 1) := by decide +kernel
theorem d_Mating_breed_81 : decode y_Mating_breed.2.1 81 = .ok (.ior, 1) := by decide +kernel
theorem d_Mating_breed_82 : decode y_Mating_breed.2.1 82 = .ok (.iconst 1, 1) := by decide +kernel
theorem d_Mating_breed_83 : decode y_Mating_breed.2.1 83 = .ok (.iastore, 1) := by decide +kernel
theorem d_Mating_breed_84 : decode y_Mating_breed.2.1 84 = .ok (.iinc 4 1, 3) := by decide +kernel
theorem d_Mating_breed_87 : decode y_Mating_breed.2.1 87 = .ok (.goto (-31), 3) := by decide +kernel
theorem d_Mating_breed_90 : decode y_Mating_breed.2.1 90 = .ok (.iinc 2 1, 3) := by decide +kernel
theorem d_Mating_breed_93 : decode y_Mating_breed.2.1 93 = .ok (.goto (-61), 3) := by decide +kernel
theorem d_Mating_breed_96 : decode y_Mating_breed.2.1 96 = .ok (.return_, 1) := by decide +kernel

abbrev y_JInteger_bitCount : MI := (⟨"java/lang/Integer", "bitCount", "(I)I"⟩, prog_15_method_49_code, 1, (some .int))
theorem hy_JInteger_bitCount : y_JInteger_bitCount.1.cls ≠ "java/lang/invoke/MethodHandle" ∧ y_JInteger_bitCount.1.cls ≠ "java/lang/invoke/VarHandle" ∧ (parseMethodDescriptor y_JInteger_bitCount.1.desc).map (fun d => d.parameters.length) = some 1 := by decide +kernel
theorem d_JInteger_bitCount_0 : decode y_JInteger_bitCount.2.1 0 = .ok (.iload_n 0, 1) := by decide +kernel
theorem d_JInteger_bitCount_1 : decode y_JInteger_bitCount.2.1 1 = .ok (.iload_n 0, 1) := by decide +kernel
theorem d_JInteger_bitCount_2 : decode y_JInteger_bitCount.2.1 2 = .ok (.iconst 1, 1) := by decide +kernel
theorem d_JInteger_bitCount_3 : decode y_JInteger_bitCount.2.1 3 = .ok (.iushr, 1) := by decide +kernel
theorem d_JInteger_bitCount_4 : decode y_JInteger_bitCount.2.1 4 = .ok (.ldc_w 265, 3) := by decide +kernel
theorem d_JInteger_bitCount_7 : decode y_JInteger_bitCount.2.1 7 = .ok (.iand, 1) := by decide +kernel
theorem d_JInteger_bitCount_8 : decode y_JInteger_bitCount.2.1 8 = .ok (.isub, 1) := by decide +kernel
theorem d_JInteger_bitCount_9 : decode y_JInteger_bitCount.2.1 9 = .ok (.istore_n 0, 1) := by decide +kernel
theorem d_JInteger_bitCount_10 : decode y_JInteger_bitCount.2.1 10 = .ok (.iload_n 0, 1) := by decide +kernel
theorem d_JInteger_bitCount_11 : decode y_JInteger_bitCount.2.1 11 = .ok (.ldc_w 266, 3) := by decide +kernel
theorem d_JInteger_bitCount_14 : decode y_JInteger_bitCount.2.1 14 = .ok (.iand, 1) := by decide +kernel
theorem d_JInteger_bitCount_15 : decode y_JInteger_bitCount.2.1 15 = .ok (.iload_n 0, 1) := by decide +kernel
theorem d_JInteger_bitCount_16 : decode y_JInteger_bitCount.2.1 16 = .ok (.iconst 2, 1) := by decide +kernel
theorem d_JInteger_bitCount_17 : decode y_JInteger_bitCount.2.1 17 = .ok (.iushr, 1) := by decide +kernel
theorem d_JInteger_bitCount_18 : decode y_JInteger_bitCount.2.1 18 = .ok (.ldc_w 266, 3) := by decide +kernel
theorem d_JInteger_bitCount_21 : decode y_JInteger_bitCount.2.1 21 = .ok (.iand, 1) := by decide +kernel
theorem d_JInteger_bitCount_22 : decode y_JInteger_bitCount.2.1 22 = .ok (.iadd, 1) := by decide +kernel
theorem d_JInteger_bitCount_23 : decode y_JInteger_bitCount.2.1 23 = .ok (.istore_n 0, 1) := by decide +kernel
theorem d_JInteger_bitCount_24 : decode y_JInteger_bitCount.2.1 24 = .ok (.iload_n 0, 1) := by decide +kernel
theorem d_JInteger_bitCount_25 : decode y_JInteger_bitCount.2.1 25 = .ok (.iload_n 0, 1) := by decide +kernel
theorem d_JInteger_bitCount_26 : decode y_JInteger_bitCount.2.1 26 = .ok (.iconst 4, 1) := by decide +kernel
theorem d_JInteger_bitCount_27 : decode y_JInteger_bitCount.2.1 27 = .ok (.iushr, 1) := by decide +kernel
theorem d_JInteger_bitCount_28 : decode y_JInteger_bitCount.2.1 28 = .ok (.iadd, 1) := by decide +kernel
theorem d_JInteger_bitCount_29 : decode y_JInteger_bitCount.2.1 29 = .ok (.ldc_w 267, 3) := by decide +kernel
theorem d_JInteger_bitCount_32 : decode y_JInteger_bitCount.2.1 32 = .ok (.iand, 1) := by decide +kernel
theorem d_JInteger_bitCount_33 : decode y_JInteger_bitCount.2.1 33 = .ok (.istore_n 0, 1) := by decide +kernel
theorem d_JInteger_bitCount_34 : decode y_JInteger_bitCount.2.1 34 = .ok (.iload_n 0, 1) := by decide +kernel
theorem d_JInteger_bitCount_35 : decode y_JInteger_bitCount.2.1 35 = .ok (.iload_n 0, 1) := by decide +kernel
theorem d_JInteger_bitCount_36 : decode y_JInteger_bitCount.2.1 36 = .ok (.bipush 8, 2) := by decide +kernel
theorem d_JInteger_bitCount_38 : decode y_JInteger_bitCount.2.1 38 = .ok (.iushr, 1) := by decide +kernel
theorem d_JInteger_bitCount_39 : decode y_JInteger_bitCount.2.1 39 = .ok (.iadd, 1) := by decide +kernel
theorem d_JInteger_bitCount_40 : decode y_JInteger_bitCount.2.1 40 = .ok (.istore_n 0, 1) := by decide +kernel
theorem d_JInteger_bitCount_41 : decode y_JInteger_bitCount.2.1 41 = .ok (.iload_n 0, 1) := by decide +kernel
theorem d_JInteger_bitCount_42 : decode y_JInteger_bitCount.2.1 42 = .ok (.iload_n 0, 1) := by decide +kernel
theorem d_JInteger_bitCount_43 : decode y_JInteger_bitCount.2.1 43 = .ok (.bipush 16, 2) := by decide +kernel
theorem d_JInteger_bitCount_45 : decode y_JInteger_bitCount.2.1 45 = .ok (.iushr, 1) := by decide +kernel
theorem d_JInteger_bitCount_46 : decode y_JInteger_bitCount.2.1 46 = .ok (.iadd, 1) := by decide +kernel
theorem d_JInteger_bitCount_47 : decode y_JInteger_bitCount.2.1 47 = .ok (.istore_n 0, 1) := by decide +kernel
theorem d_JInteger_bitCount_48 : decode y_JInteger_bitCount.2.1 48 = .ok (.iload_n 0, 1) := by decide +kernel
theorem d_JInteger_bitCount_49 : decode y_JInteger_bitCount.2.1 49 = .ok (.bipush 63, 2) := by decide +kernel
theorem d_JInteger_bitCount_51 : decode y_JInteger_bitCount.2.1 51 = .ok (.iand, 1) := by decide +kernel
theorem d_JInteger_bitCount_52 : decode y_JInteger_bitCount.2.1 52 = .ok (.ireturn, 1) := by decide +kernel

abbrev y_Mating_matings : MI := (⟨"CricketHay$Mating", "matings", "(I)I"⟩, prog_10_method_4_code, 2, (some .int))
theorem hy_Mating_matings : y_Mating_matings.1.cls ≠ "java/lang/invoke/MethodHandle" ∧ y_Mating_matings.1.cls ≠ "java/lang/invoke/VarHandle" ∧ (parseMethodDescriptor y_Mating_matings.1.desc).map (fun d => d.parameters.length) = some 1 := by decide +kernel
theorem d_Mating_matings_0 : decode y_Mating_matings.2.1 0 = .ok (.iload_n 1, 1) := by decide +kernel
theorem d_Mating_matings_1 : decode y_Mating_matings.2.1 1 = .ok (.invokestatic 29, 3) := by decide +kernel
theorem d_Mating_matings_4 : decode y_Mating_matings.2.1 4 = .ok (.aload_n 0, 1) := by decide +kernel
theorem d_Mating_matings_5 : decode y_Mating_matings.2.1 5 = .ok (.getfield 15, 3) := by decide +kernel
theorem d_Mating_matings_8 : decode y_Mating_matings.2.1 8 = .ok (.invokestatic 29, 3) := by decide +kernel
theorem d_Mating_matings_11 : decode y_Mating_matings.2.1 11 = .ok (.isub, 1) := by decide +kernel
theorem d_Mating_matings_12 : decode y_Mating_matings.2.1 12 = .ok (.ireturn, 1) := by decide +kernel

abbrev y_Mating_fewest : MI := (⟨"CricketHay$Mating", "fewest", "(I)I"⟩, prog_10_method_5_code, 4, (some .int))
theorem hy_Mating_fewest : y_Mating_fewest.1.cls ≠ "java/lang/invoke/MethodHandle" ∧ y_Mating_fewest.1.cls ≠ "java/lang/invoke/VarHandle" ∧ (parseMethodDescriptor y_Mating_fewest.1.desc).map (fun d => d.parameters.length) = some 1 := by decide +kernel
theorem d_Mating_fewest_0 : decode y_Mating_fewest.2.1 0 = .ok (.iconst (-1), 1) := by decide +kernel
theorem d_Mating_fewest_1 : decode y_Mating_fewest.2.1 1 = .ok (.istore_n 2, 1) := by decide +kernel
theorem d_Mating_fewest_2 : decode y_Mating_fewest.2.1 2 = .ok (.aload_n 0, 1) := by decide +kernel
theorem d_Mating_fewest_3 : decode y_Mating_fewest.2.1 3 = .ok (.getfield 15, 3) := by decide +kernel
theorem d_Mating_fewest_6 : decode y_Mating_fewest.2.1 6 = .ok (.istore_n 3, 1) := by decide +kernel
theorem d_Mating_fewest_7 : decode y_Mating_fewest.2.1 7 = .ok (.iload_n 3, 1) := by decide +kernel
theorem d_Mating_fewest_8 : decode y_Mating_fewest.2.1 8 = .ok (.sipush 1023, 3) := by decide +kernel
theorem d_Mating_fewest_11 : decode y_Mating_fewest.2.1 11 = .ok (.if_icmp .gt 46, 3) := by decide +kernel
theorem d_Mating_fewest_14 : decode y_Mating_fewest.2.1 14 = .ok (.aload_n 0, 1) := by decide +kernel
theorem d_Mating_fewest_15 : decode y_Mating_fewest.2.1 15 = .ok (.getfield 11, 3) := by decide +kernel
theorem d_Mating_fewest_18 : decode y_Mating_fewest.2.1 18 = .ok (.iload_n 3, 1) := by decide +kernel
theorem d_Mating_fewest_19 : decode y_Mating_fewest.2.1 19 = .ok (.iaload, 1) := by decide +kernel
theorem d_Mating_fewest_20 : decode y_Mating_fewest.2.1 20 = .ok (.ifCond .eq 31, 3) := by decide +kernel
theorem d_Mating_fewest_23 : decode y_Mating_fewest.2.1 23 = .ok (.iload_n 3, 1) := by decide +kernel
theorem d_Mating_fewest_24 : decode y_Mating_fewest.2.1 24 = .ok (.iload_n 1, 1) := by decide +kernel
theorem d_Mating_fewest_25 : decode y_Mating_fewest.2.1 25 = .ok (.ishr, 1) := by decide +kernel
theorem d_Mating_fewest_26 : decode y_Mating_fewest.2.1 26 = .ok (.iconst 1, 1) := by decide +kernel
theorem d_Mating_fewest_27 : decode y_Mating_fewest.2.1 27 = .ok (.iand, 1) := by decide +kernel
theorem d_Mating_fewest_28 : decode y_Mating_fewest.2.1 28 = .ok (.ifCond .eq 23, 3) := by decide +kernel
theorem d_Mating_fewest_31 : decode y_Mating_fewest.2.1 31 = .ok (.iload_n 2, 1) := by decide +kernel
theorem d_Mating_fewest_32 : decode y_Mating_fewest.2.1 32 = .ok (.iconst (-1), 1) := by decide +kernel
theorem d_Mating_fewest_33 : decode y_Mating_fewest.2.1 33 = .ok (.if_icmp .eq 12, 3) := by decide +kernel
theorem d_Mating_fewest_36 : decode y_Mating_fewest.2.1 36 = .ok (.aload_n 0, 1) := by decide +kernel
theorem d_Mating_fewest_37 : decode y_Mating_fewest.2.1 37 = .ok (.iload_n 3, 1) := by decide +kernel
theorem d_Mating_fewest_38 : decode y_Mating_fewest.2.1 38 = .ok (.invokevirtual 34, 3) := by decide +kernel
theorem d_Mating_fewest_41 : decode y_Mating_fewest.2.1 41 = .ok (.iload_n 2, 1) := by decide +kernel
theorem d_Mating_fewest_42 : decode y_Mating_fewest.2.1 42 = .ok (.if_icmp .ge 9, 3) := by decide +kernel
theorem d_Mating_fewest_45 : decode y_Mating_fewest.2.1 45 = .ok (.aload_n 0, 1) := by decide +kernel
theorem d_Mating_fewest_46 : decode y_Mating_fewest.2.1 46 = .ok (.iload_n 3, 1) := by decide +kernel
theorem d_Mating_fewest_47 : decode y_Mating_fewest.2.1 47 = .ok (.invokevirtual 34, 3) := by decide +kernel
theorem d_Mating_fewest_50 : decode y_Mating_fewest.2.1 50 = .ok (.istore_n 2, 1) := by decide +kernel
theorem d_Mating_fewest_51 : decode y_Mating_fewest.2.1 51 = .ok (.iinc 3 1, 3) := by decide +kernel
theorem d_Mating_fewest_54 : decode y_Mating_fewest.2.1 54 = .ok (.goto (-47), 3) := by decide +kernel
theorem d_Mating_fewest_57 : decode y_Mating_fewest.2.1 57 = .ok (.iload_n 2, 1) := by decide +kernel
theorem d_Mating_fewest_58 : decode y_Mating_fewest.2.1 58 = .ok (.ireturn, 1) := by decide +kernel

abbrev y_H_song : MI := (⟨"CricketHay", "song", "(I)I"⟩, prog_1_method_31_code, 2, (some .int))
theorem hy_H_song : y_H_song.1.cls ≠ "java/lang/invoke/MethodHandle" ∧ y_H_song.1.cls ≠ "java/lang/invoke/VarHandle" ∧ (parseMethodDescriptor y_H_song.1.desc).map (fun d => d.parameters.length) = some 1 := by decide +kernel
theorem d_H_song_0 : decode y_H_song.2.1 0 = .ok (.iload_n 1, 1) := by decide +kernel
theorem d_H_song_1 : decode y_H_song.2.1 1 = .ok (.iconst 0, 1) := by decide +kernel
theorem d_H_song_2 : decode y_H_song.2.1 2 = .ok (.bipush 9, 2) := by decide +kernel
theorem d_H_song_4 : decode y_H_song.2.1 4 = .ok (.invokestatic 208, 3) := by decide +kernel
theorem d_H_song_7 : decode y_H_song.2.1 7 = .ok (.ifCond .ne 5, 3) := by decide +kernel
theorem d_H_song_10 : decode y_H_song.2.1 10 = .ok (.iconst (-1), 1) := by decide +kernel
theorem d_H_song_11 : decode y_H_song.2.1 11 = .ok (.ireturn, 1) := by decide +kernel
theorem d_H_song_12 : decode y_H_song.2.1 12 = .ok (.aload_n 0, 1) := by decide +kernel
theorem d_H_song_13 : decode y_H_song.2.1 13 = .ok (.getfield 67, 3) := by decide +kernel
theorem d_H_song_16 : decode y_H_song.2.1 16 = .ok (.aload_n 0, 1) := by decide +kernel
theorem d_H_song_17 : decode y_H_song.2.1 17 = .ok (.getfield 29, 3) := by decide +kernel
theorem d_H_song_20 : decode y_H_song.2.1 20 = .ok (.aload_n 0, 1) := by decide +kernel
theorem d_H_song_21 : decode y_H_song.2.1 21 = .ok (.getfield 19, 3) := by decide +kernel
theorem d_H_song_24 : decode y_H_song.2.1 24 = .ok (.invokevirtual 280, 3) := by decide +kernel
theorem d_H_song_27 : decode y_H_song.2.1 27 = .ok (.invokevirtual 283, 3) := by decide +kernel
theorem d_H_song_30 : decode y_H_song.2.1 30 = .ok (.aload_n 0, 1) := by decide +kernel
theorem d_H_song_31 : decode y_H_song.2.1 31 = .ok (.getfield 67, 3) := by decide +kernel
theorem d_H_song_34 : decode y_H_song.2.1 34 = .ok (.iload_n 1, 1) := by decide +kernel
theorem d_H_song_35 : decode y_H_song.2.1 35 = .ok (.invokevirtual 286, 3) := by decide +kernel
theorem d_H_song_38 : decode y_H_song.2.1 38 = .ok (.ireturn, 1) := by decide +kernel

abbrev y_Mating_allWithin : MI := (⟨"CricketHay$Mating", "allWithin", "(I)I"⟩, prog_10_method_6_code, 4, (some .int))
theorem hy_Mating_allWithin : y_Mating_allWithin.1.cls ≠ "java/lang/invoke/MethodHandle" ∧ y_Mating_allWithin.1.cls ≠ "java/lang/invoke/VarHandle" ∧ (parseMethodDescriptor y_Mating_allWithin.1.desc).map (fun d => d.parameters.length) = some 1 := by decide +kernel
theorem d_Mating_allWithin_0 : decode y_Mating_allWithin.2.1 0 = .ok (.iconst 0, 1) := by decide +kernel
theorem d_Mating_allWithin_1 : decode y_Mating_allWithin.2.1 1 = .ok (.istore_n 2, 1) := by decide +kernel
theorem d_Mating_allWithin_2 : decode y_Mating_allWithin.2.1 2 = .ok (.aload_n 0, 1) := by decide +kernel
theorem d_Mating_allWithin_3 : decode y_Mating_allWithin.2.1 3 = .ok (.getfield 15, 3) := by decide +kernel
theorem d_Mating_allWithin_6 : decode y_Mating_allWithin.2.1 6 = .ok (.istore_n 3, 1) := by decide +kernel
theorem d_Mating_allWithin_7 : decode y_Mating_allWithin.2.1 7 = .ok (.iload_n 3, 1) := by decide +kernel
theorem d_Mating_allWithin_8 : decode y_Mating_allWithin.2.1 8 = .ok (.sipush 1023, 3) := by decide +kernel
theorem d_Mating_allWithin_11 : decode y_Mating_allWithin.2.1 11 = .ok (.if_icmp .gt 31, 3) := by decide +kernel
theorem d_Mating_allWithin_14 : decode y_Mating_allWithin.2.1 14 = .ok (.aload_n 0, 1) := by decide +kernel
theorem d_Mating_allWithin_15 : decode y_Mating_allWithin.2.1 15 = .ok (.getfield 11, 3) := by decide +kernel
theorem d_Mating_allWithin_18 : decode y_Mating_allWithin.2.1 18 = .ok (.iload_n 3, 1) := by decide +kernel
theorem d_Mating_allWithin_19 : decode y_Mating_allWithin.2.1 19 = .ok (.iaload, 1) := by decide +kernel
theorem d_Mating_allWithin_20 : decode y_Mating_allWithin.2.1 20 = .ok (.ifCond .eq 16, 3) := by decide +kernel
theorem d_Mating_allWithin_23 : decode y_Mating_allWithin.2.1 23 = .ok (.aload_n 0, 1) := by decide +kernel
theorem d_Mating_allWithin_24 : decode y_Mating_allWithin.2.1 24 = .ok (.iload_n 3, 1) := by decide +kernel
theorem d_Mating_allWithin_25 : decode y_Mating_allWithin.2.1 25 = .ok (.invokevirtual 34, 3) := by decide +kernel
theorem d_Mating_allWithin_28 : decode y_Mating_allWithin.2.1 28 = .ok (.iload_n 1, 1) := by decide +kernel
theorem d_Mating_allWithin_29 : decode y_Mating_allWithin.2.1 29 = .ok (.if_icmp .gt 7, 3) := by decide +kernel
theorem d_Mating_allWithin_32 : decode y_Mating_allWithin.2.1 32 = .ok (.iload_n 2, 1) := by decide +kernel
theorem d_Mating_allWithin_33 : decode y_Mating_allWithin.2.1 33 = .ok (.iload_n 3, 1) := by decide +kernel
theorem d_Mating_allWithin_34 : decode y_Mating_allWithin.2.1 34 = .ok (.ior, 1) := by decide +kernel
theorem d_Mating_allWithin_35 : decode y_Mating_allWithin.2.1 35 = .ok (.istore_n 2, 1) := by decide +kernel
theorem d_Mating_allWithin_36 : decode y_Mating_allWithin.2.1 36 = .ok (.iinc 3 1, 3) := by decide +kernel
theorem d_Mating_allWithin_39 : decode y_Mating_allWithin.2.1 39 = .ok (.goto (-32), 3) := by decide +kernel
theorem d_Mating_allWithin_42 : decode y_Mating_allWithin.2.1 42 = .ok (.iload_n 2, 1) := by decide +kernel
theorem d_Mating_allWithin_43 : decode y_Mating_allWithin.2.1 43 = .ok (.ireturn, 1) := by decide +kernel

abbrev y_H_songs : MI := (⟨"CricketHay", "songs", "(I)I"⟩, prog_1_method_32_code, 2, (some .int))
theorem hy_H_songs : y_H_songs.1.cls ≠ "java/lang/invoke/MethodHandle" ∧ y_H_songs.1.cls ≠ "java/lang/invoke/VarHandle" ∧ (parseMethodDescriptor y_H_songs.1.desc).map (fun d => d.parameters.length) = some 1 := by decide +kernel
theorem d_H_songs_0 : decode y_H_songs.2.1 0 = .ok (.iload_n 1, 1) := by decide +kernel
theorem d_H_songs_1 : decode y_H_songs.2.1 1 = .ok (.iconst 0, 1) := by decide +kernel
theorem d_H_songs_2 : decode y_H_songs.2.1 2 = .ok (.bipush 9, 2) := by decide +kernel
theorem d_H_songs_4 : decode y_H_songs.2.1 4 = .ok (.invokestatic 208, 3) := by decide +kernel
theorem d_H_songs_7 : decode y_H_songs.2.1 7 = .ok (.ifCond .ne 5, 3) := by decide +kernel
theorem d_H_songs_10 : decode y_H_songs.2.1 10 = .ok (.iconst (-1), 1) := by decide +kernel
theorem d_H_songs_11 : decode y_H_songs.2.1 11 = .ok (.ireturn, 1) := by decide +kernel
theorem d_H_songs_12 : decode y_H_songs.2.1 12 = .ok (.aload_n 0, 1) := by decide +kernel
theorem d_H_songs_13 : decode y_H_songs.2.1 13 = .ok (.getfield 67, 3) := by decide +kernel
theorem d_H_songs_16 : decode y_H_songs.2.1 16 = .ok (.aload_n 0, 1) := by decide +kernel
theorem d_H_songs_17 : decode y_H_songs.2.1 17 = .ok (.getfield 29, 3) := by decide +kernel
theorem d_H_songs_20 : decode y_H_songs.2.1 20 = .ok (.aload_n 0, 1) := by decide +kernel
theorem d_H_songs_21 : decode y_H_songs.2.1 21 = .ok (.getfield 19, 3) := by decide +kernel
theorem d_H_songs_24 : decode y_H_songs.2.1 24 = .ok (.invokevirtual 280, 3) := by decide +kernel
theorem d_H_songs_27 : decode y_H_songs.2.1 27 = .ok (.invokevirtual 283, 3) := by decide +kernel
theorem d_H_songs_30 : decode y_H_songs.2.1 30 = .ok (.aload_n 0, 1) := by decide +kernel
theorem d_H_songs_31 : decode y_H_songs.2.1 31 = .ok (.getfield 67, 3) := by decide +kernel
theorem d_H_songs_34 : decode y_H_songs.2.1 34 = .ok (.iload_n 1, 1) := by decide +kernel
theorem d_H_songs_35 : decode y_H_songs.2.1 35 = .ok (.invokevirtual 289, 3) := by decide +kernel
theorem d_H_songs_38 : decode y_H_songs.2.1 38 = .ok (.ireturn, 1) := by decide +kernel

abbrev y_H_lies : MI := (⟨"CricketHay", "lies", "(I)I"⟩, prog_1_method_33_code, 2, (some .int))
theorem hy_H_lies : y_H_lies.1.cls ≠ "java/lang/invoke/MethodHandle" ∧ y_H_lies.1.cls ≠ "java/lang/invoke/VarHandle" ∧ (parseMethodDescriptor y_H_lies.1.desc).map (fun d => d.parameters.length) = some 1 := by decide +kernel
theorem d_H_lies_0 : decode y_H_lies.2.1 0 = .ok (.iload_n 1, 1) := by decide +kernel
theorem d_H_lies_1 : decode y_H_lies.2.1 1 = .ok (.ifCond .lt 26, 3) := by decide +kernel
theorem d_H_lies_4 : decode y_H_lies.2.1 4 = .ok (.iload_n 1, 1) := by decide +kernel
theorem d_H_lies_5 : decode y_H_lies.2.1 5 = .ok (.aload_n 0, 1) := by decide +kernel
theorem d_H_lies_6 : decode y_H_lies.2.1 6 = .ok (.getfield 81, 3) := by decide +kernel
theorem d_H_lies_9 : decode y_H_lies.2.1 9 = .ok (.getfield 292, 3) := by decide +kernel
theorem d_H_lies_12 : decode y_H_lies.2.1 12 = .ok (.if_icmp .ge 15, 3) := by decide +kernel
theorem d_H_lies_15 : decode y_H_lies.2.1 15 = .ok (.aload_n 0, 1) := by decide +kernel
theorem d_H_lies_16 : decode y_H_lies.2.1 16 = .ok (.getfield 81, 3) := by decide +kernel
theorem d_H_lies_19 : decode y_H_lies.2.1 19 = .ok (.getfield 235, 3) := by decide +kernel
theorem d_H_lies_22 : decode y_H_lies.2.1 22 = .ok (.iload_n 1, 1) := by decide +kernel
theorem d_H_lies_23 : decode y_H_lies.2.1 23 = .ok (.iaload, 1) := by decide +kernel
theorem d_H_lies_24 : decode y_H_lies.2.1 24 = .ok (.goto 5, 3) := by decide +kernel
theorem d_H_lies_27 : decode y_H_lies.2.1 27 = .ok (.bipush (-100), 2) := by decide +kernel
theorem d_H_lies_29 : decode y_H_lies.2.1 29 = .ok (.ireturn, 1) := by decide +kernel

abbrev y_Ears_tell : MI := (⟨"CricketHay$Ears", "tell", "(IIZ)I"⟩, prog_6_method_3_code, 4, (some .int))
theorem hy_Ears_tell : y_Ears_tell.1.cls ≠ "java/lang/invoke/MethodHandle" ∧ y_Ears_tell.1.cls ≠ "java/lang/invoke/VarHandle" ∧ (parseMethodDescriptor y_Ears_tell.1.desc).map (fun d => d.parameters.length) = some 3 := by decide +kernel
theorem d_Ears_tell_0 : decode y_Ears_tell.2.1 0 = .ok (.aload_n 0, 1) := by decide +kernel
theorem d_Ears_tell_1 : decode y_Ears_tell.2.1 1 = .ok (.getfield 44, 3) := by decide +kernel
theorem d_Ears_tell_4 : decode y_Ears_tell.2.1 4 = .ok (.bipush 30, 2) := by decide +kernel
theorem d_Ears_tell_6 : decode y_Ears_tell.2.1 6 = .ok (.if_icmp .lt 5, 3) := by decide +kernel
theorem d_Ears_tell_9 : decode y_Ears_tell.2.1 9 = .ok (.iconst (-1), 1) := by decide +kernel
theorem d_Ears_tell_10 : decode y_Ears_tell.2.1 10 = .ok (.ireturn, 1) := by decide +kernel
theorem d_Ears_tell_11 : decode y_Ears_tell.2.1 11 = .ok (.aload_n 0, 1) := by decide +kernel
theorem d_Ears_tell_12 : decode y_Ears_tell.2.1 12 = .ok (.getfield 9, 3) := by decide +kernel
theorem d_Ears_tell_15 : decode y_Ears_tell.2.1 15 = .ok (.aload_n 0, 1) := by decide +kernel
theorem d_Ears_tell_16 : decode y_Ears_tell.2.1 16 = .ok (.getfield 44, 3) := by decide +kernel
theorem d_Ears_tell_19 : decode y_Ears_tell.2.1 19 = .ok (.iload_n 1, 1) := by decide +kernel
theorem d_Ears_tell_20 : decode y_Ears_tell.2.1 20 = .ok (.iastore, 1) := by decide +kernel
theorem d_Ears_tell_21 : decode y_Ears_tell.2.1 21 = .ok (.aload_n 0, 1) := by decide +kernel
theorem d_Ears_tell_22 : decode y_Ears_tell.2.1 22 = .ok (.getfield 15, 3) := by decide +kernel
theorem d_Ears_tell_25 : decode y_Ears_tell.2.1 25 = .ok (.aload_n 0, 1) := by decide +kernel
theorem d_Ears_tell_26 : decode y_Ears_tell.2.1 26 = .ok (.getfield 44, 3) := by decide +kernel
theorem d_Ears_tell_29 : decode y_Ears_tell.2.1 29 = .ok (.iload_n 2, 1) := by decide +kernel
theorem d_Ears_tell_30 : decode y_Ears_tell.2.1 30 = .ok (.iastore, 1) := by decide +kernel
theorem d_Ears_tell_31 : decode y_Ears_tell.2.1 31 = .ok (.aload_n 0, 1) := by decide +kernel
theorem d_Ears_tell_32 : decode y_Ears_tell.2.1 32 = .ok (.getfield 18, 3) := by decide +kernel
theorem d_Ears_tell_35 : decode y_Ears_tell.2.1 35 = .ok (.aload_n 0, 1) := by decide +kernel
theorem d_Ears_tell_36 : decode y_Ears_tell.2.1 36 = .ok (.getfield 44, 3) := by decide +kernel
theorem d_Ears_tell_39 : decode y_Ears_tell.2.1 39 = .ok (.iload_n 3, 1) := by decide +kernel
theorem d_Ears_tell_40 : decode y_Ears_tell.2.1 40 = .ok (.bastore, 1) := by decide +kernel
theorem d_Ears_tell_41 : decode y_Ears_tell.2.1 41 = .ok (.aload_n 0, 1) := by decide +kernel
theorem d_Ears_tell_42 : decode y_Ears_tell.2.1 42 = .ok (.getfield 22, 3) := by decide +kernel
theorem d_Ears_tell_45 : decode y_Ears_tell.2.1 45 = .ok (.aload_n 0, 1) := by decide +kernel
theorem d_Ears_tell_46 : decode y_Ears_tell.2.1 46 = .ok (.getfield 44, 3) := by decide +kernel
theorem d_Ears_tell_49 : decode y_Ears_tell.2.1 49 = .ok (.aload_n 0, 1) := by decide +kernel
theorem d_Ears_tell_50 : decode y_Ears_tell.2.1 50 = .ok (.getfield 47, 3) := by decide +kernel
theorem d_Ears_tell_53 : decode y_Ears_tell.2.1 53 = .ok (.iastore, 1) := by decide +kernel
theorem d_Ears_tell_54 : decode y_Ears_tell.2.1 54 = .ok (.aload_n 0, 1) := by decide +kernel
theorem d_Ears_tell_55 : decode y_Ears_tell.2.1 55 = .ok (.getfield 25, 3) := by decide +kernel
theorem d_Ears_tell_58 : decode y_Ears_tell.2.1 58 = .ok (.aload_n 0, 1) := by decide +kernel
theorem d_Ears_tell_59 : decode y_Ears_tell.2.1 59 = .ok (.getfield 44, 3) := by decide +kernel
theorem d_Ears_tell_62 : decode y_Ears_tell.2.1 62 = .ok (.iconst (-1), 1) := by decide +kernel
theorem d_Ears_tell_63 : decode y_Ears_tell.2.1 63 = .ok (.iastore, 1) := by decide +kernel
theorem d_Ears_tell_64 : decode y_Ears_tell.2.1 64 = .ok (.aload_n 0, 1) := by decide +kernel
theorem d_Ears_tell_65 : decode y_Ears_tell.2.1 65 = .ok (.dup, 1) := by decide +kernel
theorem d_Ears_tell_66 : decode y_Ears_tell.2.1 66 = .ok (.getfield 44, 3) := by decide +kernel
theorem d_Ears_tell_69 : decode y_Ears_tell.2.1 69 = .ok (.iconst 1, 1) := by decide +kernel
theorem d_Ears_tell_70 : decode y_Ears_tell.2.1 70 = .ok (.iadd, 1) := by decide +kernel
theorem d_Ears_tell_71 : decode y_Ears_tell.2.1 71 = .ok (.putfield 44, 3) := by decide +kernel
theorem d_Ears_tell_74 : decode y_Ears_tell.2.1 74 = .ok (.aload_n 0, 1) := by decide +kernel
theorem d_Ears_tell_75 : decode y_Ears_tell.2.1 75 = .ok (.getfield 44, 3) := by decide +kernel
theorem d_Ears_tell_78 : decode y_Ears_tell.2.1 78 = .ok (.iconst 1, 1) := by decide +kernel
theorem d_Ears_tell_79 : decode y_Ears_tell.2.1 79 = .ok (.isub, 1) := by decide +kernel
theorem d_Ears_tell_80 : decode y_Ears_tell.2.1 80 = .ok (.ireturn, 1) := by decide +kernel

abbrev y_H_heard : MI := (⟨"CricketHay", "heard", "(IIZ)I"⟩, prog_1_method_34_code, 4, (some .int))
theorem hy_H_heard : y_H_heard.1.cls ≠ "java/lang/invoke/MethodHandle" ∧ y_H_heard.1.cls ≠ "java/lang/invoke/VarHandle" ∧ (parseMethodDescriptor y_H_heard.1.desc).map (fun d => d.parameters.length) = some 3 := by decide +kernel
theorem d_H_heard_0 : decode y_H_heard.2.1 0 = .ok (.iload_n 1, 1) := by decide +kernel
theorem d_H_heard_1 : decode y_H_heard.2.1 1 = .ok (.iconst 0, 1) := by decide +kernel
theorem d_H_heard_2 : decode y_H_heard.2.1 2 = .ok (.bipush 40, 2) := by decide +kernel
theorem d_H_heard_4 : decode y_H_heard.2.1 4 = .ok (.invokestatic 208, 3) := by decide +kernel
theorem d_H_heard_7 : decode y_H_heard.2.1 7 = .ok (.ifCond .eq 13, 3) := by decide +kernel
theorem d_H_heard_10 : decode y_H_heard.2.1 10 = .ok (.iload_n 2, 1) := by decide +kernel
theorem d_H_heard_11 : decode y_H_heard.2.1 11 = .ok (.iconst 0, 1) := by decide +kernel
theorem d_H_heard_12 : decode y_H_heard.2.1 12 = .ok (.bipush 99, 2) := by decide +kernel
theorem d_H_heard_14 : decode y_H_heard.2.1 14 = .ok (.invokestatic 208, 3) := by decide +kernel
theorem d_H_heard_17 : decode y_H_heard.2.1 17 = .ok (.ifCond .ne 5, 3) := by decide +kernel
theorem d_H_heard_20 : decode y_H_heard.2.1 20 = .ok (.iconst (-1), 1) := by decide +kernel
theorem d_H_heard_21 : decode y_H_heard.2.1 21 = .ok (.ireturn, 1) := by decide +kernel
theorem d_H_heard_22 : decode y_H_heard.2.1 22 = .ok (.aload_n 0, 1) := by decide +kernel
theorem d_H_heard_23 : decode y_H_heard.2.1 23 = .ok (.getfield 60, 3) := by decide +kernel
theorem d_H_heard_26 : decode y_H_heard.2.1 26 = .ok (.iload_n 1, 1) := by decide +kernel
theorem d_H_heard_27 : decode y_H_heard.2.1 27 = .ok (.iload_n 2, 1) := by decide +kernel
theorem d_H_heard_28 : decode y_H_heard.2.1 28 = .ok (.iload_n 3, 1) := by decide +kernel
theorem d_H_heard_29 : decode y_H_heard.2.1 29 = .ok (.invokevirtual 295, 3) := by decide +kernel
theorem d_H_heard_32 : decode y_H_heard.2.1 32 = .ok (.ireturn, 1) := by decide +kernel

abbrev y_Ears_takeBack : MI := (⟨"CricketHay$Ears", "takeBack", "(I)Z"⟩, prog_6_method_4_code, 2, (some .boolean))
theorem hy_Ears_takeBack : y_Ears_takeBack.1.cls ≠ "java/lang/invoke/MethodHandle" ∧ y_Ears_takeBack.1.cls ≠ "java/lang/invoke/VarHandle" ∧ (parseMethodDescriptor y_Ears_takeBack.1.desc).map (fun d => d.parameters.length) = some 1 := by decide +kernel
theorem d_Ears_takeBack_0 : decode y_Ears_takeBack.2.1 0 = .ok (.iload_n 1, 1) := by decide +kernel
theorem d_Ears_takeBack_1 : decode y_Ears_takeBack.2.1 1 = .ok (.ifCond .lt 21, 3) := by decide +kernel
theorem d_Ears_takeBack_4 : decode y_Ears_takeBack.2.1 4 = .ok (.iload_n 1, 1) := by decide +kernel
theorem d_Ears_takeBack_5 : decode y_Ears_takeBack.2.1 5 = .ok (.aload_n 0, 1) := by decide +kernel
theorem d_Ears_takeBack_6 : decode y_Ears_takeBack.2.1 6 = .ok (.getfield 44, 3) := by decide +kernel
theorem d_Ears_takeBack_9 : decode y_Ears_takeBack.2.1 9 = .ok (.if_icmp .ge 13, 3) := by decide +kernel
theorem d_Ears_takeBack_12 : decode y_Ears_takeBack.2.1 12 = .ok (.aload_n 0, 1) := by decide +kernel
theorem d_Ears_takeBack_13 : decode y_Ears_takeBack.2.1 13 = .ok (.getfield 25, 3) := by decide +kernel
theorem d_Ears_takeBack_16 : decode y_Ears_takeBack.2.1 16 = .ok (.iload_n 1, 1) := by decide +kernel
theorem d_Ears_takeBack_17 : decode y_Ears_takeBack.2.1 17 = .ok (.iaload, 1) := by decide +kernel
theorem d_Ears_takeBack_18 : decode y_Ears_takeBack.2.1 18 = .ok (.iconst (-1), 1) := by decide +kernel
theorem d_Ears_takeBack_19 : decode y_Ears_takeBack.2.1 19 = .ok (.if_icmp .eq 5, 3) := by decide +kernel
theorem d_Ears_takeBack_22 : decode y_Ears_takeBack.2.1 22 = .ok (.iconst 0, 1) := by decide +kernel
theorem d_Ears_takeBack_23 : decode y_Ears_takeBack.2.1 23 = .ok (.ireturn, 1) := by decide +kernel
theorem d_Ears_takeBack_24 : decode y_Ears_takeBack.2.1 24 = .ok (.aload_n 0, 1) := by decide +kernel
theorem d_Ears_takeBack_25 : decode y_Ears_takeBack.2.1 25 = .ok (.getfield 25, 3) := by decide +kernel
theorem d_Ears_takeBack_28 : decode y_Ears_takeBack.2.1 28 = .ok (.iload_n 1, 1) := by decide +kernel
theorem d_Ears_takeBack_29 : decode y_Ears_takeBack.2.1 29 = .ok (.aload_n 0, 1) := by decide +kernel
theorem d_Ears_takeBack_30 : decode y_Ears_takeBack.2.1 30 = .ok (.getfield 47, 3) := by decide +kernel
theorem d_Ears_takeBack_33 : decode y_Ears_takeBack.2.1 33 = .ok (.iastore, 1) := by decide +kernel
theorem d_Ears_takeBack_34 : decode y_Ears_takeBack.2.1 34 = .ok (.iconst 1, 1) := by decide +kernel
theorem d_Ears_takeBack_35 : decode y_Ears_takeBack.2.1 35 = .ok (.ireturn, 1) := by decide +kernel

abbrev y_H_untell : MI := (⟨"CricketHay", "untell", "(I)Z"⟩, prog_1_method_35_code, 2, (some .boolean))
theorem hy_H_untell : y_H_untell.1.cls ≠ "java/lang/invoke/MethodHandle" ∧ y_H_untell.1.cls ≠ "java/lang/invoke/VarHandle" ∧ (parseMethodDescriptor y_H_untell.1.desc).map (fun d => d.parameters.length) = some 1 := by decide +kernel
theorem d_H_untell_0 : decode y_H_untell.2.1 0 = .ok (.aload_n 0, 1) := by decide +kernel
theorem d_H_untell_1 : decode y_H_untell.2.1 1 = .ok (.getfield 60, 3) := by decide +kernel
theorem d_H_untell_4 : decode y_H_untell.2.1 4 = .ok (.iload_n 1, 1) := by decide +kernel
theorem d_H_untell_5 : decode y_H_untell.2.1 5 = .ok (.invokevirtual 299, 3) := by decide +kernel
theorem d_H_untell_8 : decode y_H_untell.2.1 8 = .ok (.ireturn, 1) := by decide +kernel

abbrev y_H_later : MI := (⟨"CricketHay", "later", "(I)I"⟩, prog_1_method_36_code, 2, (some .int))
theorem hy_H_later : y_H_later.1.cls ≠ "java/lang/invoke/MethodHandle" ∧ y_H_later.1.cls ≠ "java/lang/invoke/VarHandle" ∧ (parseMethodDescriptor y_H_later.1.desc).map (fun d => d.parameters.length) = some 1 := by decide +kernel
theorem d_H_later_0 : decode y_H_later.2.1 0 = .ok (.iload_n 1, 1) := by decide +kernel
theorem d_H_later_1 : decode y_H_later.2.1 1 = .ok (.iconst 0, 1) := by decide +kernel
theorem d_H_later_2 : decode y_H_later.2.1 2 = .ok (.sipush 1000, 3) := by decide +kernel
theorem d_H_later_5 : decode y_H_later.2.1 5 = .ok (.invokestatic 208, 3) := by decide +kernel
theorem d_H_later_8 : decode y_H_later.2.1 8 = .ok (.ifCond .eq 18, 3) := by decide +kernel
theorem d_H_later_11 : decode y_H_later.2.1 11 = .ok (.aload_n 0, 1) := by decide +kernel
theorem d_H_later_12 : decode y_H_later.2.1 12 = .ok (.getfield 60, 3) := by decide +kernel
theorem d_H_later_15 : decode y_H_later.2.1 15 = .ok (.getfield 301, 3) := by decide +kernel
theorem d_H_later_18 : decode y_H_later.2.1 18 = .ok (.iload_n 1, 1) := by decide +kernel
theorem d_H_later_19 : decode y_H_later.2.1 19 = .ok (.iadd, 1) := by decide +kernel
theorem d_H_later_20 : decode y_H_later.2.1 20 = .ok (.ldc_w 304, 3) := by decide +kernel
theorem d_H_later_23 : decode y_H_later.2.1 23 = .ok (.if_icmp .le 5, 3) := by decide +kernel
theorem d_H_later_26 : decode y_H_later.2.1 26 = .ok (.iconst (-1), 1) := by decide +kernel
theorem d_H_later_27 : decode y_H_later.2.1 27 = .ok (.ireturn, 1) := by decide +kernel
theorem d_H_later_28 : decode y_H_later.2.1 28 = .ok (.aload_n 0, 1) := by decide +kernel
theorem d_H_later_29 : decode y_H_later.2.1 29 = .ok (.getfield 60, 3) := by decide +kernel
theorem d_H_later_32 : decode y_H_later.2.1 32 = .ok (.dup, 1) := by decide +kernel
theorem d_H_later_33 : decode y_H_later.2.1 33 = .ok (.getfield 301, 3) := by decide +kernel
theorem d_H_later_36 : decode y_H_later.2.1 36 = .ok (.iload_n 1, 1) := by decide +kernel
theorem d_H_later_37 : decode y_H_later.2.1 37 = .ok (.iadd, 1) := by decide +kernel
theorem d_H_later_38 : decode y_H_later.2.1 38 = .ok (.putfield 301, 3) := by decide +kernel
theorem d_H_later_41 : decode y_H_later.2.1 41 = .ok (.aload_n 0, 1) := by decide +kernel
theorem d_H_later_42 : decode y_H_later.2.1 42 = .ok (.getfield 60, 3) := by decide +kernel
theorem d_H_later_45 : decode y_H_later.2.1 45 = .ok (.getfield 301, 3) := by decide +kernel
theorem d_H_later_48 : decode y_H_later.2.1 48 = .ok (.ireturn, 1) := by decide +kernel

abbrev y_Ears_counts : MI := (⟨"CricketHay$Ears", "counts", "(II)Z"⟩, prog_6_method_5_code, 3, (some .boolean))
theorem hy_Ears_counts : y_Ears_counts.1.cls ≠ "java/lang/invoke/MethodHandle" ∧ y_Ears_counts.1.cls ≠ "java/lang/invoke/VarHandle" ∧ (parseMethodDescriptor y_Ears_counts.1.desc).map (fun d => d.parameters.length) = some 2 := by decide +kernel
theorem d_Ears_counts_0 : decode y_Ears_counts.2.1 0 = .ok (.aload_n 0, 1) := by decide +kernel
theorem d_Ears_counts_1 : decode y_Ears_counts.2.1 1 = .ok (.getfield 22, 3) := by decide +kernel
theorem d_Ears_counts_4 : decode y_Ears_counts.2.1 4 = .ok (.iload_n 1, 1) := by decide +kernel
theorem d_Ears_counts_5 : decode y_Ears_counts.2.1 5 = .ok (.iaload, 1) := by decide +kernel
theorem d_Ears_counts_6 : decode y_Ears_counts.2.1 6 = .ok (.iload_n 2, 1) := by decide +kernel
theorem d_Ears_counts_7 : decode y_Ears_counts.2.1 7 = .ok (.if_icmp .gt 27, 3) := by decide +kernel
theorem d_Ears_counts_10 : decode y_Ears_counts.2.1 10 = .ok (.aload_n 0, 1) := by decide +kernel
theorem d_Ears_counts_11 : decode y_Ears_counts.2.1 11 = .ok (.getfield 25, 3) := by decide +kernel
theorem d_Ears_counts_14 : decode y_Ears_counts.2.1 14 = .ok (.iload_n 1, 1) := by decide +kernel
theorem d_Ears_counts_15 : decode y_Ears_counts.2.1 15 = .ok (.iaload, 1) := by decide +kernel
theorem d_Ears_counts_16 : decode y_Ears_counts.2.1 16 = .ok (.iconst (-1), 1) := by decide +kernel
theorem d_Ears_counts_17 : decode y_Ears_counts.2.1 17 = .ok (.if_icmp .eq 13, 3) := by decide +kernel
theorem d_Ears_counts_20 : decode y_Ears_counts.2.1 20 = .ok (.aload_n 0, 1) := by decide +kernel
theorem d_Ears_counts_21 : decode y_Ears_counts.2.1 21 = .ok (.getfield 25, 3) := by decide +kernel
theorem d_Ears_counts_24 : decode y_Ears_counts.2.1 24 = .ok (.iload_n 1, 1) := by decide +kernel
theorem d_Ears_counts_25 : decode y_Ears_counts.2.1 25 = .ok (.iaload, 1) := by decide +kernel
theorem d_Ears_counts_26 : decode y_Ears_counts.2.1 26 = .ok (.iload_n 2, 1) := by decide +kernel
theorem d_Ears_counts_27 : decode y_Ears_counts.2.1 27 = .ok (.if_icmp .le 7, 3) := by decide +kernel
theorem d_Ears_counts_30 : decode y_Ears_counts.2.1 30 = .ok (.iconst 1, 1) := by decide +kernel
theorem d_Ears_counts_31 : decode y_Ears_counts.2.1 31 = .ok (.goto 4, 3) := by decide +kernel
theorem d_Ears_counts_34 : decode y_Ears_counts.2.1 34 = .ok (.iconst 0, 1) := by decide +kernel
theorem d_Ears_counts_35 : decode y_Ears_counts.2.1 35 = .ok (.ireturn, 1) := by decide +kernel

abbrev y_Ears_sings : MI := (⟨"CricketHay$Ears", "sings", "(LCricketHay$Market;II)I"⟩, prog_6_method_8_code, 5, (some .int))
theorem hy_Ears_sings : y_Ears_sings.1.cls ≠ "java/lang/invoke/MethodHandle" ∧ y_Ears_sings.1.cls ≠ "java/lang/invoke/VarHandle" ∧ (parseMethodDescriptor y_Ears_sings.1.desc).map (fun d => d.parameters.length) = some 3 := by decide +kernel
theorem d_Ears_sings_0 : decode y_Ears_sings.2.1 0 = .ok (.iload_n 2, 1) := by decide +kernel
theorem d_Ears_sings_1 : decode y_Ears_sings.2.1 1 = .ok (.bipush 10, 2) := by decide +kernel
theorem d_Ears_sings_3 : decode y_Ears_sings.2.1 3 = .ok (.imul, 1) := by decide +kernel
theorem d_Ears_sings_4 : decode y_Ears_sings.2.1 4 = .ok (.bipush 10, 2) := by decide +kernel
theorem d_Ears_sings_6 : decode y_Ears_sings.2.1 6 = .ok (.imul, 1) := by decide +kernel
theorem d_Ears_sings_7 : decode y_Ears_sings.2.1 7 = .ok (.iload_n 3, 1) := by decide +kernel
theorem d_Ears_sings_8 : decode y_Ears_sings.2.1 8 = .ok (.iadd, 1) := by decide +kernel
theorem d_Ears_sings_9 : decode y_Ears_sings.2.1 9 = .ok (.istore 4, 2) := by decide +kernel
theorem d_Ears_sings_11 : decode y_Ears_sings.2.1 11 = .ok (.aload_n 0, 1) := by decide +kernel
theorem d_Ears_sings_12 : decode y_Ears_sings.2.1 12 = .ok (.getfield 31, 3) := by decide +kernel
theorem d_Ears_sings_15 : decode y_Ears_sings.2.1 15 = .ok (.iload 4, 2) := by decide +kernel
theorem d_Ears_sings_17 : decode y_Ears_sings.2.1 17 = .ok (.iaload, 1) := by decide +kernel
theorem d_Ears_sings_18 : decode y_Ears_sings.2.1 18 = .ok (.iconst (-1), 1) := by decide +kernel
theorem d_Ears_sings_19 : decode y_Ears_sings.2.1 19 = .ok (.if_icmp .ne 32, 3) := by decide +kernel
theorem d_Ears_sings_22 : decode y_Ears_sings.2.1 22 = .ok (.aload_n 0, 1) := by decide +kernel
theorem d_Ears_sings_23 : decode y_Ears_sings.2.1 23 = .ok (.getfield 31, 3) := by decide +kernel
theorem d_Ears_sings_26 : decode y_Ears_sings.2.1 26 = .ok (.iload 4, 2) := by decide +kernel
theorem d_Ears_sings_28 : decode y_Ears_sings.2.1 28 = .ok (.aload_n 1, 1) := by decide +kernel
theorem d_Ears_sings_29 : decode y_Ears_sings.2.1 29 = .ok (.iload_n 2, 1) := by decide +kernel
theorem d_Ears_sings_30 : decode y_Ears_sings.2.1 30 = .ok (.iload_n 3, 1) := by decide +kernel
theorem d_Ears_sings_31 : decode y_Ears_sings.2.1 31 = .ok (.bipush 10, 2) := by decide +kernel
theorem d_Ears_sings_33 : decode y_Ears_sings.2.1 33 = .ok (.idiv, 1) := by decide +kernel
theorem d_Ears_sings_34 : decode y_Ears_sings.2.1 34 = .ok (.iload_n 3, 1) := by decide +kernel
theorem d_Ears_sings_35 : decode y_Ears_sings.2.1 35 = .ok (.bipush 10, 2) := by decide +kernel
theorem d_Ears_sings_37 : decode y_Ears_sings.2.1 37 = .ok (.irem, 1) := by decide +kernel
theorem d_Ears_sings_38 : decode y_Ears_sings.2.1 38 = .ok (.iconst 0, 1) := by decide +kernel
theorem d_Ears_sings_39 : decode y_Ears_sings.2.1 39 = .ok (.aload_n 0, 1) := by decide +kernel
theorem d_Ears_sings_40 : decode y_Ears_sings.2.1 40 = .ok (.getfield 34, 3) := by decide +kernel
theorem d_Ears_sings_43 : decode y_Ears_sings.2.1 43 = .ok (.aload_n 0, 1) := by decide +kernel
theorem d_Ears_sings_44 : decode y_Ears_sings.2.1 44 = .ok (.getfield 38, 3) := by decide +kernel
theorem d_Ears_sings_47 : decode y_Ears_sings.2.1 47 = .ok (.invokevirtual 76, 3) := by decide +kernel
theorem d_Ears_sings_50 : decode y_Ears_sings.2.1 50 = .ok (.iastore, 1) := by decide +kernel
theorem d_Ears_sings_51 : decode y_Ears_sings.2.1 51 = .ok (.aload_n 0, 1) := by decide +kernel
theorem d_Ears_sings_52 : decode y_Ears_sings.2.1 52 = .ok (.getfield 31, 3) := by decide +kernel
theorem d_Ears_sings_55 : decode y_Ears_sings.2.1 55 = .ok (.iload 4, 2) := by decide +kernel
theorem d_Ears_sings_57 : decode y_Ears_sings.2.1 57 = .ok (.iaload, 1) := by decide +kernel
theorem d_Ears_sings_58 : decode y_Ears_sings.2.1 58 = .ok (.ireturn, 1) := by decide +kernel

abbrev y_Ears_isFit : MI := (⟨"CricketHay$Ears", "isFit", "(LCricketHay$Market;II)Z"⟩, prog_6_method_7_code, 5, (some .boolean))
theorem hy_Ears_isFit : y_Ears_isFit.1.cls ≠ "java/lang/invoke/MethodHandle" ∧ y_Ears_isFit.1.cls ≠ "java/lang/invoke/VarHandle" ∧ (parseMethodDescriptor y_Ears_isFit.1.desc).map (fun d => d.parameters.length) = some 3 := by decide +kernel
theorem d_Ears_isFit_0 : decode y_Ears_isFit.2.1 0 = .ok (.iconst 0, 1) := by decide +kernel
theorem d_Ears_isFit_1 : decode y_Ears_isFit.2.1 1 = .ok (.istore 4, 2) := by decide +kernel
theorem d_Ears_isFit_3 : decode y_Ears_isFit.2.1 3 = .ok (.iload 4, 2) := by decide +kernel
theorem d_Ears_isFit_5 : decode y_Ears_isFit.2.1 5 = .ok (.aload_n 0, 1) := by decide +kernel
theorem d_Ears_isFit_6 : decode y_Ears_isFit.2.1 6 = .ok (.getfield 44, 3) := by decide +kernel
theorem d_Ears_isFit_9 : decode y_Ears_isFit.2.1 9 = .ok (.if_icmp .ge 59, 3) := by decide +kernel
theorem d_Ears_isFit_12 : decode y_Ears_isFit.2.1 12 = .ok (.aload_n 0, 1) := by decide +kernel
theorem d_Ears_isFit_13 : decode y_Ears_isFit.2.1 13 = .ok (.iload 4, 2) := by decide +kernel
theorem d_Ears_isFit_15 : decode y_Ears_isFit.2.1 15 = .ok (.iload_n 3, 1) := by decide +kernel
theorem d_Ears_isFit_16 : decode y_Ears_isFit.2.1 16 = .ok (.invokevirtual 68, 3) := by decide +kernel
theorem d_Ears_isFit_19 : decode y_Ears_isFit.2.1 19 = .ok (.ifCond .eq 43, 3) := by decide +kernel
theorem d_Ears_isFit_22 : decode y_Ears_isFit.2.1 22 = .ok (.aload_n 0, 1) := by decide +kernel
theorem d_Ears_isFit_23 : decode y_Ears_isFit.2.1 23 = .ok (.aload_n 1, 1) := by decide +kernel
theorem d_Ears_isFit_24 : decode y_Ears_isFit.2.1 24 = .ok (.aload_n 0, 1) := by decide +kernel
theorem d_Ears_isFit_25 : decode y_Ears_isFit.2.1 25 = .ok (.getfield 9, 3) := by decide +kernel
theorem d_Ears_isFit_28 : decode y_Ears_isFit.2.1 28 = .ok (.iload 4, 2) := by decide +kernel
theorem d_Ears_isFit_30 : decode y_Ears_isFit.2.1 30 = .ok (.iaload, 1) := by decide +kernel
theorem d_Ears_isFit_31 : decode y_Ears_isFit.2.1 31 = .ok (.iload_n 2, 1) := by decide +kernel
theorem d_Ears_isFit_32 : decode y_Ears_isFit.2.1 32 = .ok (.invokevirtual 72, 3) := by decide +kernel
theorem d_Ears_isFit_35 : decode y_Ears_isFit.2.1 35 = .ok (.aload_n 0, 1) := by decide +kernel
theorem d_Ears_isFit_36 : decode y_Ears_isFit.2.1 36 = .ok (.getfield 15, 3) := by decide +kernel
theorem d_Ears_isFit_39 : decode y_Ears_isFit.2.1 39 = .ok (.iload 4, 2) := by decide +kernel
theorem d_Ears_isFit_41 : decode y_Ears_isFit.2.1 41 = .ok (.iaload, 1) := by decide +kernel
theorem d_Ears_isFit_42 : decode y_Ears_isFit.2.1 42 = .ok (.if_icmp .lt 7, 3) := by decide +kernel
theorem d_Ears_isFit_45 : decode y_Ears_isFit.2.1 45 = .ok (.iconst 1, 1) := by decide +kernel
theorem d_Ears_isFit_46 : decode y_Ears_isFit.2.1 46 = .ok (.goto 4, 3) := by decide +kernel
theorem d_Ears_isFit_49 : decode y_Ears_isFit.2.1 49 = .ok (.iconst 0, 1) := by decide +kernel
theorem d_Ears_isFit_50 : decode y_Ears_isFit.2.1 50 = .ok (.aload_n 0, 1) := by decide +kernel
theorem d_Ears_isFit_51 : decode y_Ears_isFit.2.1 51 = .ok (.getfield 18, 3) := by decide +kernel
theorem d_Ears_isFit_54 : decode y_Ears_isFit.2.1 54 = .ok (.iload 4, 2) := by decide +kernel
theorem d_Ears_isFit_56 : decode y_Ears_isFit.2.1 56 = .ok (.baload, 1) := by decide +kernel
theorem d_Ears_isFit_57 : decode y_Ears_isFit.2.1 57 = .ok (.if_icmp .eq 5, 3) := by decide +kernel
theorem d_Ears_isFit_60 : decode y_Ears_isFit.2.1 60 = .ok (.iconst 0, 1) := by decide +kernel
theorem d_Ears_isFit_61 : decode y_Ears_isFit.2.1 61 = .ok (.ireturn, 1) := by decide +kernel
theorem d_Ears_isFit_62 : decode y_Ears_isFit.2.1 62 = .ok (.iinc 4 1, 3) := by decide +kernel
theorem d_Ears_isFit_65 : decode y_Ears_isFit.2.1 65 = .ok (.goto (-62), 3) := by decide +kernel
theorem d_Ears_isFit_68 : decode y_Ears_isFit.2.1 68 = .ok (.iconst 1, 1) := by decide +kernel
theorem d_Ears_isFit_69 : decode y_Ears_isFit.2.1 69 = .ok (.ireturn, 1) := by decide +kernel

abbrev y_Ears_findFits : MI := (⟨"CricketHay$Ears", "findFits", "(LCricketHay$Market;LCricketHay$Yard;I)I"⟩, prog_6_method_6_code, 5, (some .int))
theorem hy_Ears_findFits : y_Ears_findFits.1.cls ≠ "java/lang/invoke/MethodHandle" ∧ y_Ears_findFits.1.cls ≠ "java/lang/invoke/VarHandle" ∧ (parseMethodDescriptor y_Ears_findFits.1.desc).map (fun d => d.parameters.length) = some 3 := by decide +kernel
theorem d_Ears_findFits_0 : decode y_Ears_findFits.2.1 0 = .ok (.aload_n 0, 1) := by decide +kernel
theorem d_Ears_findFits_1 : decode y_Ears_findFits.2.1 1 = .ok (.getfield 34, 3) := by decide +kernel
theorem d_Ears_findFits_4 : decode y_Ears_findFits.2.1 4 = .ok (.aload_n 2, 1) := by decide +kernel
theorem d_Ears_findFits_5 : decode y_Ears_findFits.2.1 5 = .ok (.getfield 50, 3) := by decide +kernel
theorem d_Ears_findFits_8 : decode y_Ears_findFits.2.1 8 = .ok (.if_icmp .ne 14, 3) := by decide +kernel
theorem d_Ears_findFits_11 : decode y_Ears_findFits.2.1 11 = .ok (.aload_n 0, 1) := by decide +kernel
theorem d_Ears_findFits_12 : decode y_Ears_findFits.2.1 12 = .ok (.getfield 38, 3) := by decide +kernel
theorem d_Ears_findFits_15 : decode y_Ears_findFits.2.1 15 = .ok (.aload_n 2, 1) := by decide +kernel
theorem d_Ears_findFits_16 : decode y_Ears_findFits.2.1 16 = .ok (.getfield 55, 3) := by decide +kernel
theorem d_Ears_findFits_19 : decode y_Ears_findFits.2.1 19 = .ok (.if_icmp .eq 27, 3) := by decide +kernel
theorem d_Ears_findFits_22 : decode y_Ears_findFits.2.1 22 = .ok (.aload_n 0, 1) := by decide +kernel
theorem d_Ears_findFits_23 : decode y_Ears_findFits.2.1 23 = .ok (.aload_n 2, 1) := by decide +kernel
theorem d_Ears_findFits_24 : decode y_Ears_findFits.2.1 24 = .ok (.getfield 50, 3) := by decide +kernel
theorem d_Ears_findFits_27 : decode y_Ears_findFits.2.1 27 = .ok (.putfield 34, 3) := by decide +kernel
theorem d_Ears_findFits_30 : decode y_Ears_findFits.2.1 30 = .ok (.aload_n 0, 1) := by decide +kernel
theorem d_Ears_findFits_31 : decode y_Ears_findFits.2.1 31 = .ok (.aload_n 2, 1) := by decide +kernel
theorem d_Ears_findFits_32 : decode y_Ears_findFits.2.1 32 = .ok (.getfield 55, 3) := by decide +kernel
theorem d_Ears_findFits_35 : decode y_Ears_findFits.2.1 35 = .ok (.putfield 38, 3) := by decide +kernel
theorem d_Ears_findFits_38 : decode y_Ears_findFits.2.1 38 = .ok (.aload_n 0, 1) := by decide +kernel
theorem d_Ears_findFits_39 : decode y_Ears_findFits.2.1 39 = .ok (.getfield 31, 3) := by decide +kernel
theorem d_Ears_findFits_42 : decode y_Ears_findFits.2.1 42 = .ok (.iconst (-1), 1) := by decide +kernel
theorem d_Ears_findFits_43 : decode y_Ears_findFits.2.1 43 = .ok (.invokestatic 58, 3) := by decide +kernel
theorem d_Ears_findFits_46 : decode y_Ears_findFits.2.1 46 = .ok (.aload_n 0, 1) := by decide +kernel
theorem d_Ears_findFits_47 : decode y_Ears_findFits.2.1 47 = .ok (.iconst 0, 1) := by decide +kernel
theorem d_Ears_findFits_48 : decode y_Ears_findFits.2.1 48 = .ok (.putfield 41, 3) := by decide +kernel
theorem d_Ears_findFits_51 : decode y_Ears_findFits.2.1 51 = .ok (.iconst 0, 1) := by decide +kernel
theorem d_Ears_findFits_52 : decode y_Ears_findFits.2.1 52 = .ok (.istore 4, 2) := by decide +kernel
theorem d_Ears_findFits_54 : decode y_Ears_findFits.2.1 54 = .ok (.iload 4, 2) := by decide +kernel
theorem d_Ears_findFits_56 : decode y_Ears_findFits.2.1 56 = .ok (.aload_n 0, 1) := by decide +kernel
theorem d_Ears_findFits_57 : decode y_Ears_findFits.2.1 57 = .ok (.getfield 28, 3) := by decide +kernel
theorem d_Ears_findFits_60 : decode y_Ears_findFits.2.1 60 = .ok (.arraylength, 1) := by decide +kernel
theorem d_Ears_findFits_61 : decode y_Ears_findFits.2.1 61 = .ok (.if_icmp .ge 44, 3) := by decide +kernel
theorem d_Ears_findFits_64 : decode y_Ears_findFits.2.1 64 = .ok (.aload_n 0, 1) := by decide +kernel
theorem d_Ears_findFits_65 : decode y_Ears_findFits.2.1 65 = .ok (.getfield 28, 3) := by decide +kernel
theorem d_Ears_findFits_68 : decode y_Ears_findFits.2.1 68 = .ok (.iload 4, 2) := by decide +kernel
theorem d_Ears_findFits_70 : decode y_Ears_findFits.2.1 70 = .ok (.aload_n 0, 1) := by decide +kernel
theorem d_Ears_findFits_71 : decode y_Ears_findFits.2.1 71 = .ok (.aload_n 1, 1) := by decide +kernel
theorem d_Ears_findFits_72 : decode y_Ears_findFits.2.1 72 = .ok (.iload 4, 2) := by decide +kernel
theorem d_Ears_findFits_74 : decode y_Ears_findFits.2.1 74 = .ok (.iload_n 3, 1) := by decide +kernel
theorem d_Ears_findFits_75 : decode y_Ears_findFits.2.1 75 = .ok (.invokevirtual 64, 3) := by decide +kernel
theorem d_Ears_findFits_78 : decode y_Ears_findFits.2.1 78 = .ok (.bastore, 1) := by decide +kernel
theorem d_Ears_findFits_79 : decode y_Ears_findFits.2.1 79 = .ok (.aload_n 0, 1) := by decide +kernel
theorem d_Ears_findFits_80 : decode y_Ears_findFits.2.1 80 = .ok (.getfield 28, 3) := by decide +kernel
theorem d_Ears_findFits_83 : decode y_Ears_findFits.2.1 83 = .ok (.iload 4, 2) := by decide +kernel
theorem d_Ears_findFits_85 : decode y_Ears_findFits.2.1 85 = .ok (.baload, 1) := by decide +kernel
theorem d_Ears_findFits_86 : decode y_Ears_findFits.2.1 86 = .ok (.ifCond .eq 13, 3) := by decide +kernel
theorem d_Ears_findFits_89 : decode y_Ears_findFits.2.1 89 = .ok (.aload_n 0, 1) := by decide +kernel
theorem d_Ears_findFits_90 : decode y_Ears_findFits.2.1 90 = .ok (.dup, 1) := by decide +kernel
theorem d_Ears_findFits_91 : decode y_Ears_findFits.2.1 91 = .ok (.getfield 41, 3) := by decide +kernel
theorem d_Ears_findFits_94 : decode y_Ears_findFits.2.1 94 = .ok (.iconst 1, 1) := by decide +kernel
theorem d_Ears_findFits_95 : decode y_Ears_findFits.2.1 95 = .ok (.iadd, 1) := by decide +kernel
theorem d_Ears_findFits_96 : decode y_Ears_findFits.2.1 96 = .ok (.putfield 41, 3) := by decide +kernel
theorem d_Ears_findFits_99 : decode y_Ears_findFits.2.1 99 = .ok (.iinc 4 1, 3) := by decide +kernel
theorem d_Ears_findFits_102 : decode y_Ears_findFits.2.1 102 = .ok (.goto (-48), 3) := by decide +kernel
theorem d_Ears_findFits_105 : decode y_Ears_findFits.2.1 105 = .ok (.aload_n 0, 1) := by decide +kernel
theorem d_Ears_findFits_106 : decode y_Ears_findFits.2.1 106 = .ok (.getfield 41, 3) := by decide +kernel
theorem d_Ears_findFits_109 : decode y_Ears_findFits.2.1 109 = .ok (.ireturn, 1) := by decide +kernel

abbrev y_H_fits : MI := (⟨"CricketHay", "fits", "(I)I"⟩, prog_1_method_37_code, 2, (some .int))
theorem hy_H_fits : y_H_fits.1.cls ≠ "java/lang/invoke/MethodHandle" ∧ y_H_fits.1.cls ≠ "java/lang/invoke/VarHandle" ∧ (parseMethodDescriptor y_H_fits.1.desc).map (fun d => d.parameters.length) = some 1 := by decide +kernel
theorem d_H_fits_0 : decode y_H_fits.2.1 0 = .ok (.aload_n 0, 1) := by decide +kernel
theorem d_H_fits_1 : decode y_H_fits.2.1 1 = .ok (.getfield 60, 3) := by decide +kernel
theorem d_H_fits_4 : decode y_H_fits.2.1 4 = .ok (.aload_n 0, 1) := by decide +kernel
theorem d_H_fits_5 : decode y_H_fits.2.1 5 = .ok (.getfield 19, 3) := by decide +kernel
theorem d_H_fits_8 : decode y_H_fits.2.1 8 = .ok (.aload_n 0, 1) := by decide +kernel
theorem d_H_fits_9 : decode y_H_fits.2.1 9 = .ok (.getfield 29, 3) := by decide +kernel
theorem d_H_fits_12 : decode y_H_fits.2.1 12 = .ok (.iload_n 1, 1) := by decide +kernel
theorem d_H_fits_13 : decode y_H_fits.2.1 13 = .ok (.invokevirtual 305, 3) := by decide +kernel
theorem d_H_fits_16 : decode y_H_fits.2.1 16 = .ok (.ireturn, 1) := by decide +kernel

abbrev y_Ears_onlySong : MI := (⟨"CricketHay$Ears", "onlySong", "()I"⟩, prog_6_method_9_code, 3, (some .int))
theorem hy_Ears_onlySong : y_Ears_onlySong.1.cls ≠ "java/lang/invoke/MethodHandle" ∧ y_Ears_onlySong.1.cls ≠ "java/lang/invoke/VarHandle" ∧ (parseMethodDescriptor y_Ears_onlySong.1.desc).map (fun d => d.parameters.length) = some 0 := by decide +kernel
theorem d_Ears_onlySong_0 : decode y_Ears_onlySong.2.1 0 = .ok (.iconst (-1), 1) := by decide +kernel
theorem d_Ears_onlySong_1 : decode y_Ears_onlySong.2.1 1 = .ok (.istore_n 1, 1) := by decide +kernel
theorem d_Ears_onlySong_2 : decode y_Ears_onlySong.2.1 2 = .ok (.iconst 0, 1) := by decide +kernel
theorem d_Ears_onlySong_3 : decode y_Ears_onlySong.2.1 3 = .ok (.istore_n 2, 1) := by decide +kernel
theorem d_Ears_onlySong_4 : decode y_Ears_onlySong.2.1 4 = .ok (.iload_n 2, 1) := by decide +kernel
theorem d_Ears_onlySong_5 : decode y_Ears_onlySong.2.1 5 = .ok (.aload_n 0, 1) := by decide +kernel
theorem d_Ears_onlySong_6 : decode y_Ears_onlySong.2.1 6 = .ok (.getfield 28, 3) := by decide +kernel
theorem d_Ears_onlySong_9 : decode y_Ears_onlySong.2.1 9 = .ok (.arraylength, 1) := by decide +kernel
theorem d_Ears_onlySong_10 : decode y_Ears_onlySong.2.1 10 = .ok (.if_icmp .ge 39, 3) := by decide +kernel
theorem d_Ears_onlySong_13 : decode y_Ears_onlySong.2.1 13 = .ok (.aload_n 0, 1) := by decide +kernel
theorem d_Ears_onlySong_14 : decode y_Ears_onlySong.2.1 14 = .ok (.getfield 28, 3) := by decide +kernel
theorem d_Ears_onlySong_17 : decode y_Ears_onlySong.2.1 17 = .ok (.iload_n 2, 1) := by decide +kernel
theorem d_Ears_onlySong_18 : decode y_Ears_onlySong.2.1 18 = .ok (.baload, 1) := by decide +kernel
theorem d_Ears_onlySong_19 : decode y_Ears_onlySong.2.1 19 = .ok (.ifCond .eq 24, 3) := by decide +kernel
theorem d_Ears_onlySong_22 : decode y_Ears_onlySong.2.1 22 = .ok (.iload_n 1, 1) := by decide +kernel
theorem d_Ears_onlySong_23 : decode y_Ears_onlySong.2.1 23 = .ok (.iconst (-1), 1) := by decide +kernel
theorem d_Ears_onlySong_24 : decode y_Ears_onlySong.2.1 24 = .ok (.if_icmp .eq 14, 3) := by decide +kernel
theorem d_Ears_onlySong_27 : decode y_Ears_onlySong.2.1 27 = .ok (.iload_n 1, 1) := by decide +kernel
theorem d_Ears_onlySong_28 : decode y_Ears_onlySong.2.1 28 = .ok (.iload_n 2, 1) := by decide +kernel
theorem d_Ears_onlySong_29 : decode y_Ears_onlySong.2.1 29 = .ok (.bipush 10, 2) := by decide +kernel
theorem d_Ears_onlySong_31 : decode y_Ears_onlySong.2.1 31 = .ok (.idiv, 1) := by decide +kernel
theorem d_Ears_onlySong_32 : decode y_Ears_onlySong.2.1 32 = .ok (.if_icmp .eq 6, 3) := by decide +kernel
theorem d_Ears_onlySong_35 : decode y_Ears_onlySong.2.1 35 = .ok (.bipush (-2), 2) := by decide +kernel
theorem d_Ears_onlySong_37 : decode y_Ears_onlySong.2.1 37 = .ok (.ireturn, 1) := by decide +kernel
theorem d_Ears_onlySong_38 : decode y_Ears_onlySong.2.1 38 = .ok (.iload_n 2, 1) := by decide +kernel
theorem d_Ears_onlySong_39 : decode y_Ears_onlySong.2.1 39 = .ok (.bipush 10, 2) := by decide +kernel
theorem d_Ears_onlySong_41 : decode y_Ears_onlySong.2.1 41 = .ok (.idiv, 1) := by decide +kernel
theorem d_Ears_onlySong_42 : decode y_Ears_onlySong.2.1 42 = .ok (.istore_n 1, 1) := by decide +kernel
theorem d_Ears_onlySong_43 : decode y_Ears_onlySong.2.1 43 = .ok (.iinc 2 1, 3) := by decide +kernel
theorem d_Ears_onlySong_46 : decode y_Ears_onlySong.2.1 46 = .ok (.goto (-42), 3) := by decide +kernel
theorem d_Ears_onlySong_49 : decode y_Ears_onlySong.2.1 49 = .ok (.iload_n 1, 1) := by decide +kernel
theorem d_Ears_onlySong_50 : decode y_Ears_onlySong.2.1 50 = .ok (.ireturn, 1) := by decide +kernel

abbrev y_H_sure : MI := (⟨"CricketHay", "sure", "(I)I"⟩, prog_1_method_38_code, 2, (some .int))
theorem hy_H_sure : y_H_sure.1.cls ≠ "java/lang/invoke/MethodHandle" ∧ y_H_sure.1.cls ≠ "java/lang/invoke/VarHandle" ∧ (parseMethodDescriptor y_H_sure.1.desc).map (fun d => d.parameters.length) = some 1 := by decide +kernel
theorem d_H_sure_0 : decode y_H_sure.2.1 0 = .ok (.aload_n 0, 1) := by decide +kernel
theorem d_H_sure_1 : decode y_H_sure.2.1 1 = .ok (.getfield 60, 3) := by decide +kernel
theorem d_H_sure_4 : decode y_H_sure.2.1 4 = .ok (.aload_n 0, 1) := by decide +kernel
theorem d_H_sure_5 : decode y_H_sure.2.1 5 = .ok (.getfield 19, 3) := by decide +kernel
theorem d_H_sure_8 : decode y_H_sure.2.1 8 = .ok (.aload_n 0, 1) := by decide +kernel
theorem d_H_sure_9 : decode y_H_sure.2.1 9 = .ok (.getfield 29, 3) := by decide +kernel
theorem d_H_sure_12 : decode y_H_sure.2.1 12 = .ok (.iload_n 1, 1) := by decide +kernel
theorem d_H_sure_13 : decode y_H_sure.2.1 13 = .ok (.invokevirtual 305, 3) := by decide +kernel
theorem d_H_sure_16 : decode y_H_sure.2.1 16 = .ok (.pop, 1) := by decide +kernel
theorem d_H_sure_17 : decode y_H_sure.2.1 17 = .ok (.aload_n 0, 1) := by decide +kernel
theorem d_H_sure_18 : decode y_H_sure.2.1 18 = .ok (.getfield 60, 3) := by decide +kernel
theorem d_H_sure_21 : decode y_H_sure.2.1 21 = .ok (.invokevirtual 309, 3) := by decide +kernel
theorem d_H_sure_24 : decode y_H_sure.2.1 24 = .ok (.ireturn, 1) := by decide +kernel

abbrev y_Ears_leftAtMost : MI := (⟨"CricketHay$Ears", "leftAtMost", "(LCricketHay$Market;II)I"⟩, prog_6_method_10_code, 6, (some .int))
theorem hy_Ears_leftAtMost : y_Ears_leftAtMost.1.cls ≠ "java/lang/invoke/MethodHandle" ∧ y_Ears_leftAtMost.1.cls ≠ "java/lang/invoke/VarHandle" ∧ (parseMethodDescriptor y_Ears_leftAtMost.1.desc).map (fun d => d.parameters.length) = some 3 := by decide +kernel
theorem d_Ears_leftAtMost_0 : decode y_Ears_leftAtMost.2.1 0 = .ok (.iconst 0, 1) := by decide +kernel
theorem d_Ears_leftAtMost_1 : decode y_Ears_leftAtMost.2.1 1 = .ok (.istore 4, 2) := by decide +kernel
theorem d_Ears_leftAtMost_3 : decode y_Ears_leftAtMost.2.1 3 = .ok (.iconst 0, 1) := by decide +kernel
theorem d_Ears_leftAtMost_4 : decode y_Ears_leftAtMost.2.1 4 = .ok (.istore 5, 2) := by decide +kernel
theorem d_Ears_leftAtMost_6 : decode y_Ears_leftAtMost.2.1 6 = .ok (.iload 5, 2) := by decide +kernel
theorem d_Ears_leftAtMost_8 : decode y_Ears_leftAtMost.2.1 8 = .ok (.aload_n 0, 1) := by decide +kernel
theorem d_Ears_leftAtMost_9 : decode y_Ears_leftAtMost.2.1 9 = .ok (.getfield 28, 3) := by decide +kernel
theorem d_Ears_leftAtMost_12 : decode y_Ears_leftAtMost.2.1 12 = .ok (.arraylength, 1) := by decide +kernel
theorem d_Ears_leftAtMost_13 : decode y_Ears_leftAtMost.2.1 13 = .ok (.if_icmp .ge 34, 3) := by decide +kernel
theorem d_Ears_leftAtMost_16 : decode y_Ears_leftAtMost.2.1 16 = .ok (.aload_n 0, 1) := by decide +kernel
theorem d_Ears_leftAtMost_17 : decode y_Ears_leftAtMost.2.1 17 = .ok (.getfield 28, 3) := by decide +kernel
theorem d_Ears_leftAtMost_20 : decode y_Ears_leftAtMost.2.1 20 = .ok (.iload 5, 2) := by decide +kernel
theorem d_Ears_leftAtMost_22 : decode y_Ears_leftAtMost.2.1 22 = .ok (.baload, 1) := by decide +kernel
theorem d_Ears_leftAtMost_23 : decode y_Ears_leftAtMost.2.1 23 = .ok (.ifCond .eq 18, 3) := by decide +kernel
theorem d_Ears_leftAtMost_26 : decode y_Ears_leftAtMost.2.1 26 = .ok (.aload_n 0, 1) := by decide +kernel
theorem d_Ears_leftAtMost_27 : decode y_Ears_leftAtMost.2.1 27 = .ok (.aload_n 1, 1) := by decide +kernel
theorem d_Ears_leftAtMost_28 : decode y_Ears_leftAtMost.2.1 28 = .ok (.iload_n 2, 1) := by decide +kernel
theorem d_Ears_leftAtMost_29 : decode y_Ears_leftAtMost.2.1 29 = .ok (.iload 5, 2) := by decide +kernel
theorem d_Ears_leftAtMost_31 : decode y_Ears_leftAtMost.2.1 31 = .ok (.invokevirtual 72, 3) := by decide +kernel
theorem d_Ears_leftAtMost_34 : decode y_Ears_leftAtMost.2.1 34 = .ok (.iload_n 3, 1) := by decide +kernel
theorem d_Ears_leftAtMost_35 : decode y_Ears_leftAtMost.2.1 35 = .ok (.if_icmp .lt 6, 3) := by decide +kernel
theorem d_Ears_leftAtMost_38 : decode y_Ears_leftAtMost.2.1 38 = .ok (.iinc 4 1, 3) := by decide +kernel
theorem d_Ears_leftAtMost_41 : decode y_Ears_leftAtMost.2.1 41 = .ok (.iinc 5 1, 3) := by decide +kernel
theorem d_Ears_leftAtMost_44 : decode y_Ears_leftAtMost.2.1 44 = .ok (.goto (-38), 3) := by decide +kernel
theorem d_Ears_leftAtMost_47 : decode y_Ears_leftAtMost.2.1 47 = .ok (.iload 4, 2) := by decide +kernel
theorem d_Ears_leftAtMost_49 : decode y_Ears_leftAtMost.2.1 49 = .ok (.aload_n 0, 1) := by decide +kernel
theorem d_Ears_leftAtMost_50 : decode y_Ears_leftAtMost.2.1 50 = .ok (.getfield 41, 3) := by decide +kernel
theorem d_Ears_leftAtMost_53 : decode y_Ears_leftAtMost.2.1 53 = .ok (.iload 4, 2) := by decide +kernel
theorem d_Ears_leftAtMost_55 : decode y_Ears_leftAtMost.2.1 55 = .ok (.isub, 1) := by decide +kernel
theorem d_Ears_leftAtMost_56 : decode y_Ears_leftAtMost.2.1 56 = .ok (.invokestatic 81, 3) := by decide +kernel
theorem d_Ears_leftAtMost_59 : decode y_Ears_leftAtMost.2.1 59 = .ok (.ireturn, 1) := by decide +kernel

abbrev y_H_ask : MI := (⟨"CricketHay", "ask", "(III)I"⟩, prog_1_method_39_code, 8, (some .int))
theorem hy_H_ask : y_H_ask.1.cls ≠ "java/lang/invoke/MethodHandle" ∧ y_H_ask.1.cls ≠ "java/lang/invoke/VarHandle" ∧ (parseMethodDescriptor y_H_ask.1.desc).map (fun d => d.parameters.length) = some 3 := by decide +kernel
theorem d_H_ask_0 : decode y_H_ask.2.1 0 = .ok (.iload_n 1, 1) := by decide +kernel
theorem d_H_ask_1 : decode y_H_ask.2.1 1 = .ok (.iconst 0, 1) := by decide +kernel
theorem d_H_ask_2 : decode y_H_ask.2.1 2 = .ok (.bipush 99, 2) := by decide +kernel
theorem d_H_ask_4 : decode y_H_ask.2.1 4 = .ok (.invokestatic 208, 3) := by decide +kernel
theorem d_H_ask_7 : decode y_H_ask.2.1 7 = .ok (.ifCond .eq 31, 3) := by decide +kernel
theorem d_H_ask_10 : decode y_H_ask.2.1 10 = .ok (.iload_n 2, 1) := by decide +kernel
theorem d_H_ask_11 : decode y_H_ask.2.1 11 = .ok (.iconst 0, 1) := by decide +kernel
theorem d_H_ask_12 : decode y_H_ask.2.1 12 = .ok (.iconst 1, 1) := by decide +kernel
theorem d_H_ask_13 : decode y_H_ask.2.1 13 = .ok (.invokestatic 208, 3) := by decide +kernel
theorem d_H_ask_16 : decode y_H_ask.2.1 16 = .ok (.ifCond .eq 22, 3) := by decide +kernel
theorem d_H_ask_19 : decode y_H_ask.2.1 19 = .ok (.aload_n 0, 1) := by decide +kernel
theorem d_H_ask_20 : decode y_H_ask.2.1 20 = .ok (.getfield 60, 3) := by decide +kernel
theorem d_H_ask_23 : decode y_H_ask.2.1 23 = .ok (.aload_n 0, 1) := by decide +kernel
theorem d_H_ask_24 : decode y_H_ask.2.1 24 = .ok (.getfield 19, 3) := by decide +kernel
theorem d_H_ask_27 : decode y_H_ask.2.1 27 = .ok (.aload_n 0, 1) := by decide +kernel
theorem d_H_ask_28 : decode y_H_ask.2.1 28 = .ok (.getfield 29, 3) := by decide +kernel
theorem d_H_ask_31 : decode y_H_ask.2.1 31 = .ok (.iload_n 3, 1) := by decide +kernel
theorem d_H_ask_32 : decode y_H_ask.2.1 32 = .ok (.invokevirtual 305, 3) := by decide +kernel
theorem d_H_ask_35 : decode y_H_ask.2.1 35 = .ok (.ifCond .ne 5, 3) := by decide +kernel
theorem d_H_ask_38 : decode y_H_ask.2.1 38 = .ok (.iconst (-1), 1) := by decide +kernel
theorem d_H_ask_39 : decode y_H_ask.2.1 39 = .ok (.ireturn, 1) := by decide +kernel
theorem d_H_ask_40 : decode y_H_ask.2.1 40 = .ok (.iconst 0, 1) := by decide +kernel
theorem d_H_ask_41 : decode y_H_ask.2.1 41 = .ok (.istore 4, 2) := by decide +kernel
theorem d_H_ask_43 : decode y_H_ask.2.1 43 = .ok (.aload_n 0, 1) := by decide +kernel
theorem d_H_ask_44 : decode y_H_ask.2.1 44 = .ok (.getfield 60, 3) := by decide +kernel
theorem d_H_ask_47 : decode y_H_ask.2.1 47 = .ok (.aload_n 0, 1) := by decide +kernel
theorem d_H_ask_48 : decode y_H_ask.2.1 48 = .ok (.getfield 19, 3) := by decide +kernel
theorem d_H_ask_51 : decode y_H_ask.2.1 51 = .ok (.iconst 0, 1) := by decide +kernel
theorem d_H_ask_52 : decode y_H_ask.2.1 52 = .ok (.iload_n 1, 1) := by decide +kernel
theorem d_H_ask_53 : decode y_H_ask.2.1 53 = .ok (.invokevirtual 312, 3) := by decide +kernel
theorem d_H_ask_56 : decode y_H_ask.2.1 56 = .ok (.istore 5, 2) := by decide +kernel
theorem d_H_ask_58 : decode y_H_ask.2.1 58 = .ok (.iconst 1, 1) := by decide +kernel
theorem d_H_ask_59 : decode y_H_ask.2.1 59 = .ok (.istore 6, 2) := by decide +kernel
theorem d_H_ask_61 : decode y_H_ask.2.1 61 = .ok (.iload 6, 2) := by decide +kernel
theorem d_H_ask_63 : decode y_H_ask.2.1 63 = .ok (.bipush 40, 2) := by decide +kernel
theorem d_H_ask_65 : decode y_H_ask.2.1 65 = .ok (.if_icmp .gt 40, 3) := by decide +kernel
theorem d_H_ask_68 : decode y_H_ask.2.1 68 = .ok (.aload_n 0, 1) := by decide +kernel
theorem d_H_ask_69 : decode y_H_ask.2.1 69 = .ok (.getfield 60, 3) := by decide +kernel
theorem d_H_ask_72 : decode y_H_ask.2.1 72 = .ok (.aload_n 0, 1) := by decide +kernel
theorem d_H_ask_73 : decode y_H_ask.2.1 73 = .ok (.getfield 19, 3) := by decide +kernel
theorem d_H_ask_76 : decode y_H_ask.2.1 76 = .ok (.iload 6, 2) := by decide +kernel
theorem d_H_ask_78 : decode y_H_ask.2.1 78 = .ok (.iload_n 1, 1) := by decide +kernel
theorem d_H_ask_79 : decode y_H_ask.2.1 79 = .ok (.invokevirtual 312, 3) := by decide +kernel
theorem d_H_ask_82 : decode y_H_ask.2.1 82 = .ok (.istore 7, 2) := by decide +kernel
theorem d_H_ask_84 : decode y_H_ask.2.1 84 = .ok (.iload 7, 2) := by decide +kernel
theorem d_H_ask_86 : decode y_H_ask.2.1 86 = .ok (.iload 5, 2) := by decide +kernel
theorem d_H_ask_88 : decode y_H_ask.2.1 88 = .ok (.if_icmp .ge 11, 3) := by decide +kernel
theorem d_H_ask_91 : decode y_H_ask.2.1 91 = .ok (.iload 7, 2) := by decide +kernel
theorem d_H_ask_93 : decode y_H_ask.2.1 93 = .ok (.istore 5, 2) := by decide +kernel
theorem d_H_ask_95 : decode y_H_ask.2.1 95 = .ok (.iload 6, 2) := by decide +kernel
theorem d_H_ask_97 : decode y_H_ask.2.1 97 = .ok (.istore 4, 2) := by decide +kernel
theorem d_H_ask_99 : decode y_H_ask.2.1 99 = .ok (.iinc 6 1, 3) := by decide +kernel
theorem d_H_ask_102 : decode y_H_ask.2.1 102 = .ok (.goto (-41), 3) := by decide +kernel
theorem d_H_ask_105 : decode y_H_ask.2.1 105 = .ok (.iload_n 2, 1) := by decide +kernel
theorem d_H_ask_106 : decode y_H_ask.2.1 106 = .ok (.ifCond .ne 8, 3) := by decide +kernel
theorem d_H_ask_109 : decode y_H_ask.2.1 109 = .ok (.iload 4, 2) := by decide +kernel
theorem d_H_ask_111 : decode y_H_ask.2.1 111 = .ok (.goto 5, 3) := by decide +kernel
theorem d_H_ask_114 : decode y_H_ask.2.1 114 = .ok (.iload 5, 2) := by decide +kernel
theorem d_H_ask_116 : decode y_H_ask.2.1 116 = .ok (.ireturn, 1) := by decide +kernel

abbrev y_Boxes_keep : MI := (⟨"CricketHay$Boxes", "keep", "(ILCricketHay$Yard;)V"⟩, prog_3_method_3_code, 3, none)
theorem hy_Boxes_keep : y_Boxes_keep.1.cls ≠ "java/lang/invoke/MethodHandle" ∧ y_Boxes_keep.1.cls ≠ "java/lang/invoke/VarHandle" ∧ (parseMethodDescriptor y_Boxes_keep.1.desc).map (fun d => d.parameters.length) = some 2 := by decide +kernel
theorem d_Boxes_keep_0 : decode y_Boxes_keep.2.1 0 = .ok (.aload_n 0, 1) := by decide +kernel
theorem d_Boxes_keep_1 : decode y_Boxes_keep.2.1 1 = .ok (.getfield 11, 3) := by decide +kernel
theorem d_Boxes_keep_4 : decode y_Boxes_keep.2.1 4 = .ok (.iload_n 1, 1) := by decide +kernel
theorem d_Boxes_keep_5 : decode y_Boxes_keep.2.1 5 = .ok (.aaload, 1) := by decide +kernel
theorem d_Boxes_keep_6 : decode y_Boxes_keep.2.1 6 = .ok (.aload_n 2, 1) := by decide +kernel
theorem d_Boxes_keep_7 : decode y_Boxes_keep.2.1 7 = .ok (.invokevirtual 22, 3) := by decide +kernel
theorem d_Boxes_keep_10 : decode y_Boxes_keep.2.1 10 = .ok (.aload_n 0, 1) := by decide +kernel
theorem d_Boxes_keep_11 : decode y_Boxes_keep.2.1 11 = .ok (.getfield 17, 3) := by decide +kernel
theorem d_Boxes_keep_14 : decode y_Boxes_keep.2.1 14 = .ok (.iload_n 1, 1) := by decide +kernel
theorem d_Boxes_keep_15 : decode y_Boxes_keep.2.1 15 = .ok (.iconst 1, 1) := by decide +kernel
theorem d_Boxes_keep_16 : decode y_Boxes_keep.2.1 16 = .ok (.bastore, 1) := by decide +kernel
theorem d_Boxes_keep_17 : decode y_Boxes_keep.2.1 17 = .ok (.return_, 1) := by decide +kernel

abbrev y_H_image : MI := (⟨"CricketHay", "image", "(I)I"⟩, prog_1_method_40_code, 2, (some .int))
theorem hy_H_image : y_H_image.1.cls ≠ "java/lang/invoke/MethodHandle" ∧ y_H_image.1.cls ≠ "java/lang/invoke/VarHandle" ∧ (parseMethodDescriptor y_H_image.1.desc).map (fun d => d.parameters.length) = some 1 := by decide +kernel
theorem d_H_image_0 : decode y_H_image.2.1 0 = .ok (.iload_n 1, 1) := by decide +kernel
theorem d_H_image_1 : decode y_H_image.2.1 1 = .ok (.iconst 0, 1) := by decide +kernel
theorem d_H_image_2 : decode y_H_image.2.1 2 = .ok (.iconst 2, 1) := by decide +kernel
theorem d_H_image_3 : decode y_H_image.2.1 3 = .ok (.invokestatic 208, 3) := by decide +kernel
theorem d_H_image_6 : decode y_H_image.2.1 6 = .ok (.ifCond .ne 5, 3) := by decide +kernel
theorem d_H_image_9 : decode y_H_image.2.1 9 = .ok (.iconst (-1), 1) := by decide +kernel
theorem d_H_image_10 : decode y_H_image.2.1 10 = .ok (.ireturn, 1) := by decide +kernel
theorem d_H_image_11 : decode y_H_image.2.1 11 = .ok (.aload_n 0, 1) := by decide +kernel
theorem d_H_image_12 : decode y_H_image.2.1 12 = .ok (.getfield 53, 3) := by decide +kernel
theorem d_H_image_15 : decode y_H_image.2.1 15 = .ok (.iload_n 1, 1) := by decide +kernel
theorem d_H_image_16 : decode y_H_image.2.1 16 = .ok (.aload_n 0, 1) := by decide +kernel
theorem d_H_image_17 : decode y_H_image.2.1 17 = .ok (.getfield 29, 3) := by decide +kernel
theorem d_H_image_20 : decode y_H_image.2.1 20 = .ok (.invokevirtual 316, 3) := by decide +kernel
theorem d_H_image_23 : decode y_H_image.2.1 23 = .ok (.aload_n 0, 1) := by decide +kernel
theorem d_H_image_24 : decode y_H_image.2.1 24 = .ok (.getfield 29, 3) := by decide +kernel
theorem d_H_image_27 : decode y_H_image.2.1 27 = .ok (.getfield 195, 3) := by decide +kernel
theorem d_H_image_30 : decode y_H_image.2.1 30 = .ok (.ireturn, 1) := by decide +kernel

abbrev y_Boxes_giveBack : MI := (⟨"CricketHay$Boxes", "giveBack", "(ILCricketHay$Yard;)Z"⟩, prog_3_method_4_code, 3, (some .boolean))
theorem hy_Boxes_giveBack : y_Boxes_giveBack.1.cls ≠ "java/lang/invoke/MethodHandle" ∧ y_Boxes_giveBack.1.cls ≠ "java/lang/invoke/VarHandle" ∧ (parseMethodDescriptor y_Boxes_giveBack.1.desc).map (fun d => d.parameters.length) = some 2 := by decide +kernel
theorem d_Boxes_giveBack_0 : decode y_Boxes_giveBack.2.1 0 = .ok (.aload_n 0, 1) := by decide +kernel
theorem d_Boxes_giveBack_1 : decode y_Boxes_giveBack.2.1 1 = .ok (.getfield 17, 3) := by decide +kernel
theorem d_Boxes_giveBack_4 : decode y_Boxes_giveBack.2.1 4 = .ok (.iload_n 1, 1) := by decide +kernel
theorem d_Boxes_giveBack_5 : decode y_Boxes_giveBack.2.1 5 = .ok (.baload, 1) := by decide +kernel
theorem d_Boxes_giveBack_6 : decode y_Boxes_giveBack.2.1 6 = .ok (.ifCond .eq 13, 3) := by decide +kernel
theorem d_Boxes_giveBack_9 : decode y_Boxes_giveBack.2.1 9 = .ok (.aload_n 2, 1) := by decide +kernel
theorem d_Boxes_giveBack_10 : decode y_Boxes_giveBack.2.1 10 = .ok (.aload_n 0, 1) := by decide +kernel
theorem d_Boxes_giveBack_11 : decode y_Boxes_giveBack.2.1 11 = .ok (.getfield 11, 3) := by decide +kernel
theorem d_Boxes_giveBack_14 : decode y_Boxes_giveBack.2.1 14 = .ok (.iload_n 1, 1) := by decide +kernel
theorem d_Boxes_giveBack_15 : decode y_Boxes_giveBack.2.1 15 = .ok (.aaload, 1) := by decide +kernel
theorem d_Boxes_giveBack_16 : decode y_Boxes_giveBack.2.1 16 = .ok (.invokevirtual 22, 3) := by decide +kernel
theorem d_Boxes_giveBack_19 : decode y_Boxes_giveBack.2.1 19 = .ok (.aload_n 0, 1) := by decide +kernel
theorem d_Boxes_giveBack_20 : decode y_Boxes_giveBack.2.1 20 = .ok (.getfield 17, 3) := by decide +kernel
theorem d_Boxes_giveBack_23 : decode y_Boxes_giveBack.2.1 23 = .ok (.iload_n 1, 1) := by decide +kernel
theorem d_Boxes_giveBack_24 : decode y_Boxes_giveBack.2.1 24 = .ok (.baload, 1) := by decide +kernel
theorem d_Boxes_giveBack_25 : decode y_Boxes_giveBack.2.1 25 = .ok (.ireturn, 1) := by decide +kernel

abbrev y_H_back : MI := (⟨"CricketHay", "back", "(I)I"⟩, prog_1_method_41_code, 2, (some .int))
theorem hy_H_back : y_H_back.1.cls ≠ "java/lang/invoke/MethodHandle" ∧ y_H_back.1.cls ≠ "java/lang/invoke/VarHandle" ∧ (parseMethodDescriptor y_H_back.1.desc).map (fun d => d.parameters.length) = some 1 := by decide +kernel
theorem d_H_back_0 : decode y_H_back.2.1 0 = .ok (.iload_n 1, 1) := by decide +kernel
theorem d_H_back_1 : decode y_H_back.2.1 1 = .ok (.iconst 0, 1) := by decide +kernel
theorem d_H_back_2 : decode y_H_back.2.1 2 = .ok (.iconst 2, 1) := by decide +kernel
theorem d_H_back_3 : decode y_H_back.2.1 3 = .ok (.invokestatic 208, 3) := by decide +kernel
theorem d_H_back_6 : decode y_H_back.2.1 6 = .ok (.ifCond .eq 18, 3) := by decide +kernel
theorem d_H_back_9 : decode y_H_back.2.1 9 = .ok (.aload_n 0, 1) := by decide +kernel
theorem d_H_back_10 : decode y_H_back.2.1 10 = .ok (.getfield 53, 3) := by decide +kernel
theorem d_H_back_13 : decode y_H_back.2.1 13 = .ok (.iload_n 1, 1) := by decide +kernel
theorem d_H_back_14 : decode y_H_back.2.1 14 = .ok (.aload_n 0, 1) := by decide +kernel
theorem d_H_back_15 : decode y_H_back.2.1 15 = .ok (.getfield 29, 3) := by decide +kernel
theorem d_H_back_18 : decode y_H_back.2.1 18 = .ok (.invokevirtual 319, 3) := by decide +kernel
theorem d_H_back_21 : decode y_H_back.2.1 21 = .ok (.ifCond .ne 5, 3) := by decide +kernel
theorem d_H_back_24 : decode y_H_back.2.1 24 = .ok (.iconst (-1), 1) := by decide +kernel
theorem d_H_back_25 : decode y_H_back.2.1 25 = .ok (.ireturn, 1) := by decide +kernel
theorem d_H_back_26 : decode y_H_back.2.1 26 = .ok (.aload_n 0, 1) := by decide +kernel
theorem d_H_back_27 : decode y_H_back.2.1 27 = .ok (.getfield 46, 3) := by decide +kernel
theorem d_H_back_30 : decode y_H_back.2.1 30 = .ok (.invokevirtual 105, 3) := by decide +kernel
theorem d_H_back_33 : decode y_H_back.2.1 33 = .ok (.aload_n 0, 1) := by decide +kernel
theorem d_H_back_34 : decode y_H_back.2.1 34 = .ok (.getfield 29, 3) := by decide +kernel
theorem d_H_back_37 : decode y_H_back.2.1 37 = .ok (.getfield 195, 3) := by decide +kernel
theorem d_H_back_40 : decode y_H_back.2.1 40 = .ok (.ireturn, 1) := by decide +kernel

abbrev y_H_about : MI := (⟨"CricketHay", "about", "(I)I"⟩, prog_1_method_42_code, 2, (some .int))
theorem hy_H_about : y_H_about.1.cls ≠ "java/lang/invoke/MethodHandle" ∧ y_H_about.1.cls ≠ "java/lang/invoke/VarHandle" ∧ (parseMethodDescriptor y_H_about.1.desc).map (fun d => d.parameters.length) = some 1 := by decide +kernel
theorem d_H_about_0 : decode y_H_about.2.1 0 = .ok (.iload_n 1, 1) := by decide +kernel
theorem d_H_about_1 : decode y_H_about.2.1 1 = .ok (.tableswitch 197 0 13 #[71, 79, 87, 95, 103, 111, 119, 127, 135, 143, 151, 159, 167, 189], 71) := by decide +kernel
theorem d_H_about_72 : decode y_H_about.2.1 72 = .ok (.aload_n 0, 1) := by decide +kernel
theorem d_H_about_73 : decode y_H_about.2.1 73 = .ok (.getfield 19, 3) := by decide +kernel
theorem d_H_about_76 : decode y_H_about.2.1 76 = .ok (.getfield 115, 3) := by decide +kernel
theorem d_H_about_79 : decode y_H_about.2.1 79 = .ok (.ireturn, 1) := by decide +kernel
theorem d_H_about_80 : decode y_H_about.2.1 80 = .ok (.aload_n 0, 1) := by decide +kernel
theorem d_H_about_81 : decode y_H_about.2.1 81 = .ok (.getfield 19, 3) := by decide +kernel
theorem d_H_about_84 : decode y_H_about.2.1 84 = .ok (.getfield 323, 3) := by decide +kernel
theorem d_H_about_87 : decode y_H_about.2.1 87 = .ok (.ireturn, 1) := by decide +kernel
theorem d_H_about_88 : decode y_H_about.2.1 88 = .ok (.aload_n 0, 1) := by decide +kernel
theorem d_H_about_89 : decode y_H_about.2.1 89 = .ok (.getfield 19, 3) := by decide +kernel
theorem d_H_about_92 : decode y_H_about.2.1 92 = .ok (.getfield 185, 3) := by decide +kernel
theorem d_H_about_95 : decode y_H_about.2.1 95 = .ok (.ireturn, 1) := by decide +kernel
theorem d_H_about_96 : decode y_H_about.2.1 96 = .ok (.aload_n 0, 1) := by decide +kernel
theorem d_H_about_97 : decode y_H_about.2.1 97 = .ok (.getfield 29, 3) := by decide +kernel
theorem d_H_about_100 : decode y_H_about.2.1 100 = .ok (.getfield 192, 3) := by decide +kernel
theorem d_H_about_103 : decode y_H_about.2.1 103 = .ok (.ireturn, 1) := by decide +kernel
theorem d_H_about_104 : decode y_H_about.2.1 104 = .ok (.aload_n 0, 1) := by decide +kernel
theorem d_H_about_105 : decode y_H_about.2.1 105 = .ok (.getfield 29, 3) := by decide +kernel
theorem d_H_about_108 : decode y_H_about.2.1 108 = .ok (.getfield 195, 3) := by decide +kernel
theorem d_H_about_111 : decode y_H_about.2.1 111 = .ok (.ireturn, 1) := by decide +kernel
theorem d_H_about_112 : decode y_H_about.2.1 112 = .ok (.aload_n 0, 1) := by decide +kernel
theorem d_H_about_113 : decode y_H_about.2.1 113 = .ok (.getfield 29, 3) := by decide +kernel
theorem d_H_about_116 : decode y_H_about.2.1 116 = .ok (.getfield 326, 3) := by decide +kernel
theorem d_H_about_119 : decode y_H_about.2.1 119 = .ok (.ireturn, 1) := by decide +kernel
theorem d_H_about_120 : decode y_H_about.2.1 120 = .ok (.aload_n 0, 1) := by decide +kernel
theorem d_H_about_121 : decode y_H_about.2.1 121 = .ok (.getfield 29, 3) := by decide +kernel
theorem d_H_about_124 : decode y_H_about.2.1 124 = .ok (.getfield 329, 3) := by decide +kernel
theorem d_H_about_127 : decode y_H_about.2.1 127 = .ok (.ireturn, 1) := by decide +kernel
theorem d_H_about_128 : decode y_H_about.2.1 128 = .ok (.aload_n 0, 1) := by decide +kernel
theorem d_H_about_129 : decode y_H_about.2.1 129 = .ok (.getfield 46, 3) := by decide +kernel
theorem d_H_about_132 : decode y_H_about.2.1 132 = .ok (.getfield 332, 3) := by decide +kernel
theorem d_H_about_135 : decode y_H_about.2.1 135 = .ok (.ireturn, 1) := by decide +kernel
theorem d_H_about_136 : decode y_H_about.2.1 136 = .ok (.aload_n 0, 1) := by decide +kernel
theorem d_H_about_137 : decode y_H_about.2.1 137 = .ok (.getfield 46, 3) := by decide +kernel
theorem d_H_about_140 : decode y_H_about.2.1 140 = .ok (.getfield 335, 3) := by decide +kernel
theorem d_H_about_143 : decode y_H_about.2.1 143 = .ok (.ireturn, 1) := by decide +kernel
theorem d_H_about_144 : decode y_H_about.2.1 144 = .ok (.aload_n 0, 1) := by decide +kernel
theorem d_H_about_145 : decode y_H_about.2.1 145 = .ok (.getfield 60, 3) := by decide +kernel
theorem d_H_about_148 : decode y_H_about.2.1 148 = .ok (.getfield 338, 3) := by decide +kernel
theorem d_H_about_151 : decode y_H_about.2.1 151 = .ok (.ireturn, 1) := by decide +kernel
theorem d_H_about_152 : decode y_H_about.2.1 152 = .ok (.aload_n 0, 1) := by decide +kernel
theorem d_H_about_153 : decode y_H_about.2.1 153 = .ok (.getfield 60, 3) := by decide +kernel
theorem d_H_about_156 : decode y_H_about.2.1 156 = .ok (.getfield 301, 3) := by decide +kernel
theorem d_H_about_159 : decode y_H_about.2.1 159 = .ok (.ireturn, 1) := by decide +kernel
theorem d_H_about_160 : decode y_H_about.2.1 160 = .ok (.aload_n 0, 1) := by decide +kernel
theorem d_H_about_161 : decode y_H_about.2.1 161 = .ok (.getfield 12, 3) := by decide +kernel
theorem d_H_about_164 : decode y_H_about.2.1 164 = .ok (.getfield 93, 3) := by decide +kernel
theorem d_H_about_167 : decode y_H_about.2.1 167 = .ok (.ireturn, 1) := by decide +kernel
theorem d_H_about_168 : decode y_H_about.2.1 168 = .ok (.aload_n 0, 1) := by decide +kernel
theorem d_H_about_169 : decode y_H_about.2.1 169 = .ok (.getfield 19, 3) := by decide +kernel
theorem d_H_about_172 : decode y_H_about.2.1 172 = .ok (.getfield 339, 3) := by decide +kernel
theorem d_H_about_175 : decode y_H_about.2.1 175 = .ok (.getfield 343, 3) := by decide +kernel
theorem d_H_about_178 : decode y_H_about.2.1 178 = .ok (.aload_n 0, 1) := by decide +kernel
theorem d_H_about_179 : decode y_H_about.2.1 179 = .ok (.getfield 19, 3) := by decide +kernel
theorem d_H_about_182 : decode y_H_about.2.1 182 = .ok (.getfield 348, 3) := by decide +kernel
theorem d_H_about_185 : decode y_H_about.2.1 185 = .ok (.getfield 343, 3) := by decide +kernel
theorem d_H_about_188 : decode y_H_about.2.1 188 = .ok (.iadd, 1) := by decide +kernel
theorem d_H_about_189 : decode y_H_about.2.1 189 = .ok (.ireturn, 1) := by decide +kernel
theorem d_H_about_190 : decode y_H_about.2.1 190 = .ok (.aload_n 0, 1) := by decide +kernel
theorem d_H_about_191 : decode y_H_about.2.1 191 = .ok (.getfield 81, 3) := by decide +kernel
theorem d_H_about_194 : decode y_H_about.2.1 194 = .ok (.getfield 292, 3) := by decide +kernel
theorem d_H_about_197 : decode y_H_about.2.1 197 = .ok (.ireturn, 1) := by decide +kernel
theorem d_H_about_198 : decode y_H_about.2.1 198 = .ok (.iconst (-1), 1) := by decide +kernel
theorem d_H_about_199 : decode y_H_about.2.1 199 = .ok (.ireturn, 1) := by decide +kernel
def f_H_law  (a1 : Int32) (h : AH) : Option (Int32 × AH) :=
  bI (f_H_within a1 (1 : Int32) (3 : Int32) h) fun rq1 hq2 =>
  if ¬ rq1 = 0 then
    gd hq2 0 1 7 fun cq3 =>
    bV (f_Choir_tune cq3 37 hq2) fun hq4 =>
    bI (f_Choir_allPrices a1 hq4) fun rq5 hq6 =>
    bI (f_Choir_allPrices (0 : Int32) hq6) fun rq7 hq8 =>
    some ((rq5 - rq7), hq8)
  else
    some ((-1000000 : Int32), hq2)
set_option maxHeartbeats 2000000 in
theorem ok_H_law {G : AE} {n : Nat} (hn : NN ≤ n)  (a1 : Int32) (h : AH) : OK G n y_H_law (6) φI [.ref 0, .int a1] h (f_H_law a1 h) := by
  refine ok_of (y := y_H_law) (lv0 := [some (.ref 0), some (.int a1)]) (by decide +kernel) (Nat.le_of_ble_eq_true rfl) ⟨rfl, ⟨rfl, trivial⟩⟩ ?_
  rw [f_H_law]
  refine r_iload_n (pc := 0) (i := 1) d_H_law_0 rfl rfl ?_
  refine r_iconst (pc := 1) (v := 1) d_H_law_1 (by rfl) ?_
  refine r_iconst (pc := 2) (v := 3) d_H_law_2 (by rfl) ?_
  refine r_cSi (pc := 3) (st := []) (ok_H_within hn a1 (1 : Int32) (3 : Int32) h) w_817 w_1 w_815 w_816 hy_H_within ⟨Nat.le_of_ble_eq_true rfl, Nat.le_of_ble_eq_true rfl⟩ ⟨Nat.le_of_ble_eq_true rfl, Nat.le_of_ble_eq_true rfl⟩ rfl (Nat.le_of_ble_eq_true rfl) d_H_law_3 (fun rq1 hq2 => ?_)
  refine r_if_ne (pc := 6) (tgt := 12) d_H_law_6 (by rfl) ?_ ?_
  · refine r_aload_n (pc := 12) (i := 0) d_H_law_12 rfl rfl ?_
    refine r_getf (pc := 13) (ci := 11) (k := 5) (C := "CricketHay") (T := F_11) (N := 13) (v := .ref 51) (fun s => Std.k s (lc hn rfl) kq_0) rfl (Nat.le_of_ble_eq_true rfl) rfl w_427 (fun s => vr rfl (Std.r s (lc hn rfl) rq_0_5)) d_H_law_13 ?_
    refine r_aload_n (pc := 16) (i := 0) d_H_law_16 rfl rfl ?_
    refine r_gd (fun cq3 rcq3 kcq3 => ?_)
    refine r_getf (pc := 17) (ci := 11) (k := 1) (C := "CricketHay") (T := F_11) (N := 13) (v := .ref cq3) (fun s => Std.k s (lc hn rfl) kq_0) rfl (Nat.le_of_ble_eq_true rfl) rfl w_423 (fun _ => vr rfl rcq3) d_H_law_17 ?_
    refine r_aload_n (pc := 20) (i := 0) d_H_law_20 rfl rfl ?_
    refine r_getf (pc := 21) (ci := 11) (k := 3) (C := "CricketHay") (T := F_11) (N := 13) (v := .ref 37) (fun s => Std.k s (lc hn rfl) kq_0) rfl (Nat.le_of_ble_eq_true rfl) rfl w_425 (fun s => vr rfl (Std.r s (lc hn rfl) rq_0_3)) d_H_law_21 ?_
    refine r_cVv (pc := 24) (T := F_2) (N := 2) (st := []) (ok_Choir_tune hn cq3 kcq3 37 kq_37 hq2) (fun s => Std.k s (lc hn rfl) kq_51) rfl w_668 w_6 w_665 w_666 w_667 hy_Choir_tune ⟨Nat.le_of_ble_eq_true rfl, Nat.le_of_ble_eq_true rfl⟩ ⟨Nat.le_of_ble_eq_true rfl, Nat.le_of_ble_eq_true rfl⟩ rfl (Nat.le_of_ble_eq_true rfl) d_H_law_24 (fun hq4 => ?_)
    refine r_aload_n (pc := 27) (i := 0) d_H_law_27 rfl rfl ?_
    refine r_getf (pc := 28) (ci := 11) (k := 5) (C := "CricketHay") (T := F_11) (N := 13) (v := .ref 51) (fun s => Std.k s (lc hn rfl) kq_0) rfl (Nat.le_of_ble_eq_true rfl) rfl w_427 (fun s => vr rfl (Std.r s (lc hn rfl) rq_0_5)) d_H_law_28 ?_
    refine r_iload_n (pc := 31) (i := 1) d_H_law_31 rfl rfl ?_
    refine r_cVi (pc := 32) (T := F_2) (N := 2) (st := []) (ok_Choir_allPrices hn a1 hq4) (fun s => Std.k s (lc hn rfl) kq_51) rfl w_887 w_6 w_884 w_885 w_886 hy_Choir_allPrices ⟨Nat.le_of_ble_eq_true rfl, Nat.le_of_ble_eq_true rfl⟩ ⟨Nat.le_of_ble_eq_true rfl, Nat.le_of_ble_eq_true rfl⟩ rfl (Nat.le_of_ble_eq_true rfl) d_H_law_32 (fun rq5 hq6 => ?_)
    refine r_aload_n (pc := 35) (i := 0) d_H_law_35 rfl rfl ?_
    refine r_getf (pc := 36) (ci := 11) (k := 5) (C := "CricketHay") (T := F_11) (N := 13) (v := .ref 51) (fun s => Std.k s (lc hn rfl) kq_0) rfl (Nat.le_of_ble_eq_true rfl) rfl w_427 (fun s => vr rfl (Std.r s (lc hn rfl) rq_0_5)) d_H_law_36 ?_
    refine r_iconst (pc := 39) (v := 0) d_H_law_39 (by rfl) ?_
    refine r_cVi (pc := 40) (T := F_2) (N := 2) (st := [.int rq5]) (ok_Choir_allPrices hn (0 : Int32) hq6) (fun s => Std.k s (lc hn rfl) kq_51) rfl w_887 w_6 w_884 w_885 w_886 hy_Choir_allPrices ⟨Nat.le_of_ble_eq_true rfl, Nat.le_of_ble_eq_true rfl⟩ ⟨Nat.le_of_ble_eq_true rfl, Nat.le_of_ble_eq_true rfl⟩ rfl (Nat.le_of_ble_eq_true rfl) d_H_law_40 (fun rq7 hq8 => ?_)
    refine r_isub (pc := 43) d_H_law_43 ?_
    exact r_iret (pc := 44) rfl d_H_law_44
  · refine r_ldc (pc := 9) w_883 d_H_law_9 ?_
    exact r_iret (pc := 11) rfl d_H_law_11

def f_Yard_songsThere_l4  (t : Nat) (a1 : Nat)  : Nat → Int32 → Int32 → AH → Option (Int32 × AH)
  | 0, _, _, _ => none
  | n + 1, x2, x3, h =>
    if (hI h a1 11) ≤ x3 then
      some (x2, h)
    else
      gx x3 6 <|
      if ¬ (hI h (t + 6) (ix x3)) = 0 then
        lt (x3 + (1 : Int32)) fun xq2 =>
        f_Yard_songsThere_l4 t a1 n x2 xq2 h
      else
        gx x3 6 <|
        lt (x2 ||| ((1 : Int32) <<< ((hI h (a1 + 4) (ix x3)) &&& 31))) fun xq4 =>
        lt (x3 + (1 : Int32)) fun xq5 =>
        f_Yard_songsThere_l4 t a1 n xq4 xq5 h
set_option maxHeartbeats 2000000 in
theorem o_Yard_songsThere_l4 {G : AE} {n : Nat} (hn : NN ≤ n)  {t : Nat} {a1 : Nat} (ht : kdF t = .inr 10) (ha1 : kdF a1 = .inr 7)  : ∀ (n0 : Nat) (x2 : Int32) (x3 : Int32) (h : AH), AJ G n y_Yard_songsThere (1) φI 4 [some (.ref t), some (.ref a1), some (.int x2), some (.int x3)] [] h (f_Yard_songsThere_l4 t a1 n0 x2 x3 h) := by
  intro n0
  induction n0 with
  | zero => intros; exact r_none
  | succ n0 ih =>
    intro x2 x3 h
    rw [f_Yard_songsThere_l4]
    refine r_iload_n (pc := 4) (i := 3) d_Yard_songsThere_4 rfl rfl ?_
    refine r_aload_n (pc := 5) (i := 1) d_Yard_songsThere_5 rfl rfl ?_
    refine r_getf (pc := 6) (ci := 7) (k := 11) (C := "CricketHay$Market") (T := F_7) (N := 16) (v := .int (hI h a1 11)) (fun s => Std.k s (ltn (cm hn) (kl_M ha1)) ha1) rfl (Nat.le_of_ble_eq_true rfl) rfl w_156 (fun _ => rfl) d_Yard_songsThere_6 ?_
    refine r_icmp_ge (pc := 9) (tgt := 38) d_Yard_songsThere_9 (by rfl) ?_ ?_
    · refine r_iload_n (pc := 38) (i := 2) d_Yard_songsThere_38 rfl rfl ?_
      exact r_iret (pc := 39) rfl d_Yard_songsThere_39
    · refine r_aload_n (pc := 12) (i := 0) d_Yard_songsThere_12 rfl rfl ?_
      refine r_getf (pc := 13) (ci := 10) (k := 5) (C := "CricketHay$Yard") (T := F_10) (N := 10) (v := .ref (t + 6)) (fun s => Std.k s (ltn (cm hn) (kl_Y ht)) ht) rfl (Nat.le_of_ble_eq_true rfl) rfl w_224 (fun s => vr rfl (Std.r s (ltn (cm hn) (kl_Y ht)) (rr_Y_5 ht))) d_Yard_songsThere_13 ?_
      refine r_iload_n (pc := 16) (i := 3) d_Yard_songsThere_16 rfl rfl ?_
      refine r_gx (fun zq1 => ?_)
      refine r_iald (pc := 17) (n := 6) (i0 := (ix x3)) (fun s => Std.k s (ltn (cm hn) (kj_Y_5 ht)) (kk_Y_5 ht)) zq1 rfl d_Yard_songsThere_17 ?_
      refine r_if_ne (pc := 18) (tgt := 32) d_Yard_songsThere_18 (by rfl) ?_ ?_
      · refine r_ltE (fun xq2 exq2 => ?_)
        refine r_iinc (pc := 32) (v := xq2) (lv1 := [some (.ref t), some (.ref a1), some (.int x2), some (.int xq2)]) d_Yard_songsThere_32 rfl exq2.symm (Nat.le_of_ble_eq_true rfl) rfl ?_
        refine r_goto (pc := 35) (tgt := 4) d_Yard_songsThere_35 (by rfl) ?_
        exact r_wk (ih x2 xq2 h) ⟨rfl, ⟨rfl, ⟨rfl, ⟨rfl, trivial⟩⟩⟩⟩
      · refine r_iload_n (pc := 21) (i := 2) d_Yard_songsThere_21 rfl rfl ?_
        refine r_iconst (pc := 22) (v := 1) d_Yard_songsThere_22 (by rfl) ?_
        refine r_aload_n (pc := 23) (i := 1) d_Yard_songsThere_23 rfl rfl ?_
        refine r_getf (pc := 24) (ci := 7) (k := 3) (C := "CricketHay$Market") (T := F_7) (N := 16) (v := .ref (a1 + 4)) (fun s => Std.k s (ltn (cm hn) (kl_M ha1)) ha1) rfl (Nat.le_of_ble_eq_true rfl) rfl w_126 (fun s => vr rfl (Std.r s (ltn (cm hn) (kl_M ha1)) (rr_M_3 ha1))) d_Yard_songsThere_24 ?_
        refine r_iload_n (pc := 27) (i := 3) d_Yard_songsThere_27 rfl rfl ?_
        refine r_gx (fun zq3 => ?_)
        refine r_iald (pc := 28) (n := 6) (i0 := (ix x3)) (fun s => Std.k s (ltn (cm hn) (kj_M_3 ha1)) (kk_M_3 ha1)) zq3 rfl d_Yard_songsThere_28 ?_
        refine r_ishl (pc := 29) d_Yard_songsThere_29 ?_
        refine r_ior (pc := 30) d_Yard_songsThere_30 ?_
        refine r_ltI (fun xq4 => ?_)
        refine r_istore_n (pc := 31) (i := 2) (lv1 := [some (.ref t), some (.ref a1), some (.int xq4), some (.int x3)]) d_Yard_songsThere_31 rfl (Nat.le_of_ble_eq_true rfl) rfl ?_
        refine r_ltE (fun xq5 exq5 => ?_)
        refine r_iinc (pc := 32) (v := xq5) (lv1 := [some (.ref t), some (.ref a1), some (.int xq4), some (.int xq5)]) d_Yard_songsThere_32 rfl exq5.symm (Nat.le_of_ble_eq_true rfl) rfl ?_
        refine r_goto (pc := 35) (tgt := 4) d_Yard_songsThere_35 (by rfl) ?_
        exact r_wk (ih xq4 xq5 h) ⟨rfl, ⟨rfl, ⟨rfl, ⟨rfl, trivial⟩⟩⟩⟩
def f_Yard_songsThere  (t : Nat) (a1 : Nat) (h : AH) : Option (Int32 × AH) :=
  f_Yard_songsThere_l4 t a1 FU (0 : Int32) (0 : Int32) h
set_option maxHeartbeats 2000000 in
theorem ok_Yard_songsThere {G : AE} {n : Nat} (hn : NN ≤ n)  (t : Nat) (ht : kdF t = .inr 10) (a1 : Nat) (ha1 : kdF a1 = .inr 7) (h : AH) : OK G n y_Yard_songsThere (1) φI [.ref t, .ref a1] h (f_Yard_songsThere t a1 h) := by
  refine ok_of (y := y_Yard_songsThere) (lv0 := [some (.ref t), some (.ref a1), none, none]) (by decide +kernel) (Nat.le_of_ble_eq_true rfl) ⟨rfl, ⟨rfl, trivial⟩⟩ ?_
  rw [f_Yard_songsThere]
  refine r_iconst (pc := 0) (v := 0) d_Yard_songsThere_0 (by rfl) ?_
  refine r_istore_n (pc := 1) (i := 2) (lv1 := [some (.ref t), some (.ref a1), some (.int (0 : Int32)), none]) d_Yard_songsThere_1 rfl (Nat.le_of_ble_eq_true rfl) rfl ?_
  refine r_iconst (pc := 2) (v := 0) d_Yard_songsThere_2 (by rfl) ?_
  refine r_istore_n (pc := 3) (i := 3) (lv1 := [some (.ref t), some (.ref a1), some (.int (0 : Int32)), some (.int (0 : Int32))]) d_Yard_songsThere_3 rfl (Nat.le_of_ble_eq_true rfl) rfl ?_
  exact r_wk (o_Yard_songsThere_l4 hn ht ha1 FU (0 : Int32) (0 : Int32) h) ⟨rfl, ⟨rfl, ⟨rfl, ⟨rfl, trivial⟩⟩⟩⟩

def f_Mating_sums_l4  (a0 : Int32)  : Nat → Int32 → Int32 → AH → Option (Int32 × AH)
  | 0, _, _, _ => none
  | n + 1, x1, x2, h =>
    if (10 : Int32) ≤ x2 then
      some (x1, h)
    else
      if ((a0 >>> (x2 &&& 31)) &&& (1 : Int32)) = 0 then
        lt (x2 + (1 : Int32)) fun xq1 =>
        f_Mating_sums_l4 a0 n x1 xq1 h
      else
        lt (x1 ||| (((a0 <<< (x2 &&& 31)) ||| (a0 >>> (((10 : Int32) - x2) &&& 31))) &&& (1023 : Int32))) fun xq2 =>
        lt (x2 + (1 : Int32)) fun xq3 =>
        f_Mating_sums_l4 a0 n xq2 xq3 h
set_option maxHeartbeats 2000000 in
theorem o_Mating_sums_l4 {G : AE} {n : Nat} (hn : NN ≤ n)  {a0 : Int32}   : ∀ (n0 : Nat) (x1 : Int32) (x2 : Int32) (h : AH), AJ G n y_Mating_sums (1) φI 4 [some (.int a0), some (.int x1), some (.int x2)] [] h (f_Mating_sums_l4 a0 n0 x1 x2 h) := by
  intro n0
  induction n0 with
  | zero => intros; exact r_none
  | succ n0 ih =>
    intro x1 x2 h
    rw [f_Mating_sums_l4]
    refine r_iload_n (pc := 4) (i := 2) d_Mating_sums_4 rfl rfl ?_
    refine r_bipush (pc := 5) (v := 10) d_Mating_sums_5 (by rfl) ?_
    refine r_icmp_ge (pc := 7) (tgt := 41) d_Mating_sums_7 (by rfl) ?_ ?_
    · refine r_iload_n (pc := 41) (i := 1) d_Mating_sums_41 rfl rfl ?_
      exact r_iret (pc := 42) rfl d_Mating_sums_42
    · refine r_iload_n (pc := 10) (i := 0) d_Mating_sums_10 rfl rfl ?_
      refine r_iload_n (pc := 11) (i := 2) d_Mating_sums_11 rfl rfl ?_
      refine r_ishr (pc := 12) d_Mating_sums_12 ?_
      refine r_iconst (pc := 13) (v := 1) d_Mating_sums_13 (by rfl) ?_
      refine r_iand (pc := 14) d_Mating_sums_14 ?_
      refine r_if_eq (pc := 15) (tgt := 35) d_Mating_sums_15 (by rfl) ?_ ?_
      · refine r_ltE (fun xq1 exq1 => ?_)
        refine r_iinc (pc := 35) (v := xq1) (lv1 := [some (.int a0), some (.int x1), some (.int xq1)]) d_Mating_sums_35 rfl exq1.symm (Nat.le_of_ble_eq_true rfl) rfl ?_
        refine r_goto (pc := 38) (tgt := 4) d_Mating_sums_38 (by rfl) ?_
        exact r_wk (ih x1 xq1 h) ⟨rfl, ⟨rfl, ⟨rfl, trivial⟩⟩⟩
      · refine r_iload_n (pc := 18) (i := 1) d_Mating_sums_18 rfl rfl ?_
        refine r_iload_n (pc := 19) (i := 0) d_Mating_sums_19 rfl rfl ?_
        refine r_iload_n (pc := 20) (i := 2) d_Mating_sums_20 rfl rfl ?_
        refine r_ishl (pc := 21) d_Mating_sums_21 ?_
        refine r_iload_n (pc := 22) (i := 0) d_Mating_sums_22 rfl rfl ?_
        refine r_bipush (pc := 23) (v := 10) d_Mating_sums_23 (by rfl) ?_
        refine r_iload_n (pc := 25) (i := 2) d_Mating_sums_25 rfl rfl ?_
        refine r_isub (pc := 26) d_Mating_sums_26 ?_
        refine r_ishr (pc := 27) d_Mating_sums_27 ?_
        refine r_ior (pc := 28) d_Mating_sums_28 ?_
        refine r_sipush (pc := 29) (v := 1023) d_Mating_sums_29 (by rfl) ?_
        refine r_iand (pc := 32) d_Mating_sums_32 ?_
        refine r_ior (pc := 33) d_Mating_sums_33 ?_
        refine r_ltI (fun xq2 => ?_)
        refine r_istore_n (pc := 34) (i := 1) (lv1 := [some (.int a0), some (.int xq2), some (.int x2)]) d_Mating_sums_34 rfl (Nat.le_of_ble_eq_true rfl) rfl ?_
        refine r_ltE (fun xq3 exq3 => ?_)
        refine r_iinc (pc := 35) (v := xq3) (lv1 := [some (.int a0), some (.int xq2), some (.int xq3)]) d_Mating_sums_35 rfl exq3.symm (Nat.le_of_ble_eq_true rfl) rfl ?_
        refine r_goto (pc := 38) (tgt := 4) d_Mating_sums_38 (by rfl) ?_
        exact r_wk (ih xq2 xq3 h) ⟨rfl, ⟨rfl, ⟨rfl, trivial⟩⟩⟩
def f_Mating_sums  (a0 : Int32) (h : AH) : Option (Int32 × AH) :=
  f_Mating_sums_l4 a0 FU (0 : Int32) (0 : Int32) h
set_option maxHeartbeats 2000000 in
theorem ok_Mating_sums {G : AE} {n : Nat} (hn : NN ≤ n)  (a0 : Int32) (h : AH) : OK G n y_Mating_sums (1) φI [.int a0] h (f_Mating_sums a0 h) := by
  refine ok_of (y := y_Mating_sums) (lv0 := [some (.int a0), none, none]) (by decide +kernel) (Nat.le_of_ble_eq_true rfl) ⟨rfl, trivial⟩ ?_
  rw [f_Mating_sums]
  refine r_iconst (pc := 0) (v := 0) d_Mating_sums_0 (by rfl) ?_
  refine r_istore_n (pc := 1) (i := 1) (lv1 := [some (.int a0), some (.int (0 : Int32)), none]) d_Mating_sums_1 rfl (Nat.le_of_ble_eq_true rfl) rfl ?_
  refine r_iconst (pc := 2) (v := 0) d_Mating_sums_2 (by rfl) ?_
  refine r_istore_n (pc := 3) (i := 2) (lv1 := [some (.int a0), some (.int (0 : Int32)), some (.int (0 : Int32))]) d_Mating_sums_3 rfl (Nat.le_of_ble_eq_true rfl) rfl ?_
  exact r_wk (o_Mating_sums_l4 hn FU (0 : Int32) (0 : Int32) h) ⟨rfl, ⟨rfl, ⟨rfl, trivial⟩⟩⟩

def f_Mating_breed_l56  (a1 : Int32) (k32 : Int32 → AH → Option AH) : Nat → Int32 → Int32 → Int32 → AH → Option AH
  | 0, _, _, _, _ => none
  | n + 1, x2, x3, x4, h =>
    if (10 : Int32) ≤ x4 then
      lt (x2 + (1 : Int32)) fun xq1 =>
      k32 xq1 h
    else
      if ((x3 >>> (x4 &&& 31)) &&& (1 : Int32)) = 0 then
        lt (x4 + (1 : Int32)) fun xq2 =>
        f_Mating_breed_l56 a1 k32 n x2 x3 xq2 h
      else
        gx (x2 ||| ((1 : Int32) <<< (x4 &&& 31))) 1024 <|
        lt (sI h 375 (ix (x2 ||| ((1 : Int32) <<< (x4 &&& 31)))) (1 : Int32)) fun hq4 =>
        lt (x4 + (1 : Int32)) fun xq5 =>
        f_Mating_breed_l56 a1 k32 n x2 x3 xq5 hq4
set_option maxHeartbeats 2000000 in
theorem o_Mating_breed_l56 {G : AE} {n : Nat} (hn : NN ≤ n)  {a1 : Int32}  {k32 : Int32 → AH → Option AH} (hk32 : ∀ (x2 : Int32) (h : AH), AJ G n y_Mating_breed (2) φV 32 [some (.ref 374), none, some (.int x2), none, none] [] h (k32 x2 h)) : ∀ (n0 : Nat) (x2 : Int32) (x3 : Int32) (x4 : Int32) (h : AH), AJ G n y_Mating_breed (2) φV 56 [some (.ref 374), none, some (.int x2), some (.int x3), some (.int x4)] [] h (f_Mating_breed_l56 a1 k32 n0 x2 x3 x4 h) := by
  intro n0
  induction n0 with
  | zero => intros; exact r_none
  | succ n0 ih =>
    intro x2 x3 x4 h
    rw [f_Mating_breed_l56]
    refine r_iload (pc := 56) d_Mating_breed_56 rfl ?_
    refine r_bipush (pc := 58) (v := 10) d_Mating_breed_58 (by rfl) ?_
    refine r_icmp_ge (pc := 60) (tgt := 90) d_Mating_breed_60 (by rfl) ?_ ?_
    · refine r_ltE (fun xq1 exq1 => ?_)
      refine r_iinc (pc := 90) (v := xq1) (lv1 := [some (.ref 374), none, some (.int xq1), some (.int x3), some (.int x4)]) d_Mating_breed_90 rfl exq1.symm (Nat.le_of_ble_eq_true rfl) rfl ?_
      refine r_goto (pc := 93) (tgt := 32) d_Mating_breed_93 (by rfl) ?_
      exact r_wk (hk32 xq1 h) ⟨rfl, ⟨rfl, trivial⟩⟩
    · refine r_iload_n (pc := 63) (i := 3) d_Mating_breed_63 rfl rfl ?_
      refine r_iload (pc := 64) d_Mating_breed_64 rfl ?_
      refine r_ishr (pc := 66) d_Mating_breed_66 ?_
      refine r_iconst (pc := 67) (v := 1) d_Mating_breed_67 (by rfl) ?_
      refine r_iand (pc := 68) d_Mating_breed_68 ?_
      refine r_if_eq (pc := 69) (tgt := 84) d_Mating_breed_69 (by rfl) ?_ ?_
      · refine r_ltE (fun xq2 exq2 => ?_)
        refine r_iinc (pc := 84) (v := xq2) (lv1 := [some (.ref 374), none, some (.int x2), some (.int x3), some (.int xq2)]) d_Mating_breed_84 rfl exq2.symm (Nat.le_of_ble_eq_true rfl) rfl ?_
        refine r_goto (pc := 87) (tgt := 56) d_Mating_breed_87 (by rfl) ?_
        exact r_wk (ih x2 x3 xq2 h) ⟨rfl, ⟨rfl, ⟨rfl, ⟨rfl, trivial⟩⟩⟩⟩
      · refine r_aload_n (pc := 72) (i := 0) d_Mating_breed_72 rfl rfl ?_
        refine r_getf (pc := 73) (ci := 8) (k := 0) (C := "CricketHay$Mating") (T := F_8) (N := 2) (v := .ref 375) (fun s => Std.k s (lc hn rfl) kq_374) rfl (Nat.le_of_ble_eq_true rfl) rfl w_362 (fun s => vr rfl (Std.r s (lc hn rfl) rq_374_0)) d_Mating_breed_73 ?_
        refine r_iload_n (pc := 76) (i := 2) d_Mating_breed_76 rfl rfl ?_
        refine r_iconst (pc := 77) (v := 1) d_Mating_breed_77 (by rfl) ?_
        refine r_iload (pc := 78) d_Mating_breed_78 rfl ?_
        refine r_ishl (pc := 80) d_Mating_breed_80 ?_
        refine r_ior (pc := 81) d_Mating_breed_81 ?_
        refine r_iconst (pc := 82) (v := 1) d_Mating_breed_82 (by rfl) ?_
        refine r_gx (fun zq3 => ?_)
        refine r_iast (pc := 83) (n := 1024) (i0 := (ix (x2 ||| ((1 : Int32) <<< (x4 &&& 31))))) (fun s => Std.k s (lc hn rfl) kq_375) zq3 rfl (fun s => Std.sI s _ _ _) d_Mating_breed_83 ?_
        refine r_ltH (fun hq4 => ?_)
        refine r_ltE (fun xq5 exq5 => ?_)
        refine r_iinc (pc := 84) (v := xq5) (lv1 := [some (.ref 374), none, some (.int x2), some (.int x3), some (.int xq5)]) d_Mating_breed_84 rfl exq5.symm (Nat.le_of_ble_eq_true rfl) rfl ?_
        refine r_goto (pc := 87) (tgt := 56) d_Mating_breed_87 (by rfl) ?_
        exact r_wk (ih x2 x3 xq5 hq4) ⟨rfl, ⟨rfl, ⟨rfl, ⟨rfl, trivial⟩⟩⟩⟩
def f_Mating_breed_l32  (a1 : Int32)  : Nat → Int32 → AH → Option AH
  | 0, _, _ => none
  | n + 1, x2, h =>
    if (1023 : Int32) < x2 then
      some h
    else
      gx x2 1024 <|
      if (hI h 375 (ix x2)) = 0 then
        lt (x2 + (1 : Int32)) fun xq2 =>
        f_Mating_breed_l32 a1 n xq2 h
      else
        bI (f_Mating_sums x2 h) fun rq3 hq4 =>
        f_Mating_breed_l56 a1 (f_Mating_breed_l32 a1 n) FU x2 rq3 (0 : Int32) hq4
set_option maxHeartbeats 2000000 in
theorem o_Mating_breed_l32 {G : AE} {n : Nat} (hn : NN ≤ n)  {a1 : Int32}   : ∀ (n0 : Nat) (x2 : Int32) (h : AH), AJ G n y_Mating_breed (2) φV 32 [some (.ref 374), none, some (.int x2), none, none] [] h (f_Mating_breed_l32 a1 n0 x2 h) := by
  intro n0
  induction n0 with
  | zero => intros; exact r_none
  | succ n0 ih =>
    intro x2 h
    rw [f_Mating_breed_l32]
    refine r_iload_n (pc := 32) (i := 2) d_Mating_breed_32 rfl rfl ?_
    refine r_sipush (pc := 33) (v := 1023) d_Mating_breed_33 (by rfl) ?_
    refine r_icmp_gt (pc := 36) (tgt := 96) d_Mating_breed_36 (by rfl) ?_ ?_
    · exact r_vret (pc := 96) rfl d_Mating_breed_96
    · refine r_aload_n (pc := 39) (i := 0) d_Mating_breed_39 rfl rfl ?_
      refine r_getf (pc := 40) (ci := 8) (k := 0) (C := "CricketHay$Mating") (T := F_8) (N := 2) (v := .ref 375) (fun s => Std.k s (lc hn rfl) kq_374) rfl (Nat.le_of_ble_eq_true rfl) rfl w_362 (fun s => vr rfl (Std.r s (lc hn rfl) rq_374_0)) d_Mating_breed_40 ?_
      refine r_iload_n (pc := 43) (i := 2) d_Mating_breed_43 rfl rfl ?_
      refine r_gx (fun zq1 => ?_)
      refine r_iald (pc := 44) (n := 1024) (i0 := (ix x2)) (fun s => Std.k s (lc hn rfl) kq_375) zq1 rfl d_Mating_breed_44 ?_
      refine r_if_eq (pc := 45) (tgt := 90) d_Mating_breed_45 (by rfl) ?_ ?_
      · refine r_ltE (fun xq2 exq2 => ?_)
        refine r_iinc (pc := 90) (v := xq2) (lv1 := [some (.ref 374), none, some (.int xq2), none, none]) d_Mating_breed_90 rfl exq2.symm (Nat.le_of_ble_eq_true rfl) rfl ?_
        refine r_goto (pc := 93) (tgt := 32) d_Mating_breed_93 (by rfl) ?_
        exact r_wk (ih xq2 h) ⟨rfl, ⟨rfl, trivial⟩⟩
      · refine r_iload_n (pc := 48) (i := 2) d_Mating_breed_48 rfl rfl ?_
        refine r_cSi (pc := 49) (st := []) (ok_Mating_sums hn x2 h) w_972 w_10 w_970 w_971 hy_Mating_sums ⟨Nat.le_of_ble_eq_true rfl, Nat.le_of_ble_eq_true rfl⟩ ⟨Nat.le_of_ble_eq_true rfl, Nat.le_of_ble_eq_true rfl⟩ rfl (Nat.le_of_ble_eq_true rfl) d_Mating_breed_49 (fun rq3 hq4 => ?_)
        refine r_istore_n (pc := 52) (i := 3) (lv1 := [some (.ref 374), none, some (.int x2), some (.int rq3), none]) d_Mating_breed_52 rfl (Nat.le_of_ble_eq_true rfl) rfl ?_
        refine r_iconst (pc := 53) (v := 0) d_Mating_breed_53 (by rfl) ?_
        refine r_istore (pc := 54) (lv1 := [some (.ref 374), none, some (.int x2), some (.int rq3), some (.int (0 : Int32))]) d_Mating_breed_54 (Nat.le_of_ble_eq_true rfl) rfl ?_
        exact r_wk (o_Mating_breed_l56 hn ih FU x2 rq3 (0 : Int32) hq4) ⟨rfl, ⟨rfl, ⟨rfl, ⟨rfl, trivial⟩⟩⟩⟩
def f_Mating_breed  (a1 : Int32) (h : AH) : Option AH :=
  lt (sI h 374 1 (a1 &&& (1023 : Int32))) fun hq1 =>
  bV (f_JArrays_fill 375 (0 : Int32) hq1) fun hq2 =>
  gx (hI hq2 374 1) 1024 <|
  lt (sI hq2 375 (ix (hI hq2 374 1)) (1 : Int32)) fun hq4 =>
  lt (hI hq4 374 1) fun xq5 =>
  f_Mating_breed_l32 a1 FU xq5 hq4
set_option maxHeartbeats 2000000 in
theorem ok_Mating_breed {G : AE} {n : Nat} (hn : NN ≤ n)  (a1 : Int32) (h : AH) : OK G n y_Mating_breed (2) φV [.ref 374, .int a1] h (f_Mating_breed a1 h) := by
  refine ok_of (y := y_Mating_breed) (lv0 := [some (.ref 374), some (.int a1), none, none, none]) (by decide +kernel) (Nat.le_of_ble_eq_true rfl) ⟨rfl, ⟨rfl, trivial⟩⟩ ?_
  rw [f_Mating_breed]
  refine r_aload_n (pc := 0) (i := 0) d_Mating_breed_0 rfl rfl ?_
  refine r_iload_n (pc := 1) (i := 1) d_Mating_breed_1 rfl rfl ?_
  refine r_sipush (pc := 2) (v := 1023) d_Mating_breed_2 (by rfl) ?_
  refine r_iand (pc := 5) d_Mating_breed_5 ?_
  refine r_putI (pc := 6) (ci := 8) (k := 1) (C := "CricketHay$Mating") (T := F_8) (N := 2) (fun s => Std.k s (lc hn rfl) kq_374) rfl (Nat.le_of_ble_eq_true rfl) rfl rfl w_363 (fun _ _ => rfl) (fun _ => rfl) (fun _ => rfl) (fun s => Std.sI s _ _ _) d_Mating_breed_6 ?_
  refine r_ltH (fun hq1 => ?_)
  refine r_aload_n (pc := 9) (i := 0) d_Mating_breed_9 rfl rfl ?_
  refine r_getf (pc := 10) (ci := 8) (k := 0) (C := "CricketHay$Mating") (T := F_8) (N := 2) (v := .ref 375) (fun s => Std.k s (lc hn rfl) kq_374) rfl (Nat.le_of_ble_eq_true rfl) rfl w_362 (fun s => vr rfl (Std.r s (lc hn rfl) rq_374_0)) d_Mating_breed_10 ?_
  refine r_iconst (pc := 13) (v := 0) d_Mating_breed_13 (by rfl) ?_
  refine r_cSv (pc := 14) (st := []) (ok_JArrays_fill hn 375 (0 : Int32) hq1) w_790 w_20 w_969 w_789 hy_JArrays_fill ⟨Nat.le_of_ble_eq_true rfl, Nat.le_of_ble_eq_true rfl⟩ ⟨Nat.le_of_ble_eq_true rfl, Nat.le_of_ble_eq_true rfl⟩ rfl (Nat.le_of_ble_eq_true rfl) d_Mating_breed_14 (fun hq2 => ?_)
  refine r_aload_n (pc := 17) (i := 0) d_Mating_breed_17 rfl rfl ?_
  refine r_getf (pc := 18) (ci := 8) (k := 0) (C := "CricketHay$Mating") (T := F_8) (N := 2) (v := .ref 375) (fun s => Std.k s (lc hn rfl) kq_374) rfl (Nat.le_of_ble_eq_true rfl) rfl w_362 (fun s => vr rfl (Std.r s (lc hn rfl) rq_374_0)) d_Mating_breed_18 ?_
  refine r_aload_n (pc := 21) (i := 0) d_Mating_breed_21 rfl rfl ?_
  refine r_getf (pc := 22) (ci := 8) (k := 1) (C := "CricketHay$Mating") (T := F_8) (N := 2) (v := .int (hI hq2 374 1)) (fun s => Std.k s (lc hn rfl) kq_374) rfl (Nat.le_of_ble_eq_true rfl) rfl w_363 (fun _ => rfl) d_Mating_breed_22 ?_
  refine r_iconst (pc := 25) (v := 1) d_Mating_breed_25 (by rfl) ?_
  refine r_gx (fun zq3 => ?_)
  refine r_iast (pc := 26) (n := 1024) (i0 := (ix (hI hq2 374 1))) (fun s => Std.k s (lc hn rfl) kq_375) zq3 rfl (fun s => Std.sI s _ _ _) d_Mating_breed_26 ?_
  refine r_ltH (fun hq4 => ?_)
  refine r_aload_n (pc := 27) (i := 0) d_Mating_breed_27 rfl rfl ?_
  refine r_getf (pc := 28) (ci := 8) (k := 1) (C := "CricketHay$Mating") (T := F_8) (N := 2) (v := .int (hI hq4 374 1)) (fun s => Std.k s (lc hn rfl) kq_374) rfl (Nat.le_of_ble_eq_true rfl) rfl w_363 (fun _ => rfl) d_Mating_breed_28 ?_
  refine r_ltI (fun xq5 => ?_)
  refine r_istore_n (pc := 31) (i := 2) (lv1 := [some (.ref 374), some (.int a1), some (.int xq5), none, none]) d_Mating_breed_31 rfl (Nat.le_of_ble_eq_true rfl) rfl ?_
  exact r_wk (o_Mating_breed_l32 hn FU xq5 hq4) ⟨rfl, ⟨rfl, trivial⟩⟩

def f_JInteger_bitCount  (a0 : Int32) (h : AH) : Option (Int32 × AH) :=
  lt (a0 - ((ushr a0 (1 : Int32)) &&& (1431655765 : Int32))) fun xq1 =>
  lt ((xq1 &&& (858993459 : Int32)) + ((ushr xq1 (2 : Int32)) &&& (858993459 : Int32))) fun xq2 =>
  lt ((xq2 + (ushr xq2 (4 : Int32))) &&& (252645135 : Int32)) fun xq3 =>
  lt (xq3 + (ushr xq3 (8 : Int32))) fun xq4 =>
  lt (xq4 + (ushr xq4 (16 : Int32))) fun xq5 =>
  some ((xq5 &&& (63 : Int32)), h)
set_option maxHeartbeats 2000000 in
theorem ok_JInteger_bitCount {G : AE} {n : Nat} (hn : NN ≤ n)  (a0 : Int32) (h : AH) : OK G n y_JInteger_bitCount (1) φI [.int a0] h (f_JInteger_bitCount a0 h) := by
  refine ok_of (y := y_JInteger_bitCount) (lv0 := [some (.int a0)]) (by decide +kernel) (Nat.le_of_ble_eq_true rfl) ⟨rfl, trivial⟩ ?_
  rw [f_JInteger_bitCount]
  refine r_iload_n (pc := 0) (i := 0) d_JInteger_bitCount_0 rfl rfl ?_
  refine r_iload_n (pc := 1) (i := 0) d_JInteger_bitCount_1 rfl rfl ?_
  refine r_iconst (pc := 2) (v := 1) d_JInteger_bitCount_2 (by rfl) ?_
  refine r_iushr (pc := 3) d_JInteger_bitCount_3 ?_
  refine r_ldcw (pc := 4) w_984 d_JInteger_bitCount_4 ?_
  refine r_iand (pc := 7) d_JInteger_bitCount_7 ?_
  refine r_isub (pc := 8) d_JInteger_bitCount_8 ?_
  refine r_ltI (fun xq1 => ?_)
  refine r_istore_n (pc := 9) (i := 0) (lv1 := [some (.int xq1)]) d_JInteger_bitCount_9 rfl (Nat.le_of_ble_eq_true rfl) rfl ?_
  refine r_iload_n (pc := 10) (i := 0) d_JInteger_bitCount_10 rfl rfl ?_
  refine r_ldcw (pc := 11) w_985 d_JInteger_bitCount_11 ?_
  refine r_iand (pc := 14) d_JInteger_bitCount_14 ?_
  refine r_iload_n (pc := 15) (i := 0) d_JInteger_bitCount_15 rfl rfl ?_
  refine r_iconst (pc := 16) (v := 2) d_JInteger_bitCount_16 (by rfl) ?_
  refine r_iushr (pc := 17) d_JInteger_bitCount_17 ?_
  refine r_ldcw (pc := 18) w_985 d_JInteger_bitCount_18 ?_
  refine r_iand (pc := 21) d_JInteger_bitCount_21 ?_
  refine r_iadd (pc := 22) d_JInteger_bitCount_22 ?_
  refine r_ltI (fun xq2 => ?_)
  refine r_istore_n (pc := 23) (i := 0) (lv1 := [some (.int xq2)]) d_JInteger_bitCount_23 rfl (Nat.le_of_ble_eq_true rfl) rfl ?_
  refine r_iload_n (pc := 24) (i := 0) d_JInteger_bitCount_24 rfl rfl ?_
  refine r_iload_n (pc := 25) (i := 0) d_JInteger_bitCount_25 rfl rfl ?_
  refine r_iconst (pc := 26) (v := 4) d_JInteger_bitCount_26 (by rfl) ?_
  refine r_iushr (pc := 27) d_JInteger_bitCount_27 ?_
  refine r_iadd (pc := 28) d_JInteger_bitCount_28 ?_
  refine r_ldcw (pc := 29) w_986 d_JInteger_bitCount_29 ?_
  refine r_iand (pc := 32) d_JInteger_bitCount_32 ?_
  refine r_ltI (fun xq3 => ?_)
  refine r_istore_n (pc := 33) (i := 0) (lv1 := [some (.int xq3)]) d_JInteger_bitCount_33 rfl (Nat.le_of_ble_eq_true rfl) rfl ?_
  refine r_iload_n (pc := 34) (i := 0) d_JInteger_bitCount_34 rfl rfl ?_
  refine r_iload_n (pc := 35) (i := 0) d_JInteger_bitCount_35 rfl rfl ?_
  refine r_bipush (pc := 36) (v := 8) d_JInteger_bitCount_36 (by rfl) ?_
  refine r_iushr (pc := 38) d_JInteger_bitCount_38 ?_
  refine r_iadd (pc := 39) d_JInteger_bitCount_39 ?_
  refine r_ltI (fun xq4 => ?_)
  refine r_istore_n (pc := 40) (i := 0) (lv1 := [some (.int xq4)]) d_JInteger_bitCount_40 rfl (Nat.le_of_ble_eq_true rfl) rfl ?_
  refine r_iload_n (pc := 41) (i := 0) d_JInteger_bitCount_41 rfl rfl ?_
  refine r_iload_n (pc := 42) (i := 0) d_JInteger_bitCount_42 rfl rfl ?_
  refine r_bipush (pc := 43) (v := 16) d_JInteger_bitCount_43 (by rfl) ?_
  refine r_iushr (pc := 45) d_JInteger_bitCount_45 ?_
  refine r_iadd (pc := 46) d_JInteger_bitCount_46 ?_
  refine r_ltI (fun xq5 => ?_)
  refine r_istore_n (pc := 47) (i := 0) (lv1 := [some (.int xq5)]) d_JInteger_bitCount_47 rfl (Nat.le_of_ble_eq_true rfl) rfl ?_
  refine r_iload_n (pc := 48) (i := 0) d_JInteger_bitCount_48 rfl rfl ?_
  refine r_bipush (pc := 49) (v := 63) d_JInteger_bitCount_49 (by rfl) ?_
  refine r_iand (pc := 51) d_JInteger_bitCount_51 ?_
  exact r_iret (pc := 52) rfl d_JInteger_bitCount_52

def f_Mating_matings  (a1 : Int32) (h : AH) : Option (Int32 × AH) :=
  bI (f_JInteger_bitCount a1 h) fun rq1 hq2 =>
  bI (f_JInteger_bitCount (hI hq2 374 1) hq2) fun rq3 hq4 =>
  some ((rq1 - rq3), hq4)
set_option maxHeartbeats 2000000 in
theorem ok_Mating_matings {G : AE} {n : Nat} (hn : NN ≤ n)  (a1 : Int32) (h : AH) : OK G n y_Mating_matings (2) φI [.ref 374, .int a1] h (f_Mating_matings a1 h) := by
  refine ok_of (y := y_Mating_matings) (lv0 := [some (.ref 374), some (.int a1)]) (by decide +kernel) (Nat.le_of_ble_eq_true rfl) ⟨rfl, ⟨rfl, trivial⟩⟩ ?_
  rw [f_Mating_matings]
  refine r_iload_n (pc := 0) (i := 1) d_Mating_matings_0 rfl rfl ?_
  refine r_cSi (pc := 1) (st := []) (ok_JInteger_bitCount hn a1 h) w_983 w_21 w_981 w_982 hy_JInteger_bitCount ⟨Nat.le_of_ble_eq_true rfl, Nat.le_of_ble_eq_true rfl⟩ ⟨Nat.le_of_ble_eq_true rfl, Nat.le_of_ble_eq_true rfl⟩ rfl (Nat.le_of_ble_eq_true rfl) d_Mating_matings_1 (fun rq1 hq2 => ?_)
  refine r_aload_n (pc := 4) (i := 0) d_Mating_matings_4 rfl rfl ?_
  refine r_getf (pc := 5) (ci := 8) (k := 1) (C := "CricketHay$Mating") (T := F_8) (N := 2) (v := .int (hI hq2 374 1)) (fun s => Std.k s (lc hn rfl) kq_374) rfl (Nat.le_of_ble_eq_true rfl) rfl w_363 (fun _ => rfl) d_Mating_matings_5 ?_
  refine r_cSi (pc := 8) (st := [.int rq1]) (ok_JInteger_bitCount hn (hI hq2 374 1) hq2) w_983 w_21 w_981 w_982 hy_JInteger_bitCount ⟨Nat.le_of_ble_eq_true rfl, Nat.le_of_ble_eq_true rfl⟩ ⟨Nat.le_of_ble_eq_true rfl, Nat.le_of_ble_eq_true rfl⟩ rfl (Nat.le_of_ble_eq_true rfl) d_Mating_matings_8 (fun rq3 hq4 => ?_)
  refine r_isub (pc := 11) d_Mating_matings_11 ?_
  exact r_iret (pc := 12) rfl d_Mating_matings_12

def f_Mating_fewest_b45  (a1 : Int32) (k7 : Int32 → Int32 → AH → Option (Int32 × AH)) (x3 : Int32) (h : AH) : Option (Int32 × AH) :=
  bI (f_Mating_matings x3 h) fun rq1 hq2 =>
  lt (x3 + (1 : Int32)) fun xq3 =>
  k7 rq1 xq3 hq2
set_option maxHeartbeats 2000000 in
theorem o_Mating_fewest_b45 {G : AE} {n : Nat} (hn : NN ≤ n)  {a1 : Int32}  {k7 : Int32 → Int32 → AH → Option (Int32 × AH)} (hk7 : ∀ (x2 : Int32) (x3 : Int32) (h : AH), AJ G n y_Mating_fewest (3) φI 7 [some (.ref 374), some (.int a1), some (.int x2), some (.int x3)] [] h (k7 x2 x3 h)) : ∀ (x3 : Int32) (h : AH), AJ G n y_Mating_fewest (3) φI 45 [some (.ref 374), some (.int a1), none, some (.int x3)] [] h (f_Mating_fewest_b45 a1 k7 x3 h) := by
  intro x3 h
  rw [f_Mating_fewest_b45]
  refine r_aload_n (pc := 45) (i := 0) d_Mating_fewest_45 rfl rfl ?_
  refine r_iload_n (pc := 46) (i := 3) d_Mating_fewest_46 rfl rfl ?_
  refine r_cVi (pc := 47) (T := F_8) (N := 2) (st := []) (ok_Mating_matings hn x3 h) (fun s => Std.k s (lc hn rfl) kq_374) rfl w_980 w_10 w_977 w_979 ws_42 hy_Mating_matings ⟨Nat.le_of_ble_eq_true rfl, Nat.le_of_ble_eq_true rfl⟩ ⟨Nat.le_of_ble_eq_true rfl, Nat.le_of_ble_eq_true rfl⟩ rfl (Nat.le_of_ble_eq_true rfl) d_Mating_fewest_47 (fun rq1 hq2 => ?_)
  refine r_istore_n (pc := 50) (i := 2) (lv1 := [some (.ref 374), some (.int a1), some (.int rq1), some (.int x3)]) d_Mating_fewest_50 rfl (Nat.le_of_ble_eq_true rfl) rfl ?_
  refine r_ltE (fun xq3 exq3 => ?_)
  refine r_iinc (pc := 51) (v := xq3) (lv1 := [some (.ref 374), some (.int a1), some (.int rq1), some (.int xq3)]) d_Mating_fewest_51 rfl exq3.symm (Nat.le_of_ble_eq_true rfl) rfl ?_
  refine r_goto (pc := 54) (tgt := 7) d_Mating_fewest_54 (by rfl) ?_
  exact r_wk (hk7 rq1 xq3 hq2) ⟨rfl, ⟨rfl, ⟨rfl, ⟨rfl, trivial⟩⟩⟩⟩
def f_Mating_fewest_l7  (a1 : Int32)  : Nat → Int32 → Int32 → AH → Option (Int32 × AH)
  | 0, _, _, _ => none
  | n + 1, x2, x3, h =>
    if (1023 : Int32) < x3 then
      some (x2, h)
    else
      gx x3 1024 <|
      if (hI h 375 (ix x3)) = 0 then
        lt (x3 + (1 : Int32)) fun xq2 =>
        f_Mating_fewest_l7 a1 n x2 xq2 h
      else
        if ((x3 >>> (a1 &&& 31)) &&& (1 : Int32)) = 0 then
          lt (x3 + (1 : Int32)) fun xq3 =>
          f_Mating_fewest_l7 a1 n x2 xq3 h
        else
          if x2 = (-1 : Int32) then
            f_Mating_fewest_b45 a1 (f_Mating_fewest_l7 a1 n) x3 h
          else
            bI (f_Mating_matings x3 h) fun rq4 hq5 =>
            if x2 ≤ rq4 then
              lt (x3 + (1 : Int32)) fun xq6 =>
              f_Mating_fewest_l7 a1 n x2 xq6 hq5
            else
              f_Mating_fewest_b45 a1 (f_Mating_fewest_l7 a1 n) x3 hq5
set_option maxHeartbeats 2000000 in
theorem o_Mating_fewest_l7 {G : AE} {n : Nat} (hn : NN ≤ n)  {a1 : Int32}   : ∀ (n0 : Nat) (x2 : Int32) (x3 : Int32) (h : AH), AJ G n y_Mating_fewest (3) φI 7 [some (.ref 374), some (.int a1), some (.int x2), some (.int x3)] [] h (f_Mating_fewest_l7 a1 n0 x2 x3 h) := by
  intro n0
  induction n0 with
  | zero => intros; exact r_none
  | succ n0 ih =>
    intro x2 x3 h
    rw [f_Mating_fewest_l7]
    refine r_iload_n (pc := 7) (i := 3) d_Mating_fewest_7 rfl rfl ?_
    refine r_sipush (pc := 8) (v := 1023) d_Mating_fewest_8 (by rfl) ?_
    refine r_icmp_gt (pc := 11) (tgt := 57) d_Mating_fewest_11 (by rfl) ?_ ?_
    · refine r_iload_n (pc := 57) (i := 2) d_Mating_fewest_57 rfl rfl ?_
      exact r_iret (pc := 58) rfl d_Mating_fewest_58
    · refine r_aload_n (pc := 14) (i := 0) d_Mating_fewest_14 rfl rfl ?_
      refine r_getf (pc := 15) (ci := 8) (k := 0) (C := "CricketHay$Mating") (T := F_8) (N := 2) (v := .ref 375) (fun s => Std.k s (lc hn rfl) kq_374) rfl (Nat.le_of_ble_eq_true rfl) rfl w_362 (fun s => vr rfl (Std.r s (lc hn rfl) rq_374_0)) d_Mating_fewest_15 ?_
      refine r_iload_n (pc := 18) (i := 3) d_Mating_fewest_18 rfl rfl ?_
      refine r_gx (fun zq1 => ?_)
      refine r_iald (pc := 19) (n := 1024) (i0 := (ix x3)) (fun s => Std.k s (lc hn rfl) kq_375) zq1 rfl d_Mating_fewest_19 ?_
      refine r_if_eq (pc := 20) (tgt := 51) d_Mating_fewest_20 (by rfl) ?_ ?_
      · refine r_ltE (fun xq2 exq2 => ?_)
        refine r_iinc (pc := 51) (v := xq2) (lv1 := [some (.ref 374), some (.int a1), some (.int x2), some (.int xq2)]) d_Mating_fewest_51 rfl exq2.symm (Nat.le_of_ble_eq_true rfl) rfl ?_
        refine r_goto (pc := 54) (tgt := 7) d_Mating_fewest_54 (by rfl) ?_
        exact r_wk (ih x2 xq2 h) ⟨rfl, ⟨rfl, ⟨rfl, ⟨rfl, trivial⟩⟩⟩⟩
      · refine r_iload_n (pc := 23) (i := 3) d_Mating_fewest_23 rfl rfl ?_
        refine r_iload_n (pc := 24) (i := 1) d_Mating_fewest_24 rfl rfl ?_
        refine r_ishr (pc := 25) d_Mating_fewest_25 ?_
        refine r_iconst (pc := 26) (v := 1) d_Mating_fewest_26 (by rfl) ?_
        refine r_iand (pc := 27) d_Mating_fewest_27 ?_
        refine r_if_eq (pc := 28) (tgt := 51) d_Mating_fewest_28 (by rfl) ?_ ?_
        · refine r_ltE (fun xq3 exq3 => ?_)
          refine r_iinc (pc := 51) (v := xq3) (lv1 := [some (.ref 374), some (.int a1), some (.int x2), some (.int xq3)]) d_Mating_fewest_51 rfl exq3.symm (Nat.le_of_ble_eq_true rfl) rfl ?_
          refine r_goto (pc := 54) (tgt := 7) d_Mating_fewest_54 (by rfl) ?_
          exact r_wk (ih x2 xq3 h) ⟨rfl, ⟨rfl, ⟨rfl, ⟨rfl, trivial⟩⟩⟩⟩
        · refine r_iload_n (pc := 31) (i := 2) d_Mating_fewest_31 rfl rfl ?_
          refine r_iconst (pc := 32) (v := -1) d_Mating_fewest_32 (by rfl) ?_
          refine r_icmp_eq (pc := 33) (tgt := 45) d_Mating_fewest_33 (by rfl) ?_ ?_
          · exact r_wk (o_Mating_fewest_b45 hn ih x3 h) ⟨rfl, ⟨rfl, ⟨rfl, trivial⟩⟩⟩
          · refine r_aload_n (pc := 36) (i := 0) d_Mating_fewest_36 rfl rfl ?_
            refine r_iload_n (pc := 37) (i := 3) d_Mating_fewest_37 rfl rfl ?_
            refine r_cVi (pc := 38) (T := F_8) (N := 2) (st := []) (ok_Mating_matings hn x3 h) (fun s => Std.k s (lc hn rfl) kq_374) rfl w_980 w_10 w_977 w_979 ws_42 hy_Mating_matings ⟨Nat.le_of_ble_eq_true rfl, Nat.le_of_ble_eq_true rfl⟩ ⟨Nat.le_of_ble_eq_true rfl, Nat.le_of_ble_eq_true rfl⟩ rfl (Nat.le_of_ble_eq_true rfl) d_Mating_fewest_38 (fun rq4 hq5 => ?_)
            refine r_iload_n (pc := 41) (i := 2) d_Mating_fewest_41 rfl rfl ?_
            refine r_icmp_ge (pc := 42) (tgt := 51) d_Mating_fewest_42 (by rfl) ?_ ?_
            · refine r_ltE (fun xq6 exq6 => ?_)
              refine r_iinc (pc := 51) (v := xq6) (lv1 := [some (.ref 374), some (.int a1), some (.int x2), some (.int xq6)]) d_Mating_fewest_51 rfl exq6.symm (Nat.le_of_ble_eq_true rfl) rfl ?_
              refine r_goto (pc := 54) (tgt := 7) d_Mating_fewest_54 (by rfl) ?_
              exact r_wk (ih x2 xq6 hq5) ⟨rfl, ⟨rfl, ⟨rfl, ⟨rfl, trivial⟩⟩⟩⟩
            · exact r_wk (o_Mating_fewest_b45 hn ih x3 hq5) ⟨rfl, ⟨rfl, ⟨rfl, trivial⟩⟩⟩
def f_Mating_fewest  (a1 : Int32) (h : AH) : Option (Int32 × AH) :=
  lt (hI h 374 1) fun xq1 =>
  f_Mating_fewest_l7 a1 FU (-1 : Int32) xq1 h
set_option maxHeartbeats 2000000 in
theorem ok_Mating_fewest {G : AE} {n : Nat} (hn : NN ≤ n)  (a1 : Int32) (h : AH) : OK G n y_Mating_fewest (3) φI [.ref 374, .int a1] h (f_Mating_fewest a1 h) := by
  refine ok_of (y := y_Mating_fewest) (lv0 := [some (.ref 374), some (.int a1), none, none]) (by decide +kernel) (Nat.le_of_ble_eq_true rfl) ⟨rfl, ⟨rfl, trivial⟩⟩ ?_
  rw [f_Mating_fewest]
  refine r_iconst (pc := 0) (v := -1) d_Mating_fewest_0 (by rfl) ?_
  refine r_istore_n (pc := 1) (i := 2) (lv1 := [some (.ref 374), some (.int a1), some (.int (-1 : Int32)), none]) d_Mating_fewest_1 rfl (Nat.le_of_ble_eq_true rfl) rfl ?_
  refine r_aload_n (pc := 2) (i := 0) d_Mating_fewest_2 rfl rfl ?_
  refine r_getf (pc := 3) (ci := 8) (k := 1) (C := "CricketHay$Mating") (T := F_8) (N := 2) (v := .int (hI h 374 1)) (fun s => Std.k s (lc hn rfl) kq_374) rfl (Nat.le_of_ble_eq_true rfl) rfl w_363 (fun _ => rfl) d_Mating_fewest_3 ?_
  refine r_ltI (fun xq1 => ?_)
  refine r_istore_n (pc := 6) (i := 3) (lv1 := [some (.ref 374), some (.int a1), some (.int (-1 : Int32)), some (.int xq1)]) d_Mating_fewest_6 rfl (Nat.le_of_ble_eq_true rfl) rfl ?_
  exact r_wk (o_Mating_fewest_l7 hn FU (-1 : Int32) xq1 h) ⟨rfl, ⟨rfl, ⟨rfl, ⟨rfl, trivial⟩⟩⟩⟩

def f_H_song  (a1 : Int32) (h : AH) : Option (Int32 × AH) :=
  bI (f_H_within a1 (0 : Int32) (9 : Int32) h) fun rq1 hq2 =>
  if ¬ rq1 = 0 then
    gd hq2 0 1 7 fun cq3 =>
    bI (f_Yard_songsThere 37 cq3 hq2) fun rq4 hq5 =>
    bV (f_Mating_breed rq4 hq5) fun hq6 =>
    bI (f_Mating_fewest a1 hq6) fun rq7 hq8 =>
    some (rq7, hq8)
  else
    some ((-1 : Int32), hq2)
set_option maxHeartbeats 2000000 in
theorem ok_H_song {G : AE} {n : Nat} (hn : NN ≤ n)  (a1 : Int32) (h : AH) : OK G n y_H_song (4) φI [.ref 0, .int a1] h (f_H_song a1 h) := by
  refine ok_of (y := y_H_song) (lv0 := [some (.ref 0), some (.int a1)]) (by decide +kernel) (Nat.le_of_ble_eq_true rfl) ⟨rfl, ⟨rfl, trivial⟩⟩ ?_
  rw [f_H_song]
  refine r_iload_n (pc := 0) (i := 1) d_H_song_0 rfl rfl ?_
  refine r_iconst (pc := 1) (v := 0) d_H_song_1 (by rfl) ?_
  refine r_bipush (pc := 2) (v := 9) d_H_song_2 (by rfl) ?_
  refine r_cSi (pc := 4) (st := []) (ok_H_within hn a1 (0 : Int32) (9 : Int32) h) w_817 w_1 w_815 w_816 hy_H_within ⟨Nat.le_of_ble_eq_true rfl, Nat.le_of_ble_eq_true rfl⟩ ⟨Nat.le_of_ble_eq_true rfl, Nat.le_of_ble_eq_true rfl⟩ rfl (Nat.le_of_ble_eq_true rfl) d_H_song_4 (fun rq1 hq2 => ?_)
  refine r_if_ne (pc := 7) (tgt := 12) d_H_song_7 (by rfl) ?_ ?_
  · refine r_aload_n (pc := 12) (i := 0) d_H_song_12 rfl rfl ?_
    refine r_getf (pc := 13) (ci := 11) (k := 9) (C := "CricketHay") (T := F_11) (N := 13) (v := .ref 374) (fun s => Std.k s (lc hn rfl) kq_0) rfl (Nat.le_of_ble_eq_true rfl) rfl w_431 (fun s => vr rfl (Std.r s (lc hn rfl) rq_0_9)) d_H_song_13 ?_
    refine r_aload_n (pc := 16) (i := 0) d_H_song_16 rfl rfl ?_
    refine r_getf (pc := 17) (ci := 11) (k := 3) (C := "CricketHay") (T := F_11) (N := 13) (v := .ref 37) (fun s => Std.k s (lc hn rfl) kq_0) rfl (Nat.le_of_ble_eq_true rfl) rfl w_425 (fun s => vr rfl (Std.r s (lc hn rfl) rq_0_3)) d_H_song_17 ?_
    refine r_aload_n (pc := 20) (i := 0) d_H_song_20 rfl rfl ?_
    refine r_gd (fun cq3 rcq3 kcq3 => ?_)
    refine r_getf (pc := 21) (ci := 11) (k := 1) (C := "CricketHay") (T := F_11) (N := 13) (v := .ref cq3) (fun s => Std.k s (lc hn rfl) kq_0) rfl (Nat.le_of_ble_eq_true rfl) rfl w_423 (fun _ => vr rfl rcq3) d_H_song_21 ?_
    refine r_cVi (pc := 24) (T := F_10) (N := 10) (st := [.ref 374]) (ok_Yard_songsThere hn 37 kq_37 cq3 kcq3 hq2) (fun s => Std.k s (lc hn rfl) kq_37) rfl w_964 w_5 w_961 w_962 w_963 hy_Yard_songsThere ⟨Nat.le_of_ble_eq_true rfl, Nat.le_of_ble_eq_true rfl⟩ ⟨Nat.le_of_ble_eq_true rfl, Nat.le_of_ble_eq_true rfl⟩ rfl (Nat.le_of_ble_eq_true rfl) d_H_song_24 (fun rq4 hq5 => ?_)
    refine r_cVv (pc := 27) (T := F_8) (N := 2) (st := []) (ok_Mating_breed hn rq4 hq5) (fun s => Std.k s (lc hn rfl) kq_374) rfl w_968 w_10 w_965 w_966 w_967 hy_Mating_breed ⟨Nat.le_of_ble_eq_true rfl, Nat.le_of_ble_eq_true rfl⟩ ⟨Nat.le_of_ble_eq_true rfl, Nat.le_of_ble_eq_true rfl⟩ rfl (Nat.le_of_ble_eq_true rfl) d_H_song_27 (fun hq6 => ?_)
    refine r_aload_n (pc := 30) (i := 0) d_H_song_30 rfl rfl ?_
    refine r_getf (pc := 31) (ci := 11) (k := 9) (C := "CricketHay") (T := F_11) (N := 13) (v := .ref 374) (fun s => Std.k s (lc hn rfl) kq_0) rfl (Nat.le_of_ble_eq_true rfl) rfl w_431 (fun s => vr rfl (Std.r s (lc hn rfl) rq_0_9)) d_H_song_31 ?_
    refine r_iload_n (pc := 34) (i := 1) d_H_song_34 rfl rfl ?_
    refine r_cVi (pc := 35) (T := F_8) (N := 2) (st := []) (ok_Mating_fewest hn a1 hq6) (fun s => Std.k s (lc hn rfl) kq_374) rfl w_976 w_10 w_973 w_974 w_975 hy_Mating_fewest ⟨Nat.le_of_ble_eq_true rfl, Nat.le_of_ble_eq_true rfl⟩ ⟨Nat.le_of_ble_eq_true rfl, Nat.le_of_ble_eq_true rfl⟩ rfl (Nat.le_of_ble_eq_true rfl) d_H_song_35 (fun rq7 hq8 => ?_)
    exact r_iret (pc := 38) rfl d_H_song_38
  · refine r_iconst (pc := 10) (v := -1) d_H_song_10 (by rfl) ?_
    exact r_iret (pc := 11) rfl d_H_song_11

def f_Mating_allWithin_l7  (a1 : Int32)  : Nat → Int32 → Int32 → AH → Option (Int32 × AH)
  | 0, _, _, _ => none
  | n + 1, x2, x3, h =>
    if (1023 : Int32) < x3 then
      some (x2, h)
    else
      gx x3 1024 <|
      if (hI h 375 (ix x3)) = 0 then
        lt (x3 + (1 : Int32)) fun xq2 =>
        f_Mating_allWithin_l7 a1 n x2 xq2 h
      else
        bI (f_Mating_matings x3 h) fun rq3 hq4 =>
        if a1 < rq3 then
          lt (x3 + (1 : Int32)) fun xq5 =>
          f_Mating_allWithin_l7 a1 n x2 xq5 hq4
        else
          lt (x2 ||| x3) fun xq6 =>
          lt (x3 + (1 : Int32)) fun xq7 =>
          f_Mating_allWithin_l7 a1 n xq6 xq7 hq4
set_option maxHeartbeats 2000000 in
theorem o_Mating_allWithin_l7 {G : AE} {n : Nat} (hn : NN ≤ n)  {a1 : Int32}   : ∀ (n0 : Nat) (x2 : Int32) (x3 : Int32) (h : AH), AJ G n y_Mating_allWithin (3) φI 7 [some (.ref 374), some (.int a1), some (.int x2), some (.int x3)] [] h (f_Mating_allWithin_l7 a1 n0 x2 x3 h) := by
  intro n0
  induction n0 with
  | zero => intros; exact r_none
  | succ n0 ih =>
    intro x2 x3 h
    rw [f_Mating_allWithin_l7]
    refine r_iload_n (pc := 7) (i := 3) d_Mating_allWithin_7 rfl rfl ?_
    refine r_sipush (pc := 8) (v := 1023) d_Mating_allWithin_8 (by rfl) ?_
    refine r_icmp_gt (pc := 11) (tgt := 42) d_Mating_allWithin_11 (by rfl) ?_ ?_
    · refine r_iload_n (pc := 42) (i := 2) d_Mating_allWithin_42 rfl rfl ?_
      exact r_iret (pc := 43) rfl d_Mating_allWithin_43
    · refine r_aload_n (pc := 14) (i := 0) d_Mating_allWithin_14 rfl rfl ?_
      refine r_getf (pc := 15) (ci := 8) (k := 0) (C := "CricketHay$Mating") (T := F_8) (N := 2) (v := .ref 375) (fun s => Std.k s (lc hn rfl) kq_374) rfl (Nat.le_of_ble_eq_true rfl) rfl w_362 (fun s => vr rfl (Std.r s (lc hn rfl) rq_374_0)) d_Mating_allWithin_15 ?_
      refine r_iload_n (pc := 18) (i := 3) d_Mating_allWithin_18 rfl rfl ?_
      refine r_gx (fun zq1 => ?_)
      refine r_iald (pc := 19) (n := 1024) (i0 := (ix x3)) (fun s => Std.k s (lc hn rfl) kq_375) zq1 rfl d_Mating_allWithin_19 ?_
      refine r_if_eq (pc := 20) (tgt := 36) d_Mating_allWithin_20 (by rfl) ?_ ?_
      · refine r_ltE (fun xq2 exq2 => ?_)
        refine r_iinc (pc := 36) (v := xq2) (lv1 := [some (.ref 374), some (.int a1), some (.int x2), some (.int xq2)]) d_Mating_allWithin_36 rfl exq2.symm (Nat.le_of_ble_eq_true rfl) rfl ?_
        refine r_goto (pc := 39) (tgt := 7) d_Mating_allWithin_39 (by rfl) ?_
        exact r_wk (ih x2 xq2 h) ⟨rfl, ⟨rfl, ⟨rfl, ⟨rfl, trivial⟩⟩⟩⟩
      · refine r_aload_n (pc := 23) (i := 0) d_Mating_allWithin_23 rfl rfl ?_
        refine r_iload_n (pc := 24) (i := 3) d_Mating_allWithin_24 rfl rfl ?_
        refine r_cVi (pc := 25) (T := F_8) (N := 2) (st := []) (ok_Mating_matings hn x3 h) (fun s => Std.k s (lc hn rfl) kq_374) rfl w_980 w_10 w_977 w_979 ws_42 hy_Mating_matings ⟨Nat.le_of_ble_eq_true rfl, Nat.le_of_ble_eq_true rfl⟩ ⟨Nat.le_of_ble_eq_true rfl, Nat.le_of_ble_eq_true rfl⟩ rfl (Nat.le_of_ble_eq_true rfl) d_Mating_allWithin_25 (fun rq3 hq4 => ?_)
        refine r_iload_n (pc := 28) (i := 1) d_Mating_allWithin_28 rfl rfl ?_
        refine r_icmp_gt (pc := 29) (tgt := 36) d_Mating_allWithin_29 (by rfl) ?_ ?_
        · refine r_ltE (fun xq5 exq5 => ?_)
          refine r_iinc (pc := 36) (v := xq5) (lv1 := [some (.ref 374), some (.int a1), some (.int x2), some (.int xq5)]) d_Mating_allWithin_36 rfl exq5.symm (Nat.le_of_ble_eq_true rfl) rfl ?_
          refine r_goto (pc := 39) (tgt := 7) d_Mating_allWithin_39 (by rfl) ?_
          exact r_wk (ih x2 xq5 hq4) ⟨rfl, ⟨rfl, ⟨rfl, ⟨rfl, trivial⟩⟩⟩⟩
        · refine r_iload_n (pc := 32) (i := 2) d_Mating_allWithin_32 rfl rfl ?_
          refine r_iload_n (pc := 33) (i := 3) d_Mating_allWithin_33 rfl rfl ?_
          refine r_ior (pc := 34) d_Mating_allWithin_34 ?_
          refine r_ltI (fun xq6 => ?_)
          refine r_istore_n (pc := 35) (i := 2) (lv1 := [some (.ref 374), some (.int a1), some (.int xq6), some (.int x3)]) d_Mating_allWithin_35 rfl (Nat.le_of_ble_eq_true rfl) rfl ?_
          refine r_ltE (fun xq7 exq7 => ?_)
          refine r_iinc (pc := 36) (v := xq7) (lv1 := [some (.ref 374), some (.int a1), some (.int xq6), some (.int xq7)]) d_Mating_allWithin_36 rfl exq7.symm (Nat.le_of_ble_eq_true rfl) rfl ?_
          refine r_goto (pc := 39) (tgt := 7) d_Mating_allWithin_39 (by rfl) ?_
          exact r_wk (ih xq6 xq7 hq4) ⟨rfl, ⟨rfl, ⟨rfl, ⟨rfl, trivial⟩⟩⟩⟩
def f_Mating_allWithin  (a1 : Int32) (h : AH) : Option (Int32 × AH) :=
  lt (hI h 374 1) fun xq1 =>
  f_Mating_allWithin_l7 a1 FU (0 : Int32) xq1 h
set_option maxHeartbeats 2000000 in
theorem ok_Mating_allWithin {G : AE} {n : Nat} (hn : NN ≤ n)  (a1 : Int32) (h : AH) : OK G n y_Mating_allWithin (3) φI [.ref 374, .int a1] h (f_Mating_allWithin a1 h) := by
  refine ok_of (y := y_Mating_allWithin) (lv0 := [some (.ref 374), some (.int a1), none, none]) (by decide +kernel) (Nat.le_of_ble_eq_true rfl) ⟨rfl, ⟨rfl, trivial⟩⟩ ?_
  rw [f_Mating_allWithin]
  refine r_iconst (pc := 0) (v := 0) d_Mating_allWithin_0 (by rfl) ?_
  refine r_istore_n (pc := 1) (i := 2) (lv1 := [some (.ref 374), some (.int a1), some (.int (0 : Int32)), none]) d_Mating_allWithin_1 rfl (Nat.le_of_ble_eq_true rfl) rfl ?_
  refine r_aload_n (pc := 2) (i := 0) d_Mating_allWithin_2 rfl rfl ?_
  refine r_getf (pc := 3) (ci := 8) (k := 1) (C := "CricketHay$Mating") (T := F_8) (N := 2) (v := .int (hI h 374 1)) (fun s => Std.k s (lc hn rfl) kq_374) rfl (Nat.le_of_ble_eq_true rfl) rfl w_363 (fun _ => rfl) d_Mating_allWithin_3 ?_
  refine r_ltI (fun xq1 => ?_)
  refine r_istore_n (pc := 6) (i := 3) (lv1 := [some (.ref 374), some (.int a1), some (.int (0 : Int32)), some (.int xq1)]) d_Mating_allWithin_6 rfl (Nat.le_of_ble_eq_true rfl) rfl ?_
  exact r_wk (o_Mating_allWithin_l7 hn FU (0 : Int32) xq1 h) ⟨rfl, ⟨rfl, ⟨rfl, ⟨rfl, trivial⟩⟩⟩⟩

def f_H_songs  (a1 : Int32) (h : AH) : Option (Int32 × AH) :=
  bI (f_H_within a1 (0 : Int32) (9 : Int32) h) fun rq1 hq2 =>
  if ¬ rq1 = 0 then
    gd hq2 0 1 7 fun cq3 =>
    bI (f_Yard_songsThere 37 cq3 hq2) fun rq4 hq5 =>
    bV (f_Mating_breed rq4 hq5) fun hq6 =>
    bI (f_Mating_allWithin a1 hq6) fun rq7 hq8 =>
    some (rq7, hq8)
  else
    some ((-1 : Int32), hq2)
set_option maxHeartbeats 2000000 in
theorem ok_H_songs {G : AE} {n : Nat} (hn : NN ≤ n)  (a1 : Int32) (h : AH) : OK G n y_H_songs (4) φI [.ref 0, .int a1] h (f_H_songs a1 h) := by
  refine ok_of (y := y_H_songs) (lv0 := [some (.ref 0), some (.int a1)]) (by decide +kernel) (Nat.le_of_ble_eq_true rfl) ⟨rfl, ⟨rfl, trivial⟩⟩ ?_
  rw [f_H_songs]
  refine r_iload_n (pc := 0) (i := 1) d_H_songs_0 rfl rfl ?_
  refine r_iconst (pc := 1) (v := 0) d_H_songs_1 (by rfl) ?_
  refine r_bipush (pc := 2) (v := 9) d_H_songs_2 (by rfl) ?_
  refine r_cSi (pc := 4) (st := []) (ok_H_within hn a1 (0 : Int32) (9 : Int32) h) w_817 w_1 w_815 w_816 hy_H_within ⟨Nat.le_of_ble_eq_true rfl, Nat.le_of_ble_eq_true rfl⟩ ⟨Nat.le_of_ble_eq_true rfl, Nat.le_of_ble_eq_true rfl⟩ rfl (Nat.le_of_ble_eq_true rfl) d_H_songs_4 (fun rq1 hq2 => ?_)
  refine r_if_ne (pc := 7) (tgt := 12) d_H_songs_7 (by rfl) ?_ ?_
  · refine r_aload_n (pc := 12) (i := 0) d_H_songs_12 rfl rfl ?_
    refine r_getf (pc := 13) (ci := 11) (k := 9) (C := "CricketHay") (T := F_11) (N := 13) (v := .ref 374) (fun s => Std.k s (lc hn rfl) kq_0) rfl (Nat.le_of_ble_eq_true rfl) rfl w_431 (fun s => vr rfl (Std.r s (lc hn rfl) rq_0_9)) d_H_songs_13 ?_
    refine r_aload_n (pc := 16) (i := 0) d_H_songs_16 rfl rfl ?_
    refine r_getf (pc := 17) (ci := 11) (k := 3) (C := "CricketHay") (T := F_11) (N := 13) (v := .ref 37) (fun s => Std.k s (lc hn rfl) kq_0) rfl (Nat.le_of_ble_eq_true rfl) rfl w_425 (fun s => vr rfl (Std.r s (lc hn rfl) rq_0_3)) d_H_songs_17 ?_
    refine r_aload_n (pc := 20) (i := 0) d_H_songs_20 rfl rfl ?_
    refine r_gd (fun cq3 rcq3 kcq3 => ?_)
    refine r_getf (pc := 21) (ci := 11) (k := 1) (C := "CricketHay") (T := F_11) (N := 13) (v := .ref cq3) (fun s => Std.k s (lc hn rfl) kq_0) rfl (Nat.le_of_ble_eq_true rfl) rfl w_423 (fun _ => vr rfl rcq3) d_H_songs_21 ?_
    refine r_cVi (pc := 24) (T := F_10) (N := 10) (st := [.ref 374]) (ok_Yard_songsThere hn 37 kq_37 cq3 kcq3 hq2) (fun s => Std.k s (lc hn rfl) kq_37) rfl w_964 w_5 w_961 w_962 w_963 hy_Yard_songsThere ⟨Nat.le_of_ble_eq_true rfl, Nat.le_of_ble_eq_true rfl⟩ ⟨Nat.le_of_ble_eq_true rfl, Nat.le_of_ble_eq_true rfl⟩ rfl (Nat.le_of_ble_eq_true rfl) d_H_songs_24 (fun rq4 hq5 => ?_)
    refine r_cVv (pc := 27) (T := F_8) (N := 2) (st := []) (ok_Mating_breed hn rq4 hq5) (fun s => Std.k s (lc hn rfl) kq_374) rfl w_968 w_10 w_965 w_966 w_967 hy_Mating_breed ⟨Nat.le_of_ble_eq_true rfl, Nat.le_of_ble_eq_true rfl⟩ ⟨Nat.le_of_ble_eq_true rfl, Nat.le_of_ble_eq_true rfl⟩ rfl (Nat.le_of_ble_eq_true rfl) d_H_songs_27 (fun hq6 => ?_)
    refine r_aload_n (pc := 30) (i := 0) d_H_songs_30 rfl rfl ?_
    refine r_getf (pc := 31) (ci := 11) (k := 9) (C := "CricketHay") (T := F_11) (N := 13) (v := .ref 374) (fun s => Std.k s (lc hn rfl) kq_0) rfl (Nat.le_of_ble_eq_true rfl) rfl w_431 (fun s => vr rfl (Std.r s (lc hn rfl) rq_0_9)) d_H_songs_31 ?_
    refine r_iload_n (pc := 34) (i := 1) d_H_songs_34 rfl rfl ?_
    refine r_cVi (pc := 35) (T := F_8) (N := 2) (st := []) (ok_Mating_allWithin hn a1 hq6) (fun s => Std.k s (lc hn rfl) kq_374) rfl w_994 w_10 w_991 w_992 w_993 hy_Mating_allWithin ⟨Nat.le_of_ble_eq_true rfl, Nat.le_of_ble_eq_true rfl⟩ ⟨Nat.le_of_ble_eq_true rfl, Nat.le_of_ble_eq_true rfl⟩ rfl (Nat.le_of_ble_eq_true rfl) d_H_songs_35 (fun rq7 hq8 => ?_)
    exact r_iret (pc := 38) rfl d_H_songs_38
  · refine r_iconst (pc := 10) (v := -1) d_H_songs_10 (by rfl) ?_
    exact r_iret (pc := 11) rfl d_H_songs_11

def f_H_lies  (a1 : Int32) (h : AH) : Option (Int32 × AH) :=
  if a1 < 0 then
    some ((-100 : Int32), h)
  else
    if (hI h 380 1) ≤ a1 then
      some ((-100 : Int32), h)
    else
      gx a1 12 <|
      some ((hI h 381 (ix a1)), h)
set_option maxHeartbeats 2000000 in
theorem ok_H_lies {G : AE} {n : Nat} (hn : NN ≤ n)  (a1 : Int32) (h : AH) : OK G n y_H_lies (1) φI [.ref 0, .int a1] h (f_H_lies a1 h) := by
  refine ok_of (y := y_H_lies) (lv0 := [some (.ref 0), some (.int a1)]) (by decide +kernel) (Nat.le_of_ble_eq_true rfl) ⟨rfl, ⟨rfl, trivial⟩⟩ ?_
  rw [f_H_lies]
  refine r_iload_n (pc := 0) (i := 1) d_H_lies_0 rfl rfl ?_
  refine r_if_lt (pc := 1) (tgt := 27) d_H_lies_1 (by rfl) ?_ ?_
  · refine r_bipush (pc := 27) (v := -100) d_H_lies_27 (by rfl) ?_
    exact r_iret (pc := 29) rfl d_H_lies_29
  · refine r_iload_n (pc := 4) (i := 1) d_H_lies_4 rfl rfl ?_
    refine r_aload_n (pc := 5) (i := 0) d_H_lies_5 rfl rfl ?_
    refine r_getf (pc := 6) (ci := 11) (k := 11) (C := "CricketHay") (T := F_11) (N := 13) (v := .ref 380) (fun s => Std.k s (lc hn rfl) kq_0) rfl (Nat.le_of_ble_eq_true rfl) rfl w_433 (fun s => vr rfl (Std.r s (lc hn rfl) rq_0_11)) d_H_lies_6 ?_
    refine r_getf (pc := 9) (ci := 6) (k := 1) (C := "CricketHay$Lie") (T := F_6) (N := 2) (v := .int (hI h 380 1)) (fun s => Std.k s (lc hn rfl) kq_380) rfl (Nat.le_of_ble_eq_true rfl) rfl w_412 (fun _ => rfl) d_H_lies_9 ?_
    refine r_icmp_ge (pc := 12) (tgt := 27) d_H_lies_12 (by rfl) ?_ ?_
    · refine r_bipush (pc := 27) (v := -100) d_H_lies_27 (by rfl) ?_
      exact r_iret (pc := 29) rfl d_H_lies_29
    · refine r_aload_n (pc := 15) (i := 0) d_H_lies_15 rfl rfl ?_
      refine r_getf (pc := 16) (ci := 11) (k := 11) (C := "CricketHay") (T := F_11) (N := 13) (v := .ref 380) (fun s => Std.k s (lc hn rfl) kq_0) rfl (Nat.le_of_ble_eq_true rfl) rfl w_433 (fun s => vr rfl (Std.r s (lc hn rfl) rq_0_11)) d_H_lies_16 ?_
      refine r_getf (pc := 19) (ci := 6) (k := 0) (C := "CricketHay$Lie") (T := F_6) (N := 2) (v := .ref 381) (fun s => Std.k s (lc hn rfl) kq_380) rfl (Nat.le_of_ble_eq_true rfl) rfl w_410 (fun s => vr rfl (Std.r s (lc hn rfl) rq_380_0)) d_H_lies_19 ?_
      refine r_iload_n (pc := 22) (i := 1) d_H_lies_22 rfl rfl ?_
      refine r_gx (fun zq1 => ?_)
      refine r_iald (pc := 23) (n := 12) (i0 := (ix a1)) (fun s => Std.k s (lc hn rfl) kq_381) zq1 rfl d_H_lies_23 ?_
      refine r_goto (pc := 24) (tgt := 29) d_H_lies_24 (by rfl) ?_
      exact r_iret (pc := 29) rfl d_H_lies_29

def f_Ears_tell  (a1 : Int32) (a2 : Int32) (a3 : Int32) (h : AH) : Option (Int32 × AH) :=
  if (hI h 366 10) < (30 : Int32) then
    gx (hI h 366 10) 30 <|
    lt (sI h 367 (ix (hI h 366 10)) a1) fun hq2 =>
    gx (hI hq2 366 10) 30 <|
    lt (sI hq2 368 (ix (hI hq2 366 10)) a2) fun hq4 =>
    gx (hI hq4 366 10) 30 <|
    lt (sI hq4 369 (ix (hI hq4 366 10)) (vp_nar .boolean a3)) fun hq6 =>
    gx (hI hq6 366 10) 30 <|
    lt (sI hq6 370 (ix (hI hq6 366 10)) (hI hq6 366 11)) fun hq8 =>
    gx (hI hq8 366 10) 30 <|
    lt (sI hq8 371 (ix (hI hq8 366 10)) (-1 : Int32)) fun hq10 =>
    lt (sI hq10 366 10 ((hI hq10 366 10) + (1 : Int32))) fun hq11 =>
    some (((hI hq11 366 10) - (1 : Int32)), hq11)
  else
    some ((-1 : Int32), h)
set_option maxHeartbeats 2000000 in
theorem ok_Ears_tell {G : AE} {n : Nat} (hn : NN ≤ n)  (a1 : Int32) (a2 : Int32) (a3 : Int32) (h : AH) : OK G n y_Ears_tell (1) φI [.ref 366, .int a1, .int a2, .int a3] h (f_Ears_tell a1 a2 a3 h) := by
  refine ok_of (y := y_Ears_tell) (lv0 := [some (.ref 366), some (.int a1), some (.int a2), some (.int a3)]) (by decide +kernel) (Nat.le_of_ble_eq_true rfl) ⟨rfl, ⟨rfl, ⟨rfl, ⟨rfl, trivial⟩⟩⟩⟩ ?_
  rw [f_Ears_tell]
  refine r_aload_n (pc := 0) (i := 0) d_Ears_tell_0 rfl rfl ?_
  refine r_getf (pc := 1) (ci := 4) (k := 10) (C := "CricketHay$Ears") (T := F_4) (N := 12) (v := .int (hI h 366 10)) (fun s => Std.k s (lc hn rfl) kq_366) rfl (Nat.le_of_ble_eq_true rfl) rfl w_327 (fun _ => rfl) d_Ears_tell_1 ?_
  refine r_bipush (pc := 4) (v := 30) d_Ears_tell_4 (by rfl) ?_
  refine r_icmp_lt (pc := 6) (tgt := 11) d_Ears_tell_6 (by rfl) ?_ ?_
  · refine r_aload_n (pc := 11) (i := 0) d_Ears_tell_11 rfl rfl ?_
    refine r_getf (pc := 12) (ci := 4) (k := 0) (C := "CricketHay$Ears") (T := F_4) (N := 12) (v := .ref 367) (fun s => Std.k s (lc hn rfl) kq_366) rfl (Nat.le_of_ble_eq_true rfl) rfl w_317 (fun s => vr rfl (Std.r s (lc hn rfl) rq_366_0)) d_Ears_tell_12 ?_
    refine r_aload_n (pc := 15) (i := 0) d_Ears_tell_15 rfl rfl ?_
    refine r_getf (pc := 16) (ci := 4) (k := 10) (C := "CricketHay$Ears") (T := F_4) (N := 12) (v := .int (hI h 366 10)) (fun s => Std.k s (lc hn rfl) kq_366) rfl (Nat.le_of_ble_eq_true rfl) rfl w_327 (fun _ => rfl) d_Ears_tell_16 ?_
    refine r_iload_n (pc := 19) (i := 1) d_Ears_tell_19 rfl rfl ?_
    refine r_gx (fun zq1 => ?_)
    refine r_iast (pc := 20) (n := 30) (i0 := (ix (hI h 366 10))) (fun s => Std.k s (lc hn rfl) kq_367) zq1 rfl (fun s => Std.sI s _ _ _) d_Ears_tell_20 ?_
    refine r_ltH (fun hq2 => ?_)
    refine r_aload_n (pc := 21) (i := 0) d_Ears_tell_21 rfl rfl ?_
    refine r_getf (pc := 22) (ci := 4) (k := 1) (C := "CricketHay$Ears") (T := F_4) (N := 12) (v := .ref 368) (fun s => Std.k s (lc hn rfl) kq_366) rfl (Nat.le_of_ble_eq_true rfl) rfl w_318 (fun s => vr rfl (Std.r s (lc hn rfl) rq_366_1)) d_Ears_tell_22 ?_
    refine r_aload_n (pc := 25) (i := 0) d_Ears_tell_25 rfl rfl ?_
    refine r_getf (pc := 26) (ci := 4) (k := 10) (C := "CricketHay$Ears") (T := F_4) (N := 12) (v := .int (hI hq2 366 10)) (fun s => Std.k s (lc hn rfl) kq_366) rfl (Nat.le_of_ble_eq_true rfl) rfl w_327 (fun _ => rfl) d_Ears_tell_26 ?_
    refine r_iload_n (pc := 29) (i := 2) d_Ears_tell_29 rfl rfl ?_
    refine r_gx (fun zq3 => ?_)
    refine r_iast (pc := 30) (n := 30) (i0 := (ix (hI hq2 366 10))) (fun s => Std.k s (lc hn rfl) kq_368) zq3 rfl (fun s => Std.sI s _ _ _) d_Ears_tell_30 ?_
    refine r_ltH (fun hq4 => ?_)
    refine r_aload_n (pc := 31) (i := 0) d_Ears_tell_31 rfl rfl ?_
    refine r_getf (pc := 32) (ci := 4) (k := 2) (C := "CricketHay$Ears") (T := F_4) (N := 12) (v := .ref 369) (fun s => Std.k s (lc hn rfl) kq_366) rfl (Nat.le_of_ble_eq_true rfl) rfl w_319 (fun s => vr rfl (Std.r s (lc hn rfl) rq_366_2)) d_Ears_tell_32 ?_
    refine r_aload_n (pc := 35) (i := 0) d_Ears_tell_35 rfl rfl ?_
    refine r_getf (pc := 36) (ci := 4) (k := 10) (C := "CricketHay$Ears") (T := F_4) (N := 12) (v := .int (hI hq4 366 10)) (fun s => Std.k s (lc hn rfl) kq_366) rfl (Nat.le_of_ble_eq_true rfl) rfl w_327 (fun _ => rfl) d_Ears_tell_36 ?_
    refine r_iload_n (pc := 39) (i := 3) d_Ears_tell_39 rfl rfl ?_
    refine r_gx (fun zq5 => ?_)
    refine r_zast (pc := 40) (n := 30) (i0 := (ix (hI hq4 366 10))) (fun s => Std.k s (lc hn rfl) kq_369) zq5 rfl (fun s => Std.sI s _ _ _) d_Ears_tell_40 ?_
    refine r_ltH (fun hq6 => ?_)
    refine r_aload_n (pc := 41) (i := 0) d_Ears_tell_41 rfl rfl ?_
    refine r_getf (pc := 42) (ci := 4) (k := 3) (C := "CricketHay$Ears") (T := F_4) (N := 12) (v := .ref 370) (fun s => Std.k s (lc hn rfl) kq_366) rfl (Nat.le_of_ble_eq_true rfl) rfl w_320 (fun s => vr rfl (Std.r s (lc hn rfl) rq_366_3)) d_Ears_tell_42 ?_
    refine r_aload_n (pc := 45) (i := 0) d_Ears_tell_45 rfl rfl ?_
    refine r_getf (pc := 46) (ci := 4) (k := 10) (C := "CricketHay$Ears") (T := F_4) (N := 12) (v := .int (hI hq6 366 10)) (fun s => Std.k s (lc hn rfl) kq_366) rfl (Nat.le_of_ble_eq_true rfl) rfl w_327 (fun _ => rfl) d_Ears_tell_46 ?_
    refine r_aload_n (pc := 49) (i := 0) d_Ears_tell_49 rfl rfl ?_
    refine r_getf (pc := 50) (ci := 4) (k := 11) (C := "CricketHay$Ears") (T := F_4) (N := 12) (v := .int (hI hq6 366 11)) (fun s => Std.k s (lc hn rfl) kq_366) rfl (Nat.le_of_ble_eq_true rfl) rfl w_329 (fun _ => rfl) d_Ears_tell_50 ?_
    refine r_gx (fun zq7 => ?_)
    refine r_iast (pc := 53) (n := 30) (i0 := (ix (hI hq6 366 10))) (fun s => Std.k s (lc hn rfl) kq_370) zq7 rfl (fun s => Std.sI s _ _ _) d_Ears_tell_53 ?_
    refine r_ltH (fun hq8 => ?_)
    refine r_aload_n (pc := 54) (i := 0) d_Ears_tell_54 rfl rfl ?_
    refine r_getf (pc := 55) (ci := 4) (k := 4) (C := "CricketHay$Ears") (T := F_4) (N := 12) (v := .ref 371) (fun s => Std.k s (lc hn rfl) kq_366) rfl (Nat.le_of_ble_eq_true rfl) rfl w_321 (fun s => vr rfl (Std.r s (lc hn rfl) rq_366_4)) d_Ears_tell_55 ?_
    refine r_aload_n (pc := 58) (i := 0) d_Ears_tell_58 rfl rfl ?_
    refine r_getf (pc := 59) (ci := 4) (k := 10) (C := "CricketHay$Ears") (T := F_4) (N := 12) (v := .int (hI hq8 366 10)) (fun s => Std.k s (lc hn rfl) kq_366) rfl (Nat.le_of_ble_eq_true rfl) rfl w_327 (fun _ => rfl) d_Ears_tell_59 ?_
    refine r_iconst (pc := 62) (v := -1) d_Ears_tell_62 (by rfl) ?_
    refine r_gx (fun zq9 => ?_)
    refine r_iast (pc := 63) (n := 30) (i0 := (ix (hI hq8 366 10))) (fun s => Std.k s (lc hn rfl) kq_371) zq9 rfl (fun s => Std.sI s _ _ _) d_Ears_tell_63 ?_
    refine r_ltH (fun hq10 => ?_)
    refine r_aload_n (pc := 64) (i := 0) d_Ears_tell_64 rfl rfl ?_
    refine r_dup (pc := 65) d_Ears_tell_65 rfl ?_
    refine r_getf (pc := 66) (ci := 4) (k := 10) (C := "CricketHay$Ears") (T := F_4) (N := 12) (v := .int (hI hq10 366 10)) (fun s => Std.k s (lc hn rfl) kq_366) rfl (Nat.le_of_ble_eq_true rfl) rfl w_327 (fun _ => rfl) d_Ears_tell_66 ?_
    refine r_iconst (pc := 69) (v := 1) d_Ears_tell_69 (by rfl) ?_
    refine r_iadd (pc := 70) d_Ears_tell_70 ?_
    refine r_putI (pc := 71) (ci := 4) (k := 10) (C := "CricketHay$Ears") (T := F_4) (N := 12) (fun s => Std.k s (lc hn rfl) kq_366) rfl (Nat.le_of_ble_eq_true rfl) rfl rfl w_327 (fun _ _ => rfl) (fun _ => rfl) (fun _ => rfl) (fun s => Std.sI s _ _ _) d_Ears_tell_71 ?_
    refine r_ltH (fun hq11 => ?_)
    refine r_aload_n (pc := 74) (i := 0) d_Ears_tell_74 rfl rfl ?_
    refine r_getf (pc := 75) (ci := 4) (k := 10) (C := "CricketHay$Ears") (T := F_4) (N := 12) (v := .int (hI hq11 366 10)) (fun s => Std.k s (lc hn rfl) kq_366) rfl (Nat.le_of_ble_eq_true rfl) rfl w_327 (fun _ => rfl) d_Ears_tell_75 ?_
    refine r_iconst (pc := 78) (v := 1) d_Ears_tell_78 (by rfl) ?_
    refine r_isub (pc := 79) d_Ears_tell_79 ?_
    exact r_iret (pc := 80) rfl d_Ears_tell_80
  · refine r_iconst (pc := 9) (v := -1) d_Ears_tell_9 (by rfl) ?_
    exact r_iret (pc := 10) rfl d_Ears_tell_10

def f_H_heard  (a1 : Int32) (a2 : Int32) (a3 : Int32) (h : AH) : Option (Int32 × AH) :=
  bI (f_H_within a1 (0 : Int32) (40 : Int32) h) fun rq1 hq2 =>
  if rq1 = 0 then
    some ((-1 : Int32), hq2)
  else
    bI (f_H_within a2 (0 : Int32) (99 : Int32) hq2) fun rq3 hq4 =>
    if ¬ rq3 = 0 then
      bI (f_Ears_tell a1 a2 a3 hq4) fun rq5 hq6 =>
      some (rq5, hq6)
    else
      some ((-1 : Int32), hq4)
set_option maxHeartbeats 2000000 in
theorem ok_H_heard {G : AE} {n : Nat} (hn : NN ≤ n)  (a1 : Int32) (a2 : Int32) (a3 : Int32) (h : AH) : OK G n y_H_heard (2) φI [.ref 0, .int a1, .int a2, .int a3] h (f_H_heard a1 a2 a3 h) := by
  refine ok_of (y := y_H_heard) (lv0 := [some (.ref 0), some (.int a1), some (.int a2), some (.int a3)]) (by decide +kernel) (Nat.le_of_ble_eq_true rfl) ⟨rfl, ⟨rfl, ⟨rfl, ⟨rfl, trivial⟩⟩⟩⟩ ?_
  rw [f_H_heard]
  refine r_iload_n (pc := 0) (i := 1) d_H_heard_0 rfl rfl ?_
  refine r_iconst (pc := 1) (v := 0) d_H_heard_1 (by rfl) ?_
  refine r_bipush (pc := 2) (v := 40) d_H_heard_2 (by rfl) ?_
  refine r_cSi (pc := 4) (st := []) (ok_H_within hn a1 (0 : Int32) (40 : Int32) h) w_817 w_1 w_815 w_816 hy_H_within ⟨Nat.le_of_ble_eq_true rfl, Nat.le_of_ble_eq_true rfl⟩ ⟨Nat.le_of_ble_eq_true rfl, Nat.le_of_ble_eq_true rfl⟩ rfl (Nat.le_of_ble_eq_true rfl) d_H_heard_4 (fun rq1 hq2 => ?_)
  refine r_if_eq (pc := 7) (tgt := 20) d_H_heard_7 (by rfl) ?_ ?_
  · refine r_iconst (pc := 20) (v := -1) d_H_heard_20 (by rfl) ?_
    exact r_iret (pc := 21) rfl d_H_heard_21
  · refine r_iload_n (pc := 10) (i := 2) d_H_heard_10 rfl rfl ?_
    refine r_iconst (pc := 11) (v := 0) d_H_heard_11 (by rfl) ?_
    refine r_bipush (pc := 12) (v := 99) d_H_heard_12 (by rfl) ?_
    refine r_cSi (pc := 14) (st := []) (ok_H_within hn a2 (0 : Int32) (99 : Int32) hq2) w_817 w_1 w_815 w_816 hy_H_within ⟨Nat.le_of_ble_eq_true rfl, Nat.le_of_ble_eq_true rfl⟩ ⟨Nat.le_of_ble_eq_true rfl, Nat.le_of_ble_eq_true rfl⟩ rfl (Nat.le_of_ble_eq_true rfl) d_H_heard_14 (fun rq3 hq4 => ?_)
    refine r_if_ne (pc := 17) (tgt := 22) d_H_heard_17 (by rfl) ?_ ?_
    · refine r_aload_n (pc := 22) (i := 0) d_H_heard_22 rfl rfl ?_
      refine r_getf (pc := 23) (ci := 11) (k := 8) (C := "CricketHay") (T := F_11) (N := 13) (v := .ref 366) (fun s => Std.k s (lc hn rfl) kq_0) rfl (Nat.le_of_ble_eq_true rfl) rfl w_430 (fun s => vr rfl (Std.r s (lc hn rfl) rq_0_8)) d_H_heard_23 ?_
      refine r_iload_n (pc := 26) (i := 1) d_H_heard_26 rfl rfl ?_
      refine r_iload_n (pc := 27) (i := 2) d_H_heard_27 rfl rfl ?_
      refine r_iload_n (pc := 28) (i := 3) d_H_heard_28 rfl rfl ?_
      refine r_cVi (pc := 29) (T := F_4) (N := 12) (st := []) (ok_Ears_tell hn a1 a2 a3 hq4) (fun s => Std.k s (lc hn rfl) kq_366) rfl w_1006 w_9 w_1003 w_1004 w_1005 hy_Ears_tell ⟨Nat.le_of_ble_eq_true rfl, Nat.le_of_ble_eq_true rfl⟩ ⟨Nat.le_of_ble_eq_true rfl, Nat.le_of_ble_eq_true rfl⟩ rfl (Nat.le_of_ble_eq_true rfl) d_H_heard_29 (fun rq5 hq6 => ?_)
      exact r_iret (pc := 32) rfl d_H_heard_32
    · refine r_iconst (pc := 20) (v := -1) d_H_heard_20 (by rfl) ?_
      exact r_iret (pc := 21) rfl d_H_heard_21

def f_Ears_takeBack  (a1 : Int32) (h : AH) : Option (Int32 × AH) :=
  if a1 < 0 then
    some ((0 : Int32), h)
  else
    if (hI h 366 10) ≤ a1 then
      some ((0 : Int32), h)
    else
      gx a1 30 <|
      if (hI h 371 (ix a1)) = (-1 : Int32) then
        gx a1 30 <|
        lt (sI h 371 (ix a1) (hI h 366 11)) fun hq3 =>
        some ((1 : Int32), hq3)
      else
        some ((0 : Int32), h)
set_option maxHeartbeats 2000000 in
theorem ok_Ears_takeBack {G : AE} {n : Nat} (hn : NN ≤ n)  (a1 : Int32) (h : AH) : OK G n y_Ears_takeBack (1) φI [.ref 366, .int a1] h (f_Ears_takeBack a1 h) := by
  refine ok_of (y := y_Ears_takeBack) (lv0 := [some (.ref 366), some (.int a1)]) (by decide +kernel) (Nat.le_of_ble_eq_true rfl) ⟨rfl, ⟨rfl, trivial⟩⟩ ?_
  rw [f_Ears_takeBack]
  refine r_iload_n (pc := 0) (i := 1) d_Ears_takeBack_0 rfl rfl ?_
  refine r_if_lt (pc := 1) (tgt := 22) d_Ears_takeBack_1 (by rfl) ?_ ?_
  · refine r_iconst (pc := 22) (v := 0) d_Ears_takeBack_22 (by rfl) ?_
    exact r_zret (pc := 23) rfl rfl d_Ears_takeBack_23
  · refine r_iload_n (pc := 4) (i := 1) d_Ears_takeBack_4 rfl rfl ?_
    refine r_aload_n (pc := 5) (i := 0) d_Ears_takeBack_5 rfl rfl ?_
    refine r_getf (pc := 6) (ci := 4) (k := 10) (C := "CricketHay$Ears") (T := F_4) (N := 12) (v := .int (hI h 366 10)) (fun s => Std.k s (lc hn rfl) kq_366) rfl (Nat.le_of_ble_eq_true rfl) rfl w_327 (fun _ => rfl) d_Ears_takeBack_6 ?_
    refine r_icmp_ge (pc := 9) (tgt := 22) d_Ears_takeBack_9 (by rfl) ?_ ?_
    · refine r_iconst (pc := 22) (v := 0) d_Ears_takeBack_22 (by rfl) ?_
      exact r_zret (pc := 23) rfl rfl d_Ears_takeBack_23
    · refine r_aload_n (pc := 12) (i := 0) d_Ears_takeBack_12 rfl rfl ?_
      refine r_getf (pc := 13) (ci := 4) (k := 4) (C := "CricketHay$Ears") (T := F_4) (N := 12) (v := .ref 371) (fun s => Std.k s (lc hn rfl) kq_366) rfl (Nat.le_of_ble_eq_true rfl) rfl w_321 (fun s => vr rfl (Std.r s (lc hn rfl) rq_366_4)) d_Ears_takeBack_13 ?_
      refine r_iload_n (pc := 16) (i := 1) d_Ears_takeBack_16 rfl rfl ?_
      refine r_gx (fun zq1 => ?_)
      refine r_iald (pc := 17) (n := 30) (i0 := (ix a1)) (fun s => Std.k s (lc hn rfl) kq_371) zq1 rfl d_Ears_takeBack_17 ?_
      refine r_iconst (pc := 18) (v := -1) d_Ears_takeBack_18 (by rfl) ?_
      refine r_icmp_eq (pc := 19) (tgt := 24) d_Ears_takeBack_19 (by rfl) ?_ ?_
      · refine r_aload_n (pc := 24) (i := 0) d_Ears_takeBack_24 rfl rfl ?_
        refine r_getf (pc := 25) (ci := 4) (k := 4) (C := "CricketHay$Ears") (T := F_4) (N := 12) (v := .ref 371) (fun s => Std.k s (lc hn rfl) kq_366) rfl (Nat.le_of_ble_eq_true rfl) rfl w_321 (fun s => vr rfl (Std.r s (lc hn rfl) rq_366_4)) d_Ears_takeBack_25 ?_
        refine r_iload_n (pc := 28) (i := 1) d_Ears_takeBack_28 rfl rfl ?_
        refine r_aload_n (pc := 29) (i := 0) d_Ears_takeBack_29 rfl rfl ?_
        refine r_getf (pc := 30) (ci := 4) (k := 11) (C := "CricketHay$Ears") (T := F_4) (N := 12) (v := .int (hI h 366 11)) (fun s => Std.k s (lc hn rfl) kq_366) rfl (Nat.le_of_ble_eq_true rfl) rfl w_329 (fun _ => rfl) d_Ears_takeBack_30 ?_
        refine r_gx (fun zq2 => ?_)
        refine r_iast (pc := 33) (n := 30) (i0 := (ix a1)) (fun s => Std.k s (lc hn rfl) kq_371) zq2 rfl (fun s => Std.sI s _ _ _) d_Ears_takeBack_33 ?_
        refine r_ltH (fun hq3 => ?_)
        refine r_iconst (pc := 34) (v := 1) d_Ears_takeBack_34 (by rfl) ?_
        exact r_zret (pc := 35) rfl rfl d_Ears_takeBack_35
      · refine r_iconst (pc := 22) (v := 0) d_Ears_takeBack_22 (by rfl) ?_
        exact r_zret (pc := 23) rfl rfl d_Ears_takeBack_23

def f_H_untell  (a1 : Int32) (h : AH) : Option (Int32 × AH) :=
  bI (f_Ears_takeBack a1 h) fun rq1 hq2 =>
  gb rq1 <|
  some (rq1, hq2)
set_option maxHeartbeats 2000000 in
theorem ok_H_untell {G : AE} {n : Nat} (hn : NN ≤ n)  (a1 : Int32) (h : AH) : OK G n y_H_untell (2) φI [.ref 0, .int a1] h (f_H_untell a1 h) := by
  refine ok_of (y := y_H_untell) (lv0 := [some (.ref 0), some (.int a1)]) (by decide +kernel) (Nat.le_of_ble_eq_true rfl) ⟨rfl, ⟨rfl, trivial⟩⟩ ?_
  rw [f_H_untell]
  refine r_aload_n (pc := 0) (i := 0) d_H_untell_0 rfl rfl ?_
  refine r_getf (pc := 1) (ci := 11) (k := 8) (C := "CricketHay") (T := F_11) (N := 13) (v := .ref 366) (fun s => Std.k s (lc hn rfl) kq_0) rfl (Nat.le_of_ble_eq_true rfl) rfl w_430 (fun s => vr rfl (Std.r s (lc hn rfl) rq_0_8)) d_H_untell_1 ?_
  refine r_iload_n (pc := 4) (i := 1) d_H_untell_4 rfl rfl ?_
  refine r_cVi (pc := 5) (T := F_4) (N := 12) (st := []) (ok_Ears_takeBack hn a1 h) (fun s => Std.k s (lc hn rfl) kq_366) rfl w_1014 w_9 w_1011 w_1012 w_1013 hy_Ears_takeBack ⟨Nat.le_of_ble_eq_true rfl, Nat.le_of_ble_eq_true rfl⟩ ⟨Nat.le_of_ble_eq_true rfl, Nat.le_of_ble_eq_true rfl⟩ rfl (Nat.le_of_ble_eq_true rfl) d_H_untell_5 (fun rq1 hq2 => ?_)
  refine r_gb (fun zq3 => ?_)
  exact r_zret (pc := 8) rfl zq3 d_H_untell_8

def f_H_later  (a1 : Int32) (h : AH) : Option (Int32 × AH) :=
  bI (f_H_within a1 (0 : Int32) (1000 : Int32) h) fun rq1 hq2 =>
  if rq1 = 0 then
    some ((-1 : Int32), hq2)
  else
    if ((hI hq2 366 11) + a1) ≤ (100000 : Int32) then
      lt (sI hq2 366 11 ((hI hq2 366 11) + a1)) fun hq3 =>
      some ((hI hq3 366 11), hq3)
    else
      some ((-1 : Int32), hq2)
set_option maxHeartbeats 2000000 in
theorem ok_H_later {G : AE} {n : Nat} (hn : NN ≤ n)  (a1 : Int32) (h : AH) : OK G n y_H_later (2) φI [.ref 0, .int a1] h (f_H_later a1 h) := by
  refine ok_of (y := y_H_later) (lv0 := [some (.ref 0), some (.int a1)]) (by decide +kernel) (Nat.le_of_ble_eq_true rfl) ⟨rfl, ⟨rfl, trivial⟩⟩ ?_
  rw [f_H_later]
  refine r_iload_n (pc := 0) (i := 1) d_H_later_0 rfl rfl ?_
  refine r_iconst (pc := 1) (v := 0) d_H_later_1 (by rfl) ?_
  refine r_sipush (pc := 2) (v := 1000) d_H_later_2 (by rfl) ?_
  refine r_cSi (pc := 5) (st := []) (ok_H_within hn a1 (0 : Int32) (1000 : Int32) h) w_817 w_1 w_815 w_816 hy_H_within ⟨Nat.le_of_ble_eq_true rfl, Nat.le_of_ble_eq_true rfl⟩ ⟨Nat.le_of_ble_eq_true rfl, Nat.le_of_ble_eq_true rfl⟩ rfl (Nat.le_of_ble_eq_true rfl) d_H_later_5 (fun rq1 hq2 => ?_)
  refine r_if_eq (pc := 8) (tgt := 26) d_H_later_8 (by rfl) ?_ ?_
  · refine r_iconst (pc := 26) (v := -1) d_H_later_26 (by rfl) ?_
    exact r_iret (pc := 27) rfl d_H_later_27
  · refine r_aload_n (pc := 11) (i := 0) d_H_later_11 rfl rfl ?_
    refine r_getf (pc := 12) (ci := 11) (k := 8) (C := "CricketHay") (T := F_11) (N := 13) (v := .ref 366) (fun s => Std.k s (lc hn rfl) kq_0) rfl (Nat.le_of_ble_eq_true rfl) rfl w_430 (fun s => vr rfl (Std.r s (lc hn rfl) rq_0_8)) d_H_later_12 ?_
    refine r_getf (pc := 15) (ci := 4) (k := 11) (C := "CricketHay$Ears") (T := F_4) (N := 12) (v := .int (hI hq2 366 11)) (fun s => Std.k s (lc hn rfl) kq_366) rfl (Nat.le_of_ble_eq_true rfl) rfl w_330 (fun _ => rfl) d_H_later_15 ?_
    refine r_iload_n (pc := 18) (i := 1) d_H_later_18 rfl rfl ?_
    refine r_iadd (pc := 19) d_H_later_19 ?_
    refine r_ldcw (pc := 20) w_1019 d_H_later_20 ?_
    refine r_icmp_le (pc := 23) (tgt := 28) d_H_later_23 (by rfl) ?_ ?_
    · refine r_aload_n (pc := 28) (i := 0) d_H_later_28 rfl rfl ?_
      refine r_getf (pc := 29) (ci := 11) (k := 8) (C := "CricketHay") (T := F_11) (N := 13) (v := .ref 366) (fun s => Std.k s (lc hn rfl) kq_0) rfl (Nat.le_of_ble_eq_true rfl) rfl w_430 (fun s => vr rfl (Std.r s (lc hn rfl) rq_0_8)) d_H_later_29 ?_
      refine r_dup (pc := 32) d_H_later_32 rfl ?_
      refine r_getf (pc := 33) (ci := 4) (k := 11) (C := "CricketHay$Ears") (T := F_4) (N := 12) (v := .int (hI hq2 366 11)) (fun s => Std.k s (lc hn rfl) kq_366) rfl (Nat.le_of_ble_eq_true rfl) rfl w_330 (fun _ => rfl) d_H_later_33 ?_
      refine r_iload_n (pc := 36) (i := 1) d_H_later_36 rfl rfl ?_
      refine r_iadd (pc := 37) d_H_later_37 ?_
      refine r_putI (pc := 38) (ci := 4) (k := 11) (C := "CricketHay$Ears") (T := F_4) (N := 12) (fun s => Std.k s (lc hn rfl) kq_366) rfl (Nat.le_of_ble_eq_true rfl) rfl rfl w_330 (fun _ _ => rfl) (fun _ => rfl) (fun _ => rfl) (fun s => Std.sI s _ _ _) d_H_later_38 ?_
      refine r_ltH (fun hq3 => ?_)
      refine r_aload_n (pc := 41) (i := 0) d_H_later_41 rfl rfl ?_
      refine r_getf (pc := 42) (ci := 11) (k := 8) (C := "CricketHay") (T := F_11) (N := 13) (v := .ref 366) (fun s => Std.k s (lc hn rfl) kq_0) rfl (Nat.le_of_ble_eq_true rfl) rfl w_430 (fun s => vr rfl (Std.r s (lc hn rfl) rq_0_8)) d_H_later_42 ?_
      refine r_getf (pc := 45) (ci := 4) (k := 11) (C := "CricketHay$Ears") (T := F_4) (N := 12) (v := .int (hI hq3 366 11)) (fun s => Std.k s (lc hn rfl) kq_366) rfl (Nat.le_of_ble_eq_true rfl) rfl w_330 (fun _ => rfl) d_H_later_45 ?_
      exact r_iret (pc := 48) rfl d_H_later_48
    · refine r_iconst (pc := 26) (v := -1) d_H_later_26 (by rfl) ?_
      exact r_iret (pc := 27) rfl d_H_later_27

def f_Ears_counts  (a1 : Int32) (a2 : Int32) (h : AH) : Option (Int32 × AH) :=
  gx a1 30 <|
  if a2 < (hI h 370 (ix a1)) then
    some ((0 : Int32), h)
  else
    gx a1 30 <|
    if (hI h 371 (ix a1)) = (-1 : Int32) then
      some ((1 : Int32), h)
    else
      gx a1 30 <|
      if (hI h 371 (ix a1)) ≤ a2 then
        some ((0 : Int32), h)
      else
        some ((1 : Int32), h)
set_option maxHeartbeats 2000000 in
theorem ok_Ears_counts {G : AE} {n : Nat} (hn : NN ≤ n)  (a1 : Int32) (a2 : Int32) (h : AH) : OK G n y_Ears_counts (1) φI [.ref 366, .int a1, .int a2] h (f_Ears_counts a1 a2 h) := by
  refine ok_of (y := y_Ears_counts) (lv0 := [some (.ref 366), some (.int a1), some (.int a2)]) (by decide +kernel) (Nat.le_of_ble_eq_true rfl) ⟨rfl, ⟨rfl, ⟨rfl, trivial⟩⟩⟩ ?_
  rw [f_Ears_counts]
  refine r_aload_n (pc := 0) (i := 0) d_Ears_counts_0 rfl rfl ?_
  refine r_getf (pc := 1) (ci := 4) (k := 3) (C := "CricketHay$Ears") (T := F_4) (N := 12) (v := .ref 370) (fun s => Std.k s (lc hn rfl) kq_366) rfl (Nat.le_of_ble_eq_true rfl) rfl w_320 (fun s => vr rfl (Std.r s (lc hn rfl) rq_366_3)) d_Ears_counts_1 ?_
  refine r_iload_n (pc := 4) (i := 1) d_Ears_counts_4 rfl rfl ?_
  refine r_gx (fun zq1 => ?_)
  refine r_iald (pc := 5) (n := 30) (i0 := (ix a1)) (fun s => Std.k s (lc hn rfl) kq_370) zq1 rfl d_Ears_counts_5 ?_
  refine r_iload_n (pc := 6) (i := 2) d_Ears_counts_6 rfl rfl ?_
  refine r_icmp_gt (pc := 7) (tgt := 34) d_Ears_counts_7 (by rfl) ?_ ?_
  · refine r_iconst (pc := 34) (v := 0) d_Ears_counts_34 (by rfl) ?_
    exact r_zret (pc := 35) rfl rfl d_Ears_counts_35
  · refine r_aload_n (pc := 10) (i := 0) d_Ears_counts_10 rfl rfl ?_
    refine r_getf (pc := 11) (ci := 4) (k := 4) (C := "CricketHay$Ears") (T := F_4) (N := 12) (v := .ref 371) (fun s => Std.k s (lc hn rfl) kq_366) rfl (Nat.le_of_ble_eq_true rfl) rfl w_321 (fun s => vr rfl (Std.r s (lc hn rfl) rq_366_4)) d_Ears_counts_11 ?_
    refine r_iload_n (pc := 14) (i := 1) d_Ears_counts_14 rfl rfl ?_
    refine r_gx (fun zq2 => ?_)
    refine r_iald (pc := 15) (n := 30) (i0 := (ix a1)) (fun s => Std.k s (lc hn rfl) kq_371) zq2 rfl d_Ears_counts_15 ?_
    refine r_iconst (pc := 16) (v := -1) d_Ears_counts_16 (by rfl) ?_
    refine r_icmp_eq (pc := 17) (tgt := 30) d_Ears_counts_17 (by rfl) ?_ ?_
    · refine r_iconst (pc := 30) (v := 1) d_Ears_counts_30 (by rfl) ?_
      refine r_goto (pc := 31) (tgt := 35) d_Ears_counts_31 (by rfl) ?_
      exact r_zret (pc := 35) rfl rfl d_Ears_counts_35
    · refine r_aload_n (pc := 20) (i := 0) d_Ears_counts_20 rfl rfl ?_
      refine r_getf (pc := 21) (ci := 4) (k := 4) (C := "CricketHay$Ears") (T := F_4) (N := 12) (v := .ref 371) (fun s => Std.k s (lc hn rfl) kq_366) rfl (Nat.le_of_ble_eq_true rfl) rfl w_321 (fun s => vr rfl (Std.r s (lc hn rfl) rq_366_4)) d_Ears_counts_21 ?_
      refine r_iload_n (pc := 24) (i := 1) d_Ears_counts_24 rfl rfl ?_
      refine r_gx (fun zq3 => ?_)
      refine r_iald (pc := 25) (n := 30) (i0 := (ix a1)) (fun s => Std.k s (lc hn rfl) kq_371) zq3 rfl d_Ears_counts_25 ?_
      refine r_iload_n (pc := 26) (i := 2) d_Ears_counts_26 rfl rfl ?_
      refine r_icmp_le (pc := 27) (tgt := 34) d_Ears_counts_27 (by rfl) ?_ ?_
      · refine r_iconst (pc := 34) (v := 0) d_Ears_counts_34 (by rfl) ?_
        exact r_zret (pc := 35) rfl rfl d_Ears_counts_35
      · refine r_iconst (pc := 30) (v := 1) d_Ears_counts_30 (by rfl) ?_
        refine r_goto (pc := 31) (tgt := 35) d_Ears_counts_31 (by rfl) ?_
        exact r_zret (pc := 35) rfl rfl d_Ears_counts_35

def f_Ears_sings  (a1 : Nat) (a2 : Int32) (a3 : Int32) (h : AH) : Option (Int32 × AH) :=
  lt (((a2 * (10 : Int32)) * (10 : Int32)) + a3) fun xq1 =>
  gx xq1 4100 <|
  if ¬ (hI h 373 (ix xq1)) = (-1 : Int32) then
    gx xq1 4100 <|
    some ((hI h 373 (ix xq1)), h)
  else
    bI (f_Market_sung a1 a2 (a3 / (10 : Int32)) (a3 - a3 / (10 : Int32) * (10 : Int32)) (0 : Int32) (hI h 366 7) (hI h 366 8) h) fun rq4 hq5 =>
    gx xq1 4100 <|
    lt (sI hq5 373 (ix xq1) rq4) fun hq7 =>
    gx xq1 4100 <|
    some ((hI hq7 373 (ix xq1)), hq7)
set_option maxHeartbeats 2000000 in
theorem ok_Ears_sings {G : AE} {n : Nat} (hn : NN ≤ n)  (a1 : Nat) (ha1 : kdF a1 = .inr 7) (a2 : Int32) (a3 : Int32) (h : AH) : OK G n y_Ears_sings (4) φI [.ref 366, .ref a1, .int a2, .int a3] h (f_Ears_sings a1 a2 a3 h) := by
  refine ok_of (y := y_Ears_sings) (lv0 := [some (.ref 366), some (.ref a1), some (.int a2), some (.int a3), none]) (by decide +kernel) (Nat.le_of_ble_eq_true rfl) ⟨rfl, ⟨rfl, ⟨rfl, ⟨rfl, trivial⟩⟩⟩⟩ ?_
  rw [f_Ears_sings]
  refine r_iload_n (pc := 0) (i := 2) d_Ears_sings_0 rfl rfl ?_
  refine r_bipush (pc := 1) (v := 10) d_Ears_sings_1 (by rfl) ?_
  refine r_imul (pc := 3) d_Ears_sings_3 ?_
  refine r_bipush (pc := 4) (v := 10) d_Ears_sings_4 (by rfl) ?_
  refine r_imul (pc := 6) d_Ears_sings_6 ?_
  refine r_iload_n (pc := 7) (i := 3) d_Ears_sings_7 rfl rfl ?_
  refine r_iadd (pc := 8) d_Ears_sings_8 ?_
  refine r_ltI (fun xq1 => ?_)
  refine r_istore (pc := 9) (lv1 := [some (.ref 366), some (.ref a1), some (.int a2), some (.int a3), some (.int xq1)]) d_Ears_sings_9 (Nat.le_of_ble_eq_true rfl) rfl ?_
  refine r_aload_n (pc := 11) (i := 0) d_Ears_sings_11 rfl rfl ?_
  refine r_getf (pc := 12) (ci := 4) (k := 6) (C := "CricketHay$Ears") (T := F_4) (N := 12) (v := .ref 373) (fun s => Std.k s (lc hn rfl) kq_366) rfl (Nat.le_of_ble_eq_true rfl) rfl w_323 (fun s => vr rfl (Std.r s (lc hn rfl) rq_366_6)) d_Ears_sings_12 ?_
  refine r_iload (pc := 15) d_Ears_sings_15 rfl ?_
  refine r_gx (fun zq2 => ?_)
  refine r_iald (pc := 17) (n := 4100) (i0 := (ix xq1)) (fun s => Std.k s (lc hn rfl) kq_373) zq2 rfl d_Ears_sings_17 ?_
  refine r_iconst (pc := 18) (v := -1) d_Ears_sings_18 (by rfl) ?_
  refine r_icmp_ne (pc := 19) (tgt := 51) d_Ears_sings_19 (by rfl) ?_ ?_
  · refine r_aload_n (pc := 51) (i := 0) d_Ears_sings_51 rfl rfl ?_
    refine r_getf (pc := 52) (ci := 4) (k := 6) (C := "CricketHay$Ears") (T := F_4) (N := 12) (v := .ref 373) (fun s => Std.k s (lc hn rfl) kq_366) rfl (Nat.le_of_ble_eq_true rfl) rfl w_323 (fun s => vr rfl (Std.r s (lc hn rfl) rq_366_6)) d_Ears_sings_52 ?_
    refine r_iload (pc := 55) d_Ears_sings_55 rfl ?_
    refine r_gx (fun zq3 => ?_)
    refine r_iald (pc := 57) (n := 4100) (i0 := (ix xq1)) (fun s => Std.k s (lc hn rfl) kq_373) zq3 rfl d_Ears_sings_57 ?_
    exact r_iret (pc := 58) rfl d_Ears_sings_58
  · refine r_aload_n (pc := 22) (i := 0) d_Ears_sings_22 rfl rfl ?_
    refine r_getf (pc := 23) (ci := 4) (k := 6) (C := "CricketHay$Ears") (T := F_4) (N := 12) (v := .ref 373) (fun s => Std.k s (lc hn rfl) kq_366) rfl (Nat.le_of_ble_eq_true rfl) rfl w_323 (fun s => vr rfl (Std.r s (lc hn rfl) rq_366_6)) d_Ears_sings_23 ?_
    refine r_iload (pc := 26) d_Ears_sings_26 rfl ?_
    refine r_aload_n (pc := 28) (i := 1) d_Ears_sings_28 rfl rfl ?_
    refine r_iload_n (pc := 29) (i := 2) d_Ears_sings_29 rfl rfl ?_
    refine r_iload_n (pc := 30) (i := 3) d_Ears_sings_30 rfl rfl ?_
    refine r_bipush (pc := 31) (v := 10) d_Ears_sings_31 (by rfl) ?_
    refine r_idivC (pc := 33) (by decide) d_Ears_sings_33 ?_
    refine r_iload_n (pc := 34) (i := 3) d_Ears_sings_34 rfl rfl ?_
    refine r_bipush (pc := 35) (v := 10) d_Ears_sings_35 (by rfl) ?_
    refine r_iremC (pc := 37) (by decide) d_Ears_sings_37 ?_
    refine r_iconst (pc := 38) (v := 0) d_Ears_sings_38 (by rfl) ?_
    refine r_aload_n (pc := 39) (i := 0) d_Ears_sings_39 rfl rfl ?_
    refine r_getf (pc := 40) (ci := 4) (k := 7) (C := "CricketHay$Ears") (T := F_4) (N := 12) (v := .int (hI h 366 7)) (fun s => Std.k s (lc hn rfl) kq_366) rfl (Nat.le_of_ble_eq_true rfl) rfl w_324 (fun _ => rfl) d_Ears_sings_40 ?_
    refine r_aload_n (pc := 43) (i := 0) d_Ears_sings_43 rfl rfl ?_
    refine r_getf (pc := 44) (ci := 4) (k := 8) (C := "CricketHay$Ears") (T := F_4) (N := 12) (v := .int (hI h 366 8)) (fun s => Std.k s (lc hn rfl) kq_366) rfl (Nat.le_of_ble_eq_true rfl) rfl w_325 (fun _ => rfl) d_Ears_sings_44 ?_
    refine r_cVi (pc := 47) (T := F_7) (N := 16) (st := [.int xq1, .ref 373]) (ok_Market_sung hn a1 ha1 a2 (a3 / (10 : Int32)) (a3 - a3 / (10 : Int32) * (10 : Int32)) (0 : Int32) (hI h 366 7) (hI h 366 8) h) (fun s => Std.k s (ltn (cm hn) (kl_M ha1)) ha1) rfl w_708 w_3 w_1041 w_706 w_707 hy_Market_sung ⟨Nat.le_of_ble_eq_true rfl, Nat.le_of_ble_eq_true rfl⟩ ⟨Nat.le_of_ble_eq_true rfl, Nat.le_of_ble_eq_true rfl⟩ rfl (Nat.le_of_ble_eq_true rfl) d_Ears_sings_47 (fun rq4 hq5 => ?_)
    refine r_gx (fun zq6 => ?_)
    refine r_iast (pc := 50) (n := 4100) (i0 := (ix xq1)) (fun s => Std.k s (lc hn rfl) kq_373) zq6 rfl (fun s => Std.sI s _ _ _) d_Ears_sings_50 ?_
    refine r_ltH (fun hq7 => ?_)
    refine r_aload_n (pc := 51) (i := 0) d_Ears_sings_51 rfl rfl ?_
    refine r_getf (pc := 52) (ci := 4) (k := 6) (C := "CricketHay$Ears") (T := F_4) (N := 12) (v := .ref 373) (fun s => Std.k s (lc hn rfl) kq_366) rfl (Nat.le_of_ble_eq_true rfl) rfl w_323 (fun s => vr rfl (Std.r s (lc hn rfl) rq_366_6)) d_Ears_sings_52 ?_
    refine r_iload (pc := 55) d_Ears_sings_55 rfl ?_
    refine r_gx (fun zq8 => ?_)
    refine r_iald (pc := 57) (n := 4100) (i0 := (ix xq1)) (fun s => Std.k s (lc hn rfl) kq_373) zq8 rfl d_Ears_sings_57 ?_
    exact r_iret (pc := 58) rfl d_Ears_sings_58

def f_Ears_isFit_b50  (a1 : Nat) (a2 : Int32) (a3 : Int32) (k3 : Int32 → AH → Option (Int32 × AH)) (x4 : Int32) (v0 : Int32) (h : AH) : Option (Int32 × AH) :=
  gx x4 30 <|
  if v0 = (hI h 369 (ix x4)) then
    lt (x4 + (1 : Int32)) fun xq2 =>
    k3 xq2 h
  else
    some ((0 : Int32), h)
set_option maxHeartbeats 2000000 in
theorem o_Ears_isFit_b50 {G : AE} {n : Nat} (hn : NN ≤ n)  {a1 : Nat} {a2 : Int32} {a3 : Int32} (ha1 : kdF a1 = .inr 7) {k3 : Int32 → AH → Option (Int32 × AH)} (hk3 : ∀ (x4 : Int32) (h : AH), AJ G n y_Ears_isFit (5) φI 3 [some (.ref 366), some (.ref a1), some (.int a2), some (.int a3), some (.int x4)] [] h (k3 x4 h)) : ∀ (x4 : Int32) (v0 : Int32) (h : AH), AJ G n y_Ears_isFit (5) φI 50 [some (.ref 366), some (.ref a1), some (.int a2), some (.int a3), some (.int x4)] [.int v0] h (f_Ears_isFit_b50 a1 a2 a3 k3 x4 v0 h) := by
  intro x4 v0 h
  rw [f_Ears_isFit_b50]
  refine r_aload_n (pc := 50) (i := 0) d_Ears_isFit_50 rfl rfl ?_
  refine r_getf (pc := 51) (ci := 4) (k := 2) (C := "CricketHay$Ears") (T := F_4) (N := 12) (v := .ref 369) (fun s => Std.k s (lc hn rfl) kq_366) rfl (Nat.le_of_ble_eq_true rfl) rfl w_319 (fun s => vr rfl (Std.r s (lc hn rfl) rq_366_2)) d_Ears_isFit_51 ?_
  refine r_iload (pc := 54) d_Ears_isFit_54 rfl ?_
  refine r_gx (fun zq1 => ?_)
  refine r_zald (pc := 56) (n := 30) (i0 := (ix x4)) (fun s => Std.k s (lc hn rfl) kq_369) zq1 rfl d_Ears_isFit_56 ?_
  refine r_icmp_eq (pc := 57) (tgt := 62) d_Ears_isFit_57 (by rfl) ?_ ?_
  · refine r_ltE (fun xq2 exq2 => ?_)
    refine r_iinc (pc := 62) (v := xq2) (lv1 := [some (.ref 366), some (.ref a1), some (.int a2), some (.int a3), some (.int xq2)]) d_Ears_isFit_62 rfl exq2.symm (Nat.le_of_ble_eq_true rfl) rfl ?_
    refine r_goto (pc := 65) (tgt := 3) d_Ears_isFit_65 (by rfl) ?_
    exact r_wk (hk3 xq2 h) ⟨rfl, ⟨rfl, ⟨rfl, ⟨rfl, ⟨rfl, trivial⟩⟩⟩⟩⟩
  · refine r_iconst (pc := 60) (v := 0) d_Ears_isFit_60 (by rfl) ?_
    exact r_zret (pc := 61) rfl rfl d_Ears_isFit_61
def f_Ears_isFit_l3  (a1 : Nat) (a2 : Int32) (a3 : Int32)  : Nat → Int32 → AH → Option (Int32 × AH)
  | 0, _, _ => none
  | n + 1, x4, h =>
    if (hI h 366 10) ≤ x4 then
      some ((1 : Int32), h)
    else
      bI (f_Ears_counts x4 a3 h) fun rq1 hq2 =>
      if rq1 = 0 then
        lt (x4 + (1 : Int32)) fun xq3 =>
        f_Ears_isFit_l3 a1 a2 a3 n xq3 hq2
      else
        gx x4 30 <|
        bI (f_Ears_sings a1 (hI hq2 367 (ix x4)) a2 hq2) fun rq5 hq6 =>
        gx x4 30 <|
        if rq5 < (hI hq6 368 (ix x4)) then
          f_Ears_isFit_b50 a1 a2 a3 (f_Ears_isFit_l3 a1 a2 a3 n) x4 (0 : Int32) hq6
        else
          f_Ears_isFit_b50 a1 a2 a3 (f_Ears_isFit_l3 a1 a2 a3 n) x4 (1 : Int32) hq6
set_option maxHeartbeats 2000000 in
theorem o_Ears_isFit_l3 {G : AE} {n : Nat} (hn : NN ≤ n)  {a1 : Nat} {a2 : Int32} {a3 : Int32} (ha1 : kdF a1 = .inr 7)  : ∀ (n0 : Nat) (x4 : Int32) (h : AH), AJ G n y_Ears_isFit (5) φI 3 [some (.ref 366), some (.ref a1), some (.int a2), some (.int a3), some (.int x4)] [] h (f_Ears_isFit_l3 a1 a2 a3 n0 x4 h) := by
  intro n0
  induction n0 with
  | zero => intros; exact r_none
  | succ n0 ih =>
    intro x4 h
    rw [f_Ears_isFit_l3]
    refine r_iload (pc := 3) d_Ears_isFit_3 rfl ?_
    refine r_aload_n (pc := 5) (i := 0) d_Ears_isFit_5 rfl rfl ?_
    refine r_getf (pc := 6) (ci := 4) (k := 10) (C := "CricketHay$Ears") (T := F_4) (N := 12) (v := .int (hI h 366 10)) (fun s => Std.k s (lc hn rfl) kq_366) rfl (Nat.le_of_ble_eq_true rfl) rfl w_327 (fun _ => rfl) d_Ears_isFit_6 ?_
    refine r_icmp_ge (pc := 9) (tgt := 68) d_Ears_isFit_9 (by rfl) ?_ ?_
    · refine r_iconst (pc := 68) (v := 1) d_Ears_isFit_68 (by rfl) ?_
      exact r_zret (pc := 69) rfl rfl d_Ears_isFit_69
    · refine r_aload_n (pc := 12) (i := 0) d_Ears_isFit_12 rfl rfl ?_
      refine r_iload (pc := 13) d_Ears_isFit_13 rfl ?_
      refine r_iload_n (pc := 15) (i := 3) d_Ears_isFit_15 rfl rfl ?_
      refine r_cVi (pc := 16) (T := F_4) (N := 12) (st := []) (ok_Ears_counts hn x4 a3 h) (fun s => Std.k s (lc hn rfl) kq_366) rfl w_1036 w_9 w_1033 w_1035 ws_44 hy_Ears_counts ⟨Nat.le_of_ble_eq_true rfl, Nat.le_of_ble_eq_true rfl⟩ ⟨Nat.le_of_ble_eq_true rfl, Nat.le_of_ble_eq_true rfl⟩ rfl (Nat.le_of_ble_eq_true rfl) d_Ears_isFit_16 (fun rq1 hq2 => ?_)
      refine r_if_eq (pc := 19) (tgt := 62) d_Ears_isFit_19 (by rfl) ?_ ?_
      · refine r_ltE (fun xq3 exq3 => ?_)
        refine r_iinc (pc := 62) (v := xq3) (lv1 := [some (.ref 366), some (.ref a1), some (.int a2), some (.int a3), some (.int xq3)]) d_Ears_isFit_62 rfl exq3.symm (Nat.le_of_ble_eq_true rfl) rfl ?_
        refine r_goto (pc := 65) (tgt := 3) d_Ears_isFit_65 (by rfl) ?_
        exact r_wk (ih xq3 hq2) ⟨rfl, ⟨rfl, ⟨rfl, ⟨rfl, ⟨rfl, trivial⟩⟩⟩⟩⟩
      · refine r_aload_n (pc := 22) (i := 0) d_Ears_isFit_22 rfl rfl ?_
        refine r_aload_n (pc := 23) (i := 1) d_Ears_isFit_23 rfl rfl ?_
        refine r_aload_n (pc := 24) (i := 0) d_Ears_isFit_24 rfl rfl ?_
        refine r_getf (pc := 25) (ci := 4) (k := 0) (C := "CricketHay$Ears") (T := F_4) (N := 12) (v := .ref 367) (fun s => Std.k s (lc hn rfl) kq_366) rfl (Nat.le_of_ble_eq_true rfl) rfl w_317 (fun s => vr rfl (Std.r s (lc hn rfl) rq_366_0)) d_Ears_isFit_25 ?_
        refine r_iload (pc := 28) d_Ears_isFit_28 rfl ?_
        refine r_gx (fun zq4 => ?_)
        refine r_iald (pc := 30) (n := 30) (i0 := (ix x4)) (fun s => Std.k s (lc hn rfl) kq_367) zq4 rfl d_Ears_isFit_30 ?_
        refine r_iload_n (pc := 31) (i := 2) d_Ears_isFit_31 rfl rfl ?_
        refine r_cVi (pc := 32) (T := F_4) (N := 12) (st := []) (ok_Ears_sings hn a1 ha1 (hI hq2 367 (ix x4)) a2 hq2) (fun s => Std.k s (lc hn rfl) kq_366) rfl w_1040 w_9 w_1037 w_1039 ws_45 hy_Ears_sings ⟨Nat.le_of_ble_eq_true rfl, Nat.le_of_ble_eq_true rfl⟩ ⟨Nat.le_of_ble_eq_true rfl, Nat.le_of_ble_eq_true rfl⟩ rfl (Nat.le_of_ble_eq_true rfl) d_Ears_isFit_32 (fun rq5 hq6 => ?_)
        refine r_aload_n (pc := 35) (i := 0) d_Ears_isFit_35 rfl rfl ?_
        refine r_getf (pc := 36) (ci := 4) (k := 1) (C := "CricketHay$Ears") (T := F_4) (N := 12) (v := .ref 368) (fun s => Std.k s (lc hn rfl) kq_366) rfl (Nat.le_of_ble_eq_true rfl) rfl w_318 (fun s => vr rfl (Std.r s (lc hn rfl) rq_366_1)) d_Ears_isFit_36 ?_
        refine r_iload (pc := 39) d_Ears_isFit_39 rfl ?_
        refine r_gx (fun zq7 => ?_)
        refine r_iald (pc := 41) (n := 30) (i0 := (ix x4)) (fun s => Std.k s (lc hn rfl) kq_368) zq7 rfl d_Ears_isFit_41 ?_
        refine r_icmp_lt (pc := 42) (tgt := 49) d_Ears_isFit_42 (by rfl) ?_ ?_
        · refine r_iconst (pc := 49) (v := 0) d_Ears_isFit_49 (by rfl) ?_
          exact r_wk (o_Ears_isFit_b50 hn ha1 ih x4 (0 : Int32) hq6) ⟨rfl, ⟨rfl, ⟨rfl, ⟨rfl, ⟨rfl, trivial⟩⟩⟩⟩⟩
        · refine r_iconst (pc := 45) (v := 1) d_Ears_isFit_45 (by rfl) ?_
          refine r_goto (pc := 46) (tgt := 50) d_Ears_isFit_46 (by rfl) ?_
          exact r_wk (o_Ears_isFit_b50 hn ha1 ih x4 (1 : Int32) hq6) ⟨rfl, ⟨rfl, ⟨rfl, ⟨rfl, ⟨rfl, trivial⟩⟩⟩⟩⟩
def f_Ears_isFit  (a1 : Nat) (a2 : Int32) (a3 : Int32) (h : AH) : Option (Int32 × AH) :=
  f_Ears_isFit_l3 a1 a2 a3 FU (0 : Int32) h
set_option maxHeartbeats 2000000 in
theorem ok_Ears_isFit {G : AE} {n : Nat} (hn : NN ≤ n)  (a1 : Nat) (ha1 : kdF a1 = .inr 7) (a2 : Int32) (a3 : Int32) (h : AH) : OK G n y_Ears_isFit (5) φI [.ref 366, .ref a1, .int a2, .int a3] h (f_Ears_isFit a1 a2 a3 h) := by
  refine ok_of (y := y_Ears_isFit) (lv0 := [some (.ref 366), some (.ref a1), some (.int a2), some (.int a3), none]) (by decide +kernel) (Nat.le_of_ble_eq_true rfl) ⟨rfl, ⟨rfl, ⟨rfl, ⟨rfl, trivial⟩⟩⟩⟩ ?_
  rw [f_Ears_isFit]
  refine r_iconst (pc := 0) (v := 0) d_Ears_isFit_0 (by rfl) ?_
  refine r_istore (pc := 1) (lv1 := [some (.ref 366), some (.ref a1), some (.int a2), some (.int a3), some (.int (0 : Int32))]) d_Ears_isFit_1 (Nat.le_of_ble_eq_true rfl) rfl ?_
  exact r_wk (o_Ears_isFit_l3 hn ha1 FU (0 : Int32) h) ⟨rfl, ⟨rfl, ⟨rfl, ⟨rfl, ⟨rfl, trivial⟩⟩⟩⟩⟩

def f_Ears_findFits_l54  (a1 : Nat) (a2 : Nat) (a3 : Int32)  : Nat → Int32 → AH → Option (Int32 × AH)
  | 0, _, _ => none
  | n + 1, x4, h =>
    if (nI 100) ≤ x4 then
      some ((hI h 366 9), h)
    else
      bI (f_Ears_isFit a1 x4 a3 h) fun rq1 hq2 =>
      gx x4 100 <|
      lt (sI hq2 372 (ix x4) (vp_nar .boolean rq1)) fun hq4 =>
      gx x4 100 <|
      if (hI hq4 372 (ix x4)) = 0 then
        lt (x4 + (1 : Int32)) fun xq6 =>
        f_Ears_findFits_l54 a1 a2 a3 n xq6 hq4
      else
        lt (sI hq4 366 9 ((hI hq4 366 9) + (1 : Int32))) fun hq7 =>
        lt (x4 + (1 : Int32)) fun xq8 =>
        f_Ears_findFits_l54 a1 a2 a3 n xq8 hq7
set_option maxHeartbeats 2000000 in
theorem o_Ears_findFits_l54 {G : AE} {n : Nat} (hn : NN ≤ n)  {a1 : Nat} {a2 : Nat} {a3 : Int32} (ha1 : kdF a1 = .inr 7) (ha2 : kdF a2 = .inr 10)  : ∀ (n0 : Nat) (x4 : Int32) (h : AH), AJ G n y_Ears_findFits (6) φI 54 [some (.ref 366), some (.ref a1), none, some (.int a3), some (.int x4)] [] h (f_Ears_findFits_l54 a1 a2 a3 n0 x4 h) := by
  intro n0
  induction n0 with
  | zero => intros; exact r_none
  | succ n0 ih =>
    intro x4 h
    rw [f_Ears_findFits_l54]
    refine r_iload (pc := 54) d_Ears_findFits_54 rfl ?_
    refine r_aload_n (pc := 56) (i := 0) d_Ears_findFits_56 rfl rfl ?_
    refine r_getf (pc := 57) (ci := 4) (k := 5) (C := "CricketHay$Ears") (T := F_4) (N := 12) (v := .ref 372) (fun s => Std.k s (lc hn rfl) kq_366) rfl (Nat.le_of_ble_eq_true rfl) rfl w_322 (fun s => vr rfl (Std.r s (lc hn rfl) rq_366_5)) d_Ears_findFits_57 ?_
    refine r_alen (pc := 60) (n := 100) (fun s => Std.k s (lc hn rfl) kq_372) d_Ears_findFits_60 ?_
    refine r_icmp_ge (pc := 61) (tgt := 105) d_Ears_findFits_61 (by rfl) ?_ ?_
    · refine r_aload_n (pc := 105) (i := 0) d_Ears_findFits_105 rfl rfl ?_
      refine r_getf (pc := 106) (ci := 4) (k := 9) (C := "CricketHay$Ears") (T := F_4) (N := 12) (v := .int (hI h 366 9)) (fun s => Std.k s (lc hn rfl) kq_366) rfl (Nat.le_of_ble_eq_true rfl) rfl w_326 (fun _ => rfl) d_Ears_findFits_106 ?_
      exact r_iret (pc := 109) rfl d_Ears_findFits_109
    · refine r_aload_n (pc := 64) (i := 0) d_Ears_findFits_64 rfl rfl ?_
      refine r_getf (pc := 65) (ci := 4) (k := 5) (C := "CricketHay$Ears") (T := F_4) (N := 12) (v := .ref 372) (fun s => Std.k s (lc hn rfl) kq_366) rfl (Nat.le_of_ble_eq_true rfl) rfl w_322 (fun s => vr rfl (Std.r s (lc hn rfl) rq_366_5)) d_Ears_findFits_65 ?_
      refine r_iload (pc := 68) d_Ears_findFits_68 rfl ?_
      refine r_aload_n (pc := 70) (i := 0) d_Ears_findFits_70 rfl rfl ?_
      refine r_aload_n (pc := 71) (i := 1) d_Ears_findFits_71 rfl rfl ?_
      refine r_iload (pc := 72) d_Ears_findFits_72 rfl ?_
      refine r_iload_n (pc := 74) (i := 3) d_Ears_findFits_74 rfl rfl ?_
      refine r_cVi (pc := 75) (T := F_4) (N := 12) (st := [.int x4, .ref 372]) (ok_Ears_isFit hn a1 ha1 x4 a3 h) (fun s => Std.k s (lc hn rfl) kq_366) rfl w_1032 w_9 w_1029 w_1031 ws_43 hy_Ears_isFit ⟨Nat.le_of_ble_eq_true rfl, Nat.le_of_ble_eq_true rfl⟩ ⟨Nat.le_of_ble_eq_true rfl, Nat.le_of_ble_eq_true rfl⟩ rfl (Nat.le_of_ble_eq_true rfl) d_Ears_findFits_75 (fun rq1 hq2 => ?_)
      refine r_gx (fun zq3 => ?_)
      refine r_zast (pc := 78) (n := 100) (i0 := (ix x4)) (fun s => Std.k s (lc hn rfl) kq_372) zq3 rfl (fun s => Std.sI s _ _ _) d_Ears_findFits_78 ?_
      refine r_ltH (fun hq4 => ?_)
      refine r_aload_n (pc := 79) (i := 0) d_Ears_findFits_79 rfl rfl ?_
      refine r_getf (pc := 80) (ci := 4) (k := 5) (C := "CricketHay$Ears") (T := F_4) (N := 12) (v := .ref 372) (fun s => Std.k s (lc hn rfl) kq_366) rfl (Nat.le_of_ble_eq_true rfl) rfl w_322 (fun s => vr rfl (Std.r s (lc hn rfl) rq_366_5)) d_Ears_findFits_80 ?_
      refine r_iload (pc := 83) d_Ears_findFits_83 rfl ?_
      refine r_gx (fun zq5 => ?_)
      refine r_zald (pc := 85) (n := 100) (i0 := (ix x4)) (fun s => Std.k s (lc hn rfl) kq_372) zq5 rfl d_Ears_findFits_85 ?_
      refine r_if_eq (pc := 86) (tgt := 99) d_Ears_findFits_86 (by rfl) ?_ ?_
      · refine r_ltE (fun xq6 exq6 => ?_)
        refine r_iinc (pc := 99) (v := xq6) (lv1 := [some (.ref 366), some (.ref a1), none, some (.int a3), some (.int xq6)]) d_Ears_findFits_99 rfl exq6.symm (Nat.le_of_ble_eq_true rfl) rfl ?_
        refine r_goto (pc := 102) (tgt := 54) d_Ears_findFits_102 (by rfl) ?_
        exact r_wk (ih xq6 hq4) ⟨rfl, ⟨rfl, ⟨rfl, ⟨rfl, trivial⟩⟩⟩⟩
      · refine r_aload_n (pc := 89) (i := 0) d_Ears_findFits_89 rfl rfl ?_
        refine r_dup (pc := 90) d_Ears_findFits_90 rfl ?_
        refine r_getf (pc := 91) (ci := 4) (k := 9) (C := "CricketHay$Ears") (T := F_4) (N := 12) (v := .int (hI hq4 366 9)) (fun s => Std.k s (lc hn rfl) kq_366) rfl (Nat.le_of_ble_eq_true rfl) rfl w_326 (fun _ => rfl) d_Ears_findFits_91 ?_
        refine r_iconst (pc := 94) (v := 1) d_Ears_findFits_94 (by rfl) ?_
        refine r_iadd (pc := 95) d_Ears_findFits_95 ?_
        refine r_putI (pc := 96) (ci := 4) (k := 9) (C := "CricketHay$Ears") (T := F_4) (N := 12) (fun s => Std.k s (lc hn rfl) kq_366) rfl (Nat.le_of_ble_eq_true rfl) rfl rfl w_326 (fun _ _ => rfl) (fun _ => rfl) (fun _ => rfl) (fun s => Std.sI s _ _ _) d_Ears_findFits_96 ?_
        refine r_ltH (fun hq7 => ?_)
        refine r_ltE (fun xq8 exq8 => ?_)
        refine r_iinc (pc := 99) (v := xq8) (lv1 := [some (.ref 366), some (.ref a1), none, some (.int a3), some (.int xq8)]) d_Ears_findFits_99 rfl exq8.symm (Nat.le_of_ble_eq_true rfl) rfl ?_
        refine r_goto (pc := 102) (tgt := 54) d_Ears_findFits_102 (by rfl) ?_
        exact r_wk (ih xq8 hq7) ⟨rfl, ⟨rfl, ⟨rfl, ⟨rfl, trivial⟩⟩⟩⟩
def f_Ears_findFits_b46  (a1 : Nat) (a2 : Nat) (a3 : Int32)   (h : AH) : Option (Int32 × AH) :=
  lt (sI h 366 9 (0 : Int32)) fun hq1 =>
  f_Ears_findFits_l54 a1 a2 a3 FU (0 : Int32) hq1
set_option maxHeartbeats 2000000 in
theorem o_Ears_findFits_b46 {G : AE} {n : Nat} (hn : NN ≤ n)  {a1 : Nat} {a2 : Nat} {a3 : Int32} (ha1 : kdF a1 = .inr 7) (ha2 : kdF a2 = .inr 10)  : ∀  (h : AH), AJ G n y_Ears_findFits (6) φI 46 [some (.ref 366), some (.ref a1), none, some (.int a3), none] [] h (f_Ears_findFits_b46 a1 a2 a3 h) := by
  intro  h
  rw [f_Ears_findFits_b46]
  refine r_aload_n (pc := 46) (i := 0) d_Ears_findFits_46 rfl rfl ?_
  refine r_iconst (pc := 47) (v := 0) d_Ears_findFits_47 (by rfl) ?_
  refine r_putI (pc := 48) (ci := 4) (k := 9) (C := "CricketHay$Ears") (T := F_4) (N := 12) (fun s => Std.k s (lc hn rfl) kq_366) rfl (Nat.le_of_ble_eq_true rfl) rfl rfl w_326 (fun _ _ => rfl) (fun _ => rfl) (fun _ => rfl) (fun s => Std.sI s _ _ _) d_Ears_findFits_48 ?_
  refine r_ltH (fun hq1 => ?_)
  refine r_iconst (pc := 51) (v := 0) d_Ears_findFits_51 (by rfl) ?_
  refine r_istore (pc := 52) (lv1 := [some (.ref 366), some (.ref a1), none, some (.int a3), some (.int (0 : Int32))]) d_Ears_findFits_52 (Nat.le_of_ble_eq_true rfl) rfl ?_
  exact r_wk (o_Ears_findFits_l54 hn ha1 ha2 FU (0 : Int32) hq1) ⟨rfl, ⟨rfl, ⟨rfl, ⟨rfl, trivial⟩⟩⟩⟩
def f_Ears_findFits_b22  (a1 : Nat) (a2 : Nat) (a3 : Int32)   (h : AH) : Option (Int32 × AH) :=
  lt (sI h 366 7 (hI h a2 7)) fun hq1 =>
  lt (sI hq1 366 8 (hI hq1 a2 8)) fun hq2 =>
  bV (f_JArrays_fill 373 (-1 : Int32) hq2) fun hq3 =>
  f_Ears_findFits_b46 a1 a2 a3 hq3
set_option maxHeartbeats 2000000 in
theorem o_Ears_findFits_b22 {G : AE} {n : Nat} (hn : NN ≤ n)  {a1 : Nat} {a2 : Nat} {a3 : Int32} (ha1 : kdF a1 = .inr 7) (ha2 : kdF a2 = .inr 10)  : ∀  (h : AH), AJ G n y_Ears_findFits (6) φI 22 [some (.ref 366), some (.ref a1), some (.ref a2), some (.int a3), none] [] h (f_Ears_findFits_b22 a1 a2 a3 h) := by
  intro  h
  rw [f_Ears_findFits_b22]
  refine r_aload_n (pc := 22) (i := 0) d_Ears_findFits_22 rfl rfl ?_
  refine r_aload_n (pc := 23) (i := 2) d_Ears_findFits_23 rfl rfl ?_
  refine r_getf (pc := 24) (ci := 10) (k := 7) (C := "CricketHay$Yard") (T := F_10) (N := 10) (v := .int (hI h a2 7)) (fun s => Std.k s (ltn (cm hn) (kl_Y ha2)) ha2) rfl (Nat.le_of_ble_eq_true rfl) rfl w_231 (fun _ => rfl) d_Ears_findFits_24 ?_
  refine r_putI (pc := 27) (ci := 4) (k := 7) (C := "CricketHay$Ears") (T := F_4) (N := 12) (fun s => Std.k s (lc hn rfl) kq_366) rfl (Nat.le_of_ble_eq_true rfl) rfl rfl w_324 (fun _ _ => rfl) (fun _ => rfl) (fun _ => rfl) (fun s => Std.sI s _ _ _) d_Ears_findFits_27 ?_
  refine r_ltH (fun hq1 => ?_)
  refine r_aload_n (pc := 30) (i := 0) d_Ears_findFits_30 rfl rfl ?_
  refine r_aload_n (pc := 31) (i := 2) d_Ears_findFits_31 rfl rfl ?_
  refine r_getf (pc := 32) (ci := 10) (k := 8) (C := "CricketHay$Yard") (T := F_10) (N := 10) (v := .int (hI hq1 a2 8)) (fun s => Std.k s (ltn (cm hn) (kl_Y ha2)) ha2) rfl (Nat.le_of_ble_eq_true rfl) rfl w_235 (fun _ => rfl) d_Ears_findFits_32 ?_
  refine r_putI (pc := 35) (ci := 4) (k := 8) (C := "CricketHay$Ears") (T := F_4) (N := 12) (fun s => Std.k s (lc hn rfl) kq_366) rfl (Nat.le_of_ble_eq_true rfl) rfl rfl w_325 (fun _ _ => rfl) (fun _ => rfl) (fun _ => rfl) (fun s => Std.sI s _ _ _) d_Ears_findFits_35 ?_
  refine r_ltH (fun hq2 => ?_)
  refine r_aload_n (pc := 38) (i := 0) d_Ears_findFits_38 rfl rfl ?_
  refine r_getf (pc := 39) (ci := 4) (k := 6) (C := "CricketHay$Ears") (T := F_4) (N := 12) (v := .ref 373) (fun s => Std.k s (lc hn rfl) kq_366) rfl (Nat.le_of_ble_eq_true rfl) rfl w_323 (fun s => vr rfl (Std.r s (lc hn rfl) rq_366_6)) d_Ears_findFits_39 ?_
  refine r_iconst (pc := 42) (v := -1) d_Ears_findFits_42 (by rfl) ?_
  refine r_cSv (pc := 43) (st := []) (ok_JArrays_fill hn 373 (-1 : Int32) hq2) w_790 w_20 w_1028 w_789 hy_JArrays_fill ⟨Nat.le_of_ble_eq_true rfl, Nat.le_of_ble_eq_true rfl⟩ ⟨Nat.le_of_ble_eq_true rfl, Nat.le_of_ble_eq_true rfl⟩ rfl (Nat.le_of_ble_eq_true rfl) d_Ears_findFits_43 (fun hq3 => ?_)
  exact r_wk (o_Ears_findFits_b46 hn ha1 ha2 hq3) ⟨rfl, ⟨rfl, ⟨rfl, trivial⟩⟩⟩
def f_Ears_findFits  (a1 : Nat) (a2 : Nat) (a3 : Int32) (h : AH) : Option (Int32 × AH) :=
  if ¬ (hI h 366 7) = (hI h a2 7) then
    f_Ears_findFits_b22 a1 a2 a3 h
  else
    if (hI h 366 8) = (hI h a2 8) then
      f_Ears_findFits_b46 a1 a2 a3 h
    else
      f_Ears_findFits_b22 a1 a2 a3 h
set_option maxHeartbeats 2000000 in
theorem ok_Ears_findFits {G : AE} {n : Nat} (hn : NN ≤ n)  (a1 : Nat) (ha1 : kdF a1 = .inr 7) (a2 : Nat) (ha2 : kdF a2 = .inr 10) (a3 : Int32) (h : AH) : OK G n y_Ears_findFits (6) φI [.ref 366, .ref a1, .ref a2, .int a3] h (f_Ears_findFits a1 a2 a3 h) := by
  refine ok_of (y := y_Ears_findFits) (lv0 := [some (.ref 366), some (.ref a1), some (.ref a2), some (.int a3), none]) (by decide +kernel) (Nat.le_of_ble_eq_true rfl) ⟨rfl, ⟨rfl, ⟨rfl, ⟨rfl, trivial⟩⟩⟩⟩ ?_
  rw [f_Ears_findFits]
  refine r_aload_n (pc := 0) (i := 0) d_Ears_findFits_0 rfl rfl ?_
  refine r_getf (pc := 1) (ci := 4) (k := 7) (C := "CricketHay$Ears") (T := F_4) (N := 12) (v := .int (hI h 366 7)) (fun s => Std.k s (lc hn rfl) kq_366) rfl (Nat.le_of_ble_eq_true rfl) rfl w_324 (fun _ => rfl) d_Ears_findFits_1 ?_
  refine r_aload_n (pc := 4) (i := 2) d_Ears_findFits_4 rfl rfl ?_
  refine r_getf (pc := 5) (ci := 10) (k := 7) (C := "CricketHay$Yard") (T := F_10) (N := 10) (v := .int (hI h a2 7)) (fun s => Std.k s (ltn (cm hn) (kl_Y ha2)) ha2) rfl (Nat.le_of_ble_eq_true rfl) rfl w_231 (fun _ => rfl) d_Ears_findFits_5 ?_
  refine r_icmp_ne (pc := 8) (tgt := 22) d_Ears_findFits_8 (by rfl) ?_ ?_
  · exact r_wk (o_Ears_findFits_b22 hn ha1 ha2 h) ⟨rfl, ⟨rfl, ⟨rfl, ⟨rfl, trivial⟩⟩⟩⟩
  · refine r_aload_n (pc := 11) (i := 0) d_Ears_findFits_11 rfl rfl ?_
    refine r_getf (pc := 12) (ci := 4) (k := 8) (C := "CricketHay$Ears") (T := F_4) (N := 12) (v := .int (hI h 366 8)) (fun s => Std.k s (lc hn rfl) kq_366) rfl (Nat.le_of_ble_eq_true rfl) rfl w_325 (fun _ => rfl) d_Ears_findFits_12 ?_
    refine r_aload_n (pc := 15) (i := 2) d_Ears_findFits_15 rfl rfl ?_
    refine r_getf (pc := 16) (ci := 10) (k := 8) (C := "CricketHay$Yard") (T := F_10) (N := 10) (v := .int (hI h a2 8)) (fun s => Std.k s (ltn (cm hn) (kl_Y ha2)) ha2) rfl (Nat.le_of_ble_eq_true rfl) rfl w_235 (fun _ => rfl) d_Ears_findFits_16 ?_
    refine r_icmp_eq (pc := 19) (tgt := 46) d_Ears_findFits_19 (by rfl) ?_ ?_
    · exact r_wk (o_Ears_findFits_b46 hn ha1 ha2 h) ⟨rfl, ⟨rfl, ⟨rfl, trivial⟩⟩⟩
    · exact r_wk (o_Ears_findFits_b22 hn ha1 ha2 h) ⟨rfl, ⟨rfl, ⟨rfl, ⟨rfl, trivial⟩⟩⟩⟩

def f_H_fits  (a1 : Int32) (h : AH) : Option (Int32 × AH) :=
  gd h 0 1 7 fun cq1 =>
  bI (f_Ears_findFits cq1 37 a1 h) fun rq2 hq3 =>
  some (rq2, hq3)
set_option maxHeartbeats 2000000 in
theorem ok_H_fits {G : AE} {n : Nat} (hn : NN ≤ n)  (a1 : Int32) (h : AH) : OK G n y_H_fits (7) φI [.ref 0, .int a1] h (f_H_fits a1 h) := by
  refine ok_of (y := y_H_fits) (lv0 := [some (.ref 0), some (.int a1)]) (by decide +kernel) (Nat.le_of_ble_eq_true rfl) ⟨rfl, ⟨rfl, trivial⟩⟩ ?_
  rw [f_H_fits]
  refine r_aload_n (pc := 0) (i := 0) d_H_fits_0 rfl rfl ?_
  refine r_getf (pc := 1) (ci := 11) (k := 8) (C := "CricketHay") (T := F_11) (N := 13) (v := .ref 366) (fun s => Std.k s (lc hn rfl) kq_0) rfl (Nat.le_of_ble_eq_true rfl) rfl w_430 (fun s => vr rfl (Std.r s (lc hn rfl) rq_0_8)) d_H_fits_1 ?_
  refine r_aload_n (pc := 4) (i := 0) d_H_fits_4 rfl rfl ?_
  refine r_gd (fun cq1 rcq1 kcq1 => ?_)
  refine r_getf (pc := 5) (ci := 11) (k := 1) (C := "CricketHay") (T := F_11) (N := 13) (v := .ref cq1) (fun s => Std.k s (lc hn rfl) kq_0) rfl (Nat.le_of_ble_eq_true rfl) rfl w_423 (fun _ => vr rfl rcq1) d_H_fits_5 ?_
  refine r_aload_n (pc := 8) (i := 0) d_H_fits_8 rfl rfl ?_
  refine r_getf (pc := 9) (ci := 11) (k := 3) (C := "CricketHay") (T := F_11) (N := 13) (v := .ref 37) (fun s => Std.k s (lc hn rfl) kq_0) rfl (Nat.le_of_ble_eq_true rfl) rfl w_425 (fun s => vr rfl (Std.r s (lc hn rfl) rq_0_3)) d_H_fits_9 ?_
  refine r_iload_n (pc := 12) (i := 1) d_H_fits_12 rfl rfl ?_
  refine r_cVi (pc := 13) (T := F_4) (N := 12) (st := []) (ok_Ears_findFits hn cq1 kcq1 37 kq_37 a1 h) (fun s => Std.k s (lc hn rfl) kq_366) rfl w_1027 w_9 w_1024 w_1025 w_1026 hy_Ears_findFits ⟨Nat.le_of_ble_eq_true rfl, Nat.le_of_ble_eq_true rfl⟩ ⟨Nat.le_of_ble_eq_true rfl, Nat.le_of_ble_eq_true rfl⟩ rfl (Nat.le_of_ble_eq_true rfl) d_H_fits_13 (fun rq2 hq3 => ?_)
  exact r_iret (pc := 16) rfl d_H_fits_16

def f_Ears_onlySong_b38   (k4 : Int32 → Int32 → AH → Option (Int32 × AH)) (x2 : Int32) (h : AH) : Option (Int32 × AH) :=
  lt (x2 / (10 : Int32)) fun xq1 =>
  lt (x2 + (1 : Int32)) fun xq2 =>
  k4 xq1 xq2 h
set_option maxHeartbeats 2000000 in
theorem o_Ears_onlySong_b38 {G : AE} {n : Nat} (hn : NN ≤ n)    {k4 : Int32 → Int32 → AH → Option (Int32 × AH)} (hk4 : ∀ (x1 : Int32) (x2 : Int32) (h : AH), AJ G n y_Ears_onlySong (1) φI 4 [some (.ref 366), some (.int x1), some (.int x2)] [] h (k4 x1 x2 h)) : ∀ (x2 : Int32) (h : AH), AJ G n y_Ears_onlySong (1) φI 38 [some (.ref 366), none, some (.int x2)] [] h (f_Ears_onlySong_b38 k4 x2 h) := by
  intro x2 h
  rw [f_Ears_onlySong_b38]
  refine r_iload_n (pc := 38) (i := 2) d_Ears_onlySong_38 rfl rfl ?_
  refine r_bipush (pc := 39) (v := 10) d_Ears_onlySong_39 (by rfl) ?_
  refine r_idivC (pc := 41) (by decide) d_Ears_onlySong_41 ?_
  refine r_ltI (fun xq1 => ?_)
  refine r_istore_n (pc := 42) (i := 1) (lv1 := [some (.ref 366), some (.int xq1), some (.int x2)]) d_Ears_onlySong_42 rfl (Nat.le_of_ble_eq_true rfl) rfl ?_
  refine r_ltE (fun xq2 exq2 => ?_)
  refine r_iinc (pc := 43) (v := xq2) (lv1 := [some (.ref 366), some (.int xq1), some (.int xq2)]) d_Ears_onlySong_43 rfl exq2.symm (Nat.le_of_ble_eq_true rfl) rfl ?_
  refine r_goto (pc := 46) (tgt := 4) d_Ears_onlySong_46 (by rfl) ?_
  exact r_wk (hk4 xq1 xq2 h) ⟨rfl, ⟨rfl, ⟨rfl, trivial⟩⟩⟩
def f_Ears_onlySong_l4    : Nat → Int32 → Int32 → AH → Option (Int32 × AH)
  | 0, _, _, _ => none
  | n + 1, x1, x2, h =>
    if (nI 100) ≤ x2 then
      some (x1, h)
    else
      gx x2 100 <|
      if (hI h 372 (ix x2)) = 0 then
        lt (x2 + (1 : Int32)) fun xq2 =>
        f_Ears_onlySong_l4 n x1 xq2 h
      else
        if x1 = (-1 : Int32) then
          f_Ears_onlySong_b38 (f_Ears_onlySong_l4 n) x2 h
        else
          if x1 = (x2 / (10 : Int32)) then
            f_Ears_onlySong_b38 (f_Ears_onlySong_l4 n) x2 h
          else
            some ((-2 : Int32), h)
set_option maxHeartbeats 2000000 in
theorem o_Ears_onlySong_l4 {G : AE} {n : Nat} (hn : NN ≤ n)     : ∀ (n0 : Nat) (x1 : Int32) (x2 : Int32) (h : AH), AJ G n y_Ears_onlySong (1) φI 4 [some (.ref 366), some (.int x1), some (.int x2)] [] h (f_Ears_onlySong_l4 n0 x1 x2 h) := by
  intro n0
  induction n0 with
  | zero => intros; exact r_none
  | succ n0 ih =>
    intro x1 x2 h
    rw [f_Ears_onlySong_l4]
    refine r_iload_n (pc := 4) (i := 2) d_Ears_onlySong_4 rfl rfl ?_
    refine r_aload_n (pc := 5) (i := 0) d_Ears_onlySong_5 rfl rfl ?_
    refine r_getf (pc := 6) (ci := 4) (k := 5) (C := "CricketHay$Ears") (T := F_4) (N := 12) (v := .ref 372) (fun s => Std.k s (lc hn rfl) kq_366) rfl (Nat.le_of_ble_eq_true rfl) rfl w_322 (fun s => vr rfl (Std.r s (lc hn rfl) rq_366_5)) d_Ears_onlySong_6 ?_
    refine r_alen (pc := 9) (n := 100) (fun s => Std.k s (lc hn rfl) kq_372) d_Ears_onlySong_9 ?_
    refine r_icmp_ge (pc := 10) (tgt := 49) d_Ears_onlySong_10 (by rfl) ?_ ?_
    · refine r_iload_n (pc := 49) (i := 1) d_Ears_onlySong_49 rfl rfl ?_
      exact r_iret (pc := 50) rfl d_Ears_onlySong_50
    · refine r_aload_n (pc := 13) (i := 0) d_Ears_onlySong_13 rfl rfl ?_
      refine r_getf (pc := 14) (ci := 4) (k := 5) (C := "CricketHay$Ears") (T := F_4) (N := 12) (v := .ref 372) (fun s => Std.k s (lc hn rfl) kq_366) rfl (Nat.le_of_ble_eq_true rfl) rfl w_322 (fun s => vr rfl (Std.r s (lc hn rfl) rq_366_5)) d_Ears_onlySong_14 ?_
      refine r_iload_n (pc := 17) (i := 2) d_Ears_onlySong_17 rfl rfl ?_
      refine r_gx (fun zq1 => ?_)
      refine r_zald (pc := 18) (n := 100) (i0 := (ix x2)) (fun s => Std.k s (lc hn rfl) kq_372) zq1 rfl d_Ears_onlySong_18 ?_
      refine r_if_eq (pc := 19) (tgt := 43) d_Ears_onlySong_19 (by rfl) ?_ ?_
      · refine r_ltE (fun xq2 exq2 => ?_)
        refine r_iinc (pc := 43) (v := xq2) (lv1 := [some (.ref 366), some (.int x1), some (.int xq2)]) d_Ears_onlySong_43 rfl exq2.symm (Nat.le_of_ble_eq_true rfl) rfl ?_
        refine r_goto (pc := 46) (tgt := 4) d_Ears_onlySong_46 (by rfl) ?_
        exact r_wk (ih x1 xq2 h) ⟨rfl, ⟨rfl, ⟨rfl, trivial⟩⟩⟩
      · refine r_iload_n (pc := 22) (i := 1) d_Ears_onlySong_22 rfl rfl ?_
        refine r_iconst (pc := 23) (v := -1) d_Ears_onlySong_23 (by rfl) ?_
        refine r_icmp_eq (pc := 24) (tgt := 38) d_Ears_onlySong_24 (by rfl) ?_ ?_
        · exact r_wk (o_Ears_onlySong_b38 hn ih x2 h) ⟨rfl, ⟨rfl, trivial⟩⟩
        · refine r_iload_n (pc := 27) (i := 1) d_Ears_onlySong_27 rfl rfl ?_
          refine r_iload_n (pc := 28) (i := 2) d_Ears_onlySong_28 rfl rfl ?_
          refine r_bipush (pc := 29) (v := 10) d_Ears_onlySong_29 (by rfl) ?_
          refine r_idivC (pc := 31) (by decide) d_Ears_onlySong_31 ?_
          refine r_icmp_eq (pc := 32) (tgt := 38) d_Ears_onlySong_32 (by rfl) ?_ ?_
          · exact r_wk (o_Ears_onlySong_b38 hn ih x2 h) ⟨rfl, ⟨rfl, trivial⟩⟩
          · refine r_bipush (pc := 35) (v := -2) d_Ears_onlySong_35 (by rfl) ?_
            exact r_iret (pc := 37) rfl d_Ears_onlySong_37
def f_Ears_onlySong   (h : AH) : Option (Int32 × AH) :=
  f_Ears_onlySong_l4 FU (-1 : Int32) (0 : Int32) h
set_option maxHeartbeats 2000000 in
theorem ok_Ears_onlySong {G : AE} {n : Nat} (hn : NN ≤ n)   (h : AH) : OK G n y_Ears_onlySong (1) φI [.ref 366] h (f_Ears_onlySong h) := by
  refine ok_of (y := y_Ears_onlySong) (lv0 := [some (.ref 366), none, none]) (by decide +kernel) (Nat.le_of_ble_eq_true rfl) ⟨rfl, trivial⟩ ?_
  rw [f_Ears_onlySong]
  refine r_iconst (pc := 0) (v := -1) d_Ears_onlySong_0 (by rfl) ?_
  refine r_istore_n (pc := 1) (i := 1) (lv1 := [some (.ref 366), some (.int (-1 : Int32)), none]) d_Ears_onlySong_1 rfl (Nat.le_of_ble_eq_true rfl) rfl ?_
  refine r_iconst (pc := 2) (v := 0) d_Ears_onlySong_2 (by rfl) ?_
  refine r_istore_n (pc := 3) (i := 2) (lv1 := [some (.ref 366), some (.int (-1 : Int32)), some (.int (0 : Int32))]) d_Ears_onlySong_3 rfl (Nat.le_of_ble_eq_true rfl) rfl ?_
  exact r_wk (o_Ears_onlySong_l4 hn FU (-1 : Int32) (0 : Int32) h) ⟨rfl, ⟨rfl, ⟨rfl, trivial⟩⟩⟩

def f_H_sure  (a1 : Int32) (h : AH) : Option (Int32 × AH) :=
  gd h 0 1 7 fun cq1 =>
  bI (f_Ears_findFits cq1 37 a1 h) fun rq2 hq3 =>
  bI (f_Ears_onlySong hq3) fun rq4 hq5 =>
  some (rq4, hq5)
set_option maxHeartbeats 2000000 in
theorem ok_H_sure {G : AE} {n : Nat} (hn : NN ≤ n)  (a1 : Int32) (h : AH) : OK G n y_H_sure (7) φI [.ref 0, .int a1] h (f_H_sure a1 h) := by
  refine ok_of (y := y_H_sure) (lv0 := [some (.ref 0), some (.int a1)]) (by decide +kernel) (Nat.le_of_ble_eq_true rfl) ⟨rfl, ⟨rfl, trivial⟩⟩ ?_
  rw [f_H_sure]
  refine r_aload_n (pc := 0) (i := 0) d_H_sure_0 rfl rfl ?_
  refine r_getf (pc := 1) (ci := 11) (k := 8) (C := "CricketHay") (T := F_11) (N := 13) (v := .ref 366) (fun s => Std.k s (lc hn rfl) kq_0) rfl (Nat.le_of_ble_eq_true rfl) rfl w_430 (fun s => vr rfl (Std.r s (lc hn rfl) rq_0_8)) d_H_sure_1 ?_
  refine r_aload_n (pc := 4) (i := 0) d_H_sure_4 rfl rfl ?_
  refine r_gd (fun cq1 rcq1 kcq1 => ?_)
  refine r_getf (pc := 5) (ci := 11) (k := 1) (C := "CricketHay") (T := F_11) (N := 13) (v := .ref cq1) (fun s => Std.k s (lc hn rfl) kq_0) rfl (Nat.le_of_ble_eq_true rfl) rfl w_423 (fun _ => vr rfl rcq1) d_H_sure_5 ?_
  refine r_aload_n (pc := 8) (i := 0) d_H_sure_8 rfl rfl ?_
  refine r_getf (pc := 9) (ci := 11) (k := 3) (C := "CricketHay") (T := F_11) (N := 13) (v := .ref 37) (fun s => Std.k s (lc hn rfl) kq_0) rfl (Nat.le_of_ble_eq_true rfl) rfl w_425 (fun s => vr rfl (Std.r s (lc hn rfl) rq_0_3)) d_H_sure_9 ?_
  refine r_iload_n (pc := 12) (i := 1) d_H_sure_12 rfl rfl ?_
  refine r_cVi (pc := 13) (T := F_4) (N := 12) (st := []) (ok_Ears_findFits hn cq1 kcq1 37 kq_37 a1 h) (fun s => Std.k s (lc hn rfl) kq_366) rfl w_1027 w_9 w_1024 w_1025 w_1026 hy_Ears_findFits ⟨Nat.le_of_ble_eq_true rfl, Nat.le_of_ble_eq_true rfl⟩ ⟨Nat.le_of_ble_eq_true rfl, Nat.le_of_ble_eq_true rfl⟩ rfl (Nat.le_of_ble_eq_true rfl) d_H_sure_13 (fun rq2 hq3 => ?_)
  refine r_pop (pc := 16) d_H_sure_16 rfl ?_
  refine r_aload_n (pc := 17) (i := 0) d_H_sure_17 rfl rfl ?_
  refine r_getf (pc := 18) (ci := 11) (k := 8) (C := "CricketHay") (T := F_11) (N := 13) (v := .ref 366) (fun s => Std.k s (lc hn rfl) kq_0) rfl (Nat.le_of_ble_eq_true rfl) rfl w_430 (fun s => vr rfl (Std.r s (lc hn rfl) rq_0_8)) d_H_sure_18 ?_
  refine r_cVi (pc := 21) (T := F_4) (N := 12) (st := []) (ok_Ears_onlySong hn hq3) (fun s => Std.k s (lc hn rfl) kq_366) rfl w_1049 w_9 w_1046 w_1047 w_1048 hy_Ears_onlySong ⟨Nat.le_of_ble_eq_true rfl, Nat.le_of_ble_eq_true rfl⟩ ⟨Nat.le_of_ble_eq_true rfl, Nat.le_of_ble_eq_true rfl⟩ rfl (Nat.le_of_ble_eq_true rfl) d_H_sure_21 (fun rq4 hq5 => ?_)
  exact r_iret (pc := 24) rfl d_H_sure_24

def f_Ears_leftAtMost_l6  (a1 : Nat) (a2 : Int32) (a3 : Int32)  : Nat → Int32 → Int32 → AH → Option (Int32 × AH)
  | 0, _, _, _ => none
  | n + 1, x4, x5, h =>
    if (nI 100) ≤ x5 then
      some ((mx x4 ((hI h 366 9) - x4)), h)
    else
      gx x5 100 <|
      if (hI h 372 (ix x5)) = 0 then
        lt (x5 + (1 : Int32)) fun xq2 =>
        f_Ears_leftAtMost_l6 a1 a2 a3 n x4 xq2 h
      else
        bI (f_Ears_sings a1 a2 x5 h) fun rq3 hq4 =>
        if rq3 < a3 then
          lt (x5 + (1 : Int32)) fun xq5 =>
          f_Ears_leftAtMost_l6 a1 a2 a3 n x4 xq5 hq4
        else
          lt (x4 + (1 : Int32)) fun xq6 =>
          lt (x5 + (1 : Int32)) fun xq7 =>
          f_Ears_leftAtMost_l6 a1 a2 a3 n xq6 xq7 hq4
set_option maxHeartbeats 2000000 in
theorem o_Ears_leftAtMost_l6 {G : AE} {n : Nat} (hn : NN ≤ n)  {a1 : Nat} {a2 : Int32} {a3 : Int32} (ha1 : kdF a1 = .inr 7)  : ∀ (n0 : Nat) (x4 : Int32) (x5 : Int32) (h : AH), AJ G n y_Ears_leftAtMost (5) φI 6 [some (.ref 366), some (.ref a1), some (.int a2), some (.int a3), some (.int x4), some (.int x5)] [] h (f_Ears_leftAtMost_l6 a1 a2 a3 n0 x4 x5 h) := by
  intro n0
  induction n0 with
  | zero => intros; exact r_none
  | succ n0 ih =>
    intro x4 x5 h
    rw [f_Ears_leftAtMost_l6]
    refine r_iload (pc := 6) d_Ears_leftAtMost_6 rfl ?_
    refine r_aload_n (pc := 8) (i := 0) d_Ears_leftAtMost_8 rfl rfl ?_
    refine r_getf (pc := 9) (ci := 4) (k := 5) (C := "CricketHay$Ears") (T := F_4) (N := 12) (v := .ref 372) (fun s => Std.k s (lc hn rfl) kq_366) rfl (Nat.le_of_ble_eq_true rfl) rfl w_322 (fun s => vr rfl (Std.r s (lc hn rfl) rq_366_5)) d_Ears_leftAtMost_9 ?_
    refine r_alen (pc := 12) (n := 100) (fun s => Std.k s (lc hn rfl) kq_372) d_Ears_leftAtMost_12 ?_
    refine r_icmp_ge (pc := 13) (tgt := 47) d_Ears_leftAtMost_13 (by rfl) ?_ ?_
    · refine r_iload (pc := 47) d_Ears_leftAtMost_47 rfl ?_
      refine r_aload_n (pc := 49) (i := 0) d_Ears_leftAtMost_49 rfl rfl ?_
      refine r_getf (pc := 50) (ci := 4) (k := 9) (C := "CricketHay$Ears") (T := F_4) (N := 12) (v := .int (hI h 366 9)) (fun s => Std.k s (lc hn rfl) kq_366) rfl (Nat.le_of_ble_eq_true rfl) rfl w_326 (fun _ => rfl) d_Ears_leftAtMost_50 ?_
      refine r_iload (pc := 53) d_Ears_leftAtMost_53 rfl ?_
      refine r_isub (pc := 55) d_Ears_leftAtMost_55 ?_
      refine r_mmax (pc := 56) w_1058 w_698 w_18 w_699 (Nat.le_of_ble_eq_true rfl) (Nat.le_of_ble_eq_true rfl) ⟨Nat.le_of_ble_eq_true rfl, Nat.le_of_ble_eq_true rfl⟩ d_Ears_leftAtMost_56 ?_
      exact r_iret (pc := 59) rfl d_Ears_leftAtMost_59
    · refine r_aload_n (pc := 16) (i := 0) d_Ears_leftAtMost_16 rfl rfl ?_
      refine r_getf (pc := 17) (ci := 4) (k := 5) (C := "CricketHay$Ears") (T := F_4) (N := 12) (v := .ref 372) (fun s => Std.k s (lc hn rfl) kq_366) rfl (Nat.le_of_ble_eq_true rfl) rfl w_322 (fun s => vr rfl (Std.r s (lc hn rfl) rq_366_5)) d_Ears_leftAtMost_17 ?_
      refine r_iload (pc := 20) d_Ears_leftAtMost_20 rfl ?_
      refine r_gx (fun zq1 => ?_)
      refine r_zald (pc := 22) (n := 100) (i0 := (ix x5)) (fun s => Std.k s (lc hn rfl) kq_372) zq1 rfl d_Ears_leftAtMost_22 ?_
      refine r_if_eq (pc := 23) (tgt := 41) d_Ears_leftAtMost_23 (by rfl) ?_ ?_
      · refine r_ltE (fun xq2 exq2 => ?_)
        refine r_iinc (pc := 41) (v := xq2) (lv1 := [some (.ref 366), some (.ref a1), some (.int a2), some (.int a3), some (.int x4), some (.int xq2)]) d_Ears_leftAtMost_41 rfl exq2.symm (Nat.le_of_ble_eq_true rfl) rfl ?_
        refine r_goto (pc := 44) (tgt := 6) d_Ears_leftAtMost_44 (by rfl) ?_
        exact r_wk (ih x4 xq2 h) ⟨rfl, ⟨rfl, ⟨rfl, ⟨rfl, ⟨rfl, ⟨rfl, trivial⟩⟩⟩⟩⟩⟩
      · refine r_aload_n (pc := 26) (i := 0) d_Ears_leftAtMost_26 rfl rfl ?_
        refine r_aload_n (pc := 27) (i := 1) d_Ears_leftAtMost_27 rfl rfl ?_
        refine r_iload_n (pc := 28) (i := 2) d_Ears_leftAtMost_28 rfl rfl ?_
        refine r_iload (pc := 29) d_Ears_leftAtMost_29 rfl ?_
        refine r_cVi (pc := 31) (T := F_4) (N := 12) (st := []) (ok_Ears_sings hn a1 ha1 a2 x5 h) (fun s => Std.k s (lc hn rfl) kq_366) rfl w_1040 w_9 w_1037 w_1039 ws_45 hy_Ears_sings ⟨Nat.le_of_ble_eq_true rfl, Nat.le_of_ble_eq_true rfl⟩ ⟨Nat.le_of_ble_eq_true rfl, Nat.le_of_ble_eq_true rfl⟩ rfl (Nat.le_of_ble_eq_true rfl) d_Ears_leftAtMost_31 (fun rq3 hq4 => ?_)
        refine r_iload_n (pc := 34) (i := 3) d_Ears_leftAtMost_34 rfl rfl ?_
        refine r_icmp_lt (pc := 35) (tgt := 41) d_Ears_leftAtMost_35 (by rfl) ?_ ?_
        · refine r_ltE (fun xq5 exq5 => ?_)
          refine r_iinc (pc := 41) (v := xq5) (lv1 := [some (.ref 366), some (.ref a1), some (.int a2), some (.int a3), some (.int x4), some (.int xq5)]) d_Ears_leftAtMost_41 rfl exq5.symm (Nat.le_of_ble_eq_true rfl) rfl ?_
          refine r_goto (pc := 44) (tgt := 6) d_Ears_leftAtMost_44 (by rfl) ?_
          exact r_wk (ih x4 xq5 hq4) ⟨rfl, ⟨rfl, ⟨rfl, ⟨rfl, ⟨rfl, ⟨rfl, trivial⟩⟩⟩⟩⟩⟩
        · refine r_ltE (fun xq6 exq6 => ?_)
          refine r_iinc (pc := 38) (v := xq6) (lv1 := [some (.ref 366), some (.ref a1), some (.int a2), some (.int a3), some (.int xq6), some (.int x5)]) d_Ears_leftAtMost_38 rfl exq6.symm (Nat.le_of_ble_eq_true rfl) rfl ?_
          refine r_ltE (fun xq7 exq7 => ?_)
          refine r_iinc (pc := 41) (v := xq7) (lv1 := [some (.ref 366), some (.ref a1), some (.int a2), some (.int a3), some (.int xq6), some (.int xq7)]) d_Ears_leftAtMost_41 rfl exq7.symm (Nat.le_of_ble_eq_true rfl) rfl ?_
          refine r_goto (pc := 44) (tgt := 6) d_Ears_leftAtMost_44 (by rfl) ?_
          exact r_wk (ih xq6 xq7 hq4) ⟨rfl, ⟨rfl, ⟨rfl, ⟨rfl, ⟨rfl, ⟨rfl, trivial⟩⟩⟩⟩⟩⟩
def f_Ears_leftAtMost  (a1 : Nat) (a2 : Int32) (a3 : Int32) (h : AH) : Option (Int32 × AH) :=
  f_Ears_leftAtMost_l6 a1 a2 a3 FU (0 : Int32) (0 : Int32) h
set_option maxHeartbeats 2000000 in
theorem ok_Ears_leftAtMost {G : AE} {n : Nat} (hn : NN ≤ n)  (a1 : Nat) (ha1 : kdF a1 = .inr 7) (a2 : Int32) (a3 : Int32) (h : AH) : OK G n y_Ears_leftAtMost (5) φI [.ref 366, .ref a1, .int a2, .int a3] h (f_Ears_leftAtMost a1 a2 a3 h) := by
  refine ok_of (y := y_Ears_leftAtMost) (lv0 := [some (.ref 366), some (.ref a1), some (.int a2), some (.int a3), none, none]) (by decide +kernel) (Nat.le_of_ble_eq_true rfl) ⟨rfl, ⟨rfl, ⟨rfl, ⟨rfl, trivial⟩⟩⟩⟩ ?_
  rw [f_Ears_leftAtMost]
  refine r_iconst (pc := 0) (v := 0) d_Ears_leftAtMost_0 (by rfl) ?_
  refine r_istore (pc := 1) (lv1 := [some (.ref 366), some (.ref a1), some (.int a2), some (.int a3), some (.int (0 : Int32)), none]) d_Ears_leftAtMost_1 (Nat.le_of_ble_eq_true rfl) rfl ?_
  refine r_iconst (pc := 3) (v := 0) d_Ears_leftAtMost_3 (by rfl) ?_
  refine r_istore (pc := 4) (lv1 := [some (.ref 366), some (.ref a1), some (.int a2), some (.int a3), some (.int (0 : Int32)), some (.int (0 : Int32))]) d_Ears_leftAtMost_4 (Nat.le_of_ble_eq_true rfl) rfl ?_
  exact r_wk (o_Ears_leftAtMost_l6 hn ha1 FU (0 : Int32) (0 : Int32) h) ⟨rfl, ⟨rfl, ⟨rfl, ⟨rfl, ⟨rfl, ⟨rfl, trivial⟩⟩⟩⟩⟩⟩

def f_H_ask_l61  (a1 : Int32) (a2 : Int32) (a3 : Int32)  : Nat → Int32 → Int32 → Int32 → AH → Option (Int32 × AH)
  | 0, _, _, _, _ => none
  | n + 1, x4, x5, x6, h =>
    if (40 : Int32) < x6 then
      if ¬ a2 = 0 then
        some (x5, h)
      else
        some (x4, h)
    else
      gd h 0 1 7 fun cq1 =>
      bI (f_Ears_leftAtMost cq1 x6 a1 h) fun rq2 hq3 =>
      if x5 ≤ rq2 then
        lt (x6 + (1 : Int32)) fun xq4 =>
        f_H_ask_l61 a1 a2 a3 n x4 x5 xq4 hq3
      else
        lt (x6 + (1 : Int32)) fun xq5 =>
        f_H_ask_l61 a1 a2 a3 n x6 rq2 xq5 hq3
set_option maxHeartbeats 2000000 in
theorem o_H_ask_l61 {G : AE} {n : Nat} (hn : NN ≤ n)  {a1 : Int32} {a2 : Int32} {a3 : Int32}   : ∀ (n0 : Nat) (x4 : Int32) (x5 : Int32) (x6 : Int32) (h : AH), AJ G n y_H_ask (7) φI 61 [some (.ref 0), some (.int a1), some (.int a2), none, some (.int x4), some (.int x5), some (.int x6), none] [] h (f_H_ask_l61 a1 a2 a3 n0 x4 x5 x6 h) := by
  intro n0
  induction n0 with
  | zero => intros; exact r_none
  | succ n0 ih =>
    intro x4 x5 x6 h
    rw [f_H_ask_l61]
    refine r_iload (pc := 61) d_H_ask_61 rfl ?_
    refine r_bipush (pc := 63) (v := 40) d_H_ask_63 (by rfl) ?_
    refine r_icmp_gt (pc := 65) (tgt := 105) d_H_ask_65 (by rfl) ?_ ?_
    · refine r_iload_n (pc := 105) (i := 2) d_H_ask_105 rfl rfl ?_
      refine r_if_ne (pc := 106) (tgt := 114) d_H_ask_106 (by rfl) ?_ ?_
      · refine r_iload (pc := 114) d_H_ask_114 rfl ?_
        exact r_iret (pc := 116) rfl d_H_ask_116
      · refine r_iload (pc := 109) d_H_ask_109 rfl ?_
        refine r_goto (pc := 111) (tgt := 116) d_H_ask_111 (by rfl) ?_
        exact r_iret (pc := 116) rfl d_H_ask_116
    · refine r_aload_n (pc := 68) (i := 0) d_H_ask_68 rfl rfl ?_
      refine r_getf (pc := 69) (ci := 11) (k := 8) (C := "CricketHay") (T := F_11) (N := 13) (v := .ref 366) (fun s => Std.k s (lc hn rfl) kq_0) rfl (Nat.le_of_ble_eq_true rfl) rfl w_430 (fun s => vr rfl (Std.r s (lc hn rfl) rq_0_8)) d_H_ask_69 ?_
      refine r_aload_n (pc := 72) (i := 0) d_H_ask_72 rfl rfl ?_
      refine r_gd (fun cq1 rcq1 kcq1 => ?_)
      refine r_getf (pc := 73) (ci := 11) (k := 1) (C := "CricketHay") (T := F_11) (N := 13) (v := .ref cq1) (fun s => Std.k s (lc hn rfl) kq_0) rfl (Nat.le_of_ble_eq_true rfl) rfl w_423 (fun _ => vr rfl rcq1) d_H_ask_73 ?_
      refine r_iload (pc := 76) d_H_ask_76 rfl ?_
      refine r_iload_n (pc := 78) (i := 1) d_H_ask_78 rfl rfl ?_
      refine r_cVi (pc := 79) (T := F_4) (N := 12) (st := []) (ok_Ears_leftAtMost hn cq1 kcq1 x6 a1 h) (fun s => Std.k s (lc hn rfl) kq_366) rfl w_1057 w_9 w_1054 w_1055 w_1056 hy_Ears_leftAtMost ⟨Nat.le_of_ble_eq_true rfl, Nat.le_of_ble_eq_true rfl⟩ ⟨Nat.le_of_ble_eq_true rfl, Nat.le_of_ble_eq_true rfl⟩ rfl (Nat.le_of_ble_eq_true rfl) d_H_ask_79 (fun rq2 hq3 => ?_)
      refine r_istore (pc := 82) (lv1 := [some (.ref 0), some (.int a1), some (.int a2), none, some (.int x4), some (.int x5), some (.int x6), some (.int rq2)]) d_H_ask_82 (Nat.le_of_ble_eq_true rfl) rfl ?_
      refine r_iload (pc := 84) d_H_ask_84 rfl ?_
      refine r_iload (pc := 86) d_H_ask_86 rfl ?_
      refine r_icmp_ge (pc := 88) (tgt := 99) d_H_ask_88 (by rfl) ?_ ?_
      · refine r_ltE (fun xq4 exq4 => ?_)
        refine r_iinc (pc := 99) (v := xq4) (lv1 := [some (.ref 0), some (.int a1), some (.int a2), none, some (.int x4), some (.int x5), some (.int xq4), some (.int rq2)]) d_H_ask_99 rfl exq4.symm (Nat.le_of_ble_eq_true rfl) rfl ?_
        refine r_goto (pc := 102) (tgt := 61) d_H_ask_102 (by rfl) ?_
        exact r_wk (ih x4 x5 xq4 hq3) ⟨rfl, ⟨rfl, ⟨rfl, ⟨rfl, ⟨rfl, ⟨rfl, trivial⟩⟩⟩⟩⟩⟩
      · refine r_iload (pc := 91) d_H_ask_91 rfl ?_
        refine r_istore (pc := 93) (lv1 := [some (.ref 0), some (.int a1), some (.int a2), none, some (.int x4), some (.int rq2), some (.int x6), some (.int rq2)]) d_H_ask_93 (Nat.le_of_ble_eq_true rfl) rfl ?_
        refine r_iload (pc := 95) d_H_ask_95 rfl ?_
        refine r_istore (pc := 97) (lv1 := [some (.ref 0), some (.int a1), some (.int a2), none, some (.int x6), some (.int rq2), some (.int x6), some (.int rq2)]) d_H_ask_97 (Nat.le_of_ble_eq_true rfl) rfl ?_
        refine r_ltE (fun xq5 exq5 => ?_)
        refine r_iinc (pc := 99) (v := xq5) (lv1 := [some (.ref 0), some (.int a1), some (.int a2), none, some (.int x6), some (.int rq2), some (.int xq5), some (.int rq2)]) d_H_ask_99 rfl exq5.symm (Nat.le_of_ble_eq_true rfl) rfl ?_
        refine r_goto (pc := 102) (tgt := 61) d_H_ask_102 (by rfl) ?_
        exact r_wk (ih x6 rq2 xq5 hq3) ⟨rfl, ⟨rfl, ⟨rfl, ⟨rfl, ⟨rfl, ⟨rfl, trivial⟩⟩⟩⟩⟩⟩
def f_H_ask  (a1 : Int32) (a2 : Int32) (a3 : Int32) (h : AH) : Option (Int32 × AH) :=
  bI (f_H_within a1 (0 : Int32) (99 : Int32) h) fun rq1 hq2 =>
  if rq1 = 0 then
    some ((-1 : Int32), hq2)
  else
    bI (f_H_within a2 (0 : Int32) (1 : Int32) hq2) fun rq3 hq4 =>
    if rq3 = 0 then
      some ((-1 : Int32), hq4)
    else
      gd hq4 0 1 7 fun cq5 =>
      bI (f_Ears_findFits cq5 37 a3 hq4) fun rq6 hq7 =>
      if ¬ rq6 = 0 then
        gd hq7 0 1 7 fun cq8 =>
        bI (f_Ears_leftAtMost cq8 (0 : Int32) a1 hq7) fun rq9 hq10 =>
        f_H_ask_l61 a1 a2 a3 FU (0 : Int32) rq9 (1 : Int32) hq10
      else
        some ((-1 : Int32), hq7)
set_option maxHeartbeats 2000000 in
theorem ok_H_ask {G : AE} {n : Nat} (hn : NN ≤ n)  (a1 : Int32) (a2 : Int32) (a3 : Int32) (h : AH) : OK G n y_H_ask (7) φI [.ref 0, .int a1, .int a2, .int a3] h (f_H_ask a1 a2 a3 h) := by
  refine ok_of (y := y_H_ask) (lv0 := [some (.ref 0), some (.int a1), some (.int a2), some (.int a3), none, none, none, none]) (by decide +kernel) (Nat.le_of_ble_eq_true rfl) ⟨rfl, ⟨rfl, ⟨rfl, ⟨rfl, trivial⟩⟩⟩⟩ ?_
  rw [f_H_ask]
  refine r_iload_n (pc := 0) (i := 1) d_H_ask_0 rfl rfl ?_
  refine r_iconst (pc := 1) (v := 0) d_H_ask_1 (by rfl) ?_
  refine r_bipush (pc := 2) (v := 99) d_H_ask_2 (by rfl) ?_
  refine r_cSi (pc := 4) (st := []) (ok_H_within hn a1 (0 : Int32) (99 : Int32) h) w_817 w_1 w_815 w_816 hy_H_within ⟨Nat.le_of_ble_eq_true rfl, Nat.le_of_ble_eq_true rfl⟩ ⟨Nat.le_of_ble_eq_true rfl, Nat.le_of_ble_eq_true rfl⟩ rfl (Nat.le_of_ble_eq_true rfl) d_H_ask_4 (fun rq1 hq2 => ?_)
  refine r_if_eq (pc := 7) (tgt := 38) d_H_ask_7 (by rfl) ?_ ?_
  · refine r_iconst (pc := 38) (v := -1) d_H_ask_38 (by rfl) ?_
    exact r_iret (pc := 39) rfl d_H_ask_39
  · refine r_iload_n (pc := 10) (i := 2) d_H_ask_10 rfl rfl ?_
    refine r_iconst (pc := 11) (v := 0) d_H_ask_11 (by rfl) ?_
    refine r_iconst (pc := 12) (v := 1) d_H_ask_12 (by rfl) ?_
    refine r_cSi (pc := 13) (st := []) (ok_H_within hn a2 (0 : Int32) (1 : Int32) hq2) w_817 w_1 w_815 w_816 hy_H_within ⟨Nat.le_of_ble_eq_true rfl, Nat.le_of_ble_eq_true rfl⟩ ⟨Nat.le_of_ble_eq_true rfl, Nat.le_of_ble_eq_true rfl⟩ rfl (Nat.le_of_ble_eq_true rfl) d_H_ask_13 (fun rq3 hq4 => ?_)
    refine r_if_eq (pc := 16) (tgt := 38) d_H_ask_16 (by rfl) ?_ ?_
    · refine r_iconst (pc := 38) (v := -1) d_H_ask_38 (by rfl) ?_
      exact r_iret (pc := 39) rfl d_H_ask_39
    · refine r_aload_n (pc := 19) (i := 0) d_H_ask_19 rfl rfl ?_
      refine r_getf (pc := 20) (ci := 11) (k := 8) (C := "CricketHay") (T := F_11) (N := 13) (v := .ref 366) (fun s => Std.k s (lc hn rfl) kq_0) rfl (Nat.le_of_ble_eq_true rfl) rfl w_430 (fun s => vr rfl (Std.r s (lc hn rfl) rq_0_8)) d_H_ask_20 ?_
      refine r_aload_n (pc := 23) (i := 0) d_H_ask_23 rfl rfl ?_
      refine r_gd (fun cq5 rcq5 kcq5 => ?_)
      refine r_getf (pc := 24) (ci := 11) (k := 1) (C := "CricketHay") (T := F_11) (N := 13) (v := .ref cq5) (fun s => Std.k s (lc hn rfl) kq_0) rfl (Nat.le_of_ble_eq_true rfl) rfl w_423 (fun _ => vr rfl rcq5) d_H_ask_24 ?_
      refine r_aload_n (pc := 27) (i := 0) d_H_ask_27 rfl rfl ?_
      refine r_getf (pc := 28) (ci := 11) (k := 3) (C := "CricketHay") (T := F_11) (N := 13) (v := .ref 37) (fun s => Std.k s (lc hn rfl) kq_0) rfl (Nat.le_of_ble_eq_true rfl) rfl w_425 (fun s => vr rfl (Std.r s (lc hn rfl) rq_0_3)) d_H_ask_28 ?_
      refine r_iload_n (pc := 31) (i := 3) d_H_ask_31 rfl rfl ?_
      refine r_cVi (pc := 32) (T := F_4) (N := 12) (st := []) (ok_Ears_findFits hn cq5 kcq5 37 kq_37 a3 hq4) (fun s => Std.k s (lc hn rfl) kq_366) rfl w_1027 w_9 w_1024 w_1025 w_1026 hy_Ears_findFits ⟨Nat.le_of_ble_eq_true rfl, Nat.le_of_ble_eq_true rfl⟩ ⟨Nat.le_of_ble_eq_true rfl, Nat.le_of_ble_eq_true rfl⟩ rfl (Nat.le_of_ble_eq_true rfl) d_H_ask_32 (fun rq6 hq7 => ?_)
      refine r_if_ne (pc := 35) (tgt := 40) d_H_ask_35 (by rfl) ?_ ?_
      · refine r_iconst (pc := 40) (v := 0) d_H_ask_40 (by rfl) ?_
        refine r_istore (pc := 41) (lv1 := [some (.ref 0), some (.int a1), some (.int a2), some (.int a3), some (.int (0 : Int32)), none, none, none]) d_H_ask_41 (Nat.le_of_ble_eq_true rfl) rfl ?_
        refine r_aload_n (pc := 43) (i := 0) d_H_ask_43 rfl rfl ?_
        refine r_getf (pc := 44) (ci := 11) (k := 8) (C := "CricketHay") (T := F_11) (N := 13) (v := .ref 366) (fun s => Std.k s (lc hn rfl) kq_0) rfl (Nat.le_of_ble_eq_true rfl) rfl w_430 (fun s => vr rfl (Std.r s (lc hn rfl) rq_0_8)) d_H_ask_44 ?_
        refine r_aload_n (pc := 47) (i := 0) d_H_ask_47 rfl rfl ?_
        refine r_gd (fun cq8 rcq8 kcq8 => ?_)
        refine r_getf (pc := 48) (ci := 11) (k := 1) (C := "CricketHay") (T := F_11) (N := 13) (v := .ref cq8) (fun s => Std.k s (lc hn rfl) kq_0) rfl (Nat.le_of_ble_eq_true rfl) rfl w_423 (fun _ => vr rfl rcq8) d_H_ask_48 ?_
        refine r_iconst (pc := 51) (v := 0) d_H_ask_51 (by rfl) ?_
        refine r_iload_n (pc := 52) (i := 1) d_H_ask_52 rfl rfl ?_
        refine r_cVi (pc := 53) (T := F_4) (N := 12) (st := []) (ok_Ears_leftAtMost hn cq8 kcq8 (0 : Int32) a1 hq7) (fun s => Std.k s (lc hn rfl) kq_366) rfl w_1057 w_9 w_1054 w_1055 w_1056 hy_Ears_leftAtMost ⟨Nat.le_of_ble_eq_true rfl, Nat.le_of_ble_eq_true rfl⟩ ⟨Nat.le_of_ble_eq_true rfl, Nat.le_of_ble_eq_true rfl⟩ rfl (Nat.le_of_ble_eq_true rfl) d_H_ask_53 (fun rq9 hq10 => ?_)
        refine r_istore (pc := 56) (lv1 := [some (.ref 0), some (.int a1), some (.int a2), some (.int a3), some (.int (0 : Int32)), some (.int rq9), none, none]) d_H_ask_56 (Nat.le_of_ble_eq_true rfl) rfl ?_
        refine r_iconst (pc := 58) (v := 1) d_H_ask_58 (by rfl) ?_
        refine r_istore (pc := 59) (lv1 := [some (.ref 0), some (.int a1), some (.int a2), some (.int a3), some (.int (0 : Int32)), some (.int rq9), some (.int (1 : Int32)), none]) d_H_ask_59 (Nat.le_of_ble_eq_true rfl) rfl ?_
        exact r_wk (o_H_ask_l61 hn FU (0 : Int32) rq9 (1 : Int32) hq10) ⟨rfl, ⟨rfl, ⟨rfl, ⟨rfl, ⟨rfl, ⟨rfl, trivial⟩⟩⟩⟩⟩⟩
      · refine r_iconst (pc := 38) (v := -1) d_H_ask_38 (by rfl) ?_
        exact r_iret (pc := 39) rfl d_H_ask_39

def f_Boxes_keep  (a1 : Int32) (a2 : Nat) (h : AH) : Option AH :=
  gx a1 3 <|
  gd h 343 (ix a1) 10 fun cq2 =>
  bV (f_Yard_copy cq2 a2 h) fun hq3 =>
  gx a1 3 <|
  lt (sI hq3 344 (ix a1) (vp_nar .boolean (1 : Int32))) fun hq5 =>
  some hq5
set_option maxHeartbeats 2000000 in
theorem ok_Boxes_keep {G : AE} {n : Nat} (hn : NN ≤ n)  (a1 : Int32) (a2 : Nat) (ha2 : kdF a2 = .inr 10) (h : AH) : OK G n y_Boxes_keep (3) φV [.ref 342, .int a1, .ref a2] h (f_Boxes_keep a1 a2 h) := by
  refine ok_of (y := y_Boxes_keep) (lv0 := [some (.ref 342), some (.int a1), some (.ref a2)]) (by decide +kernel) (Nat.le_of_ble_eq_true rfl) ⟨rfl, ⟨rfl, ⟨rfl, trivial⟩⟩⟩ ?_
  rw [f_Boxes_keep]
  refine r_aload_n (pc := 0) (i := 0) d_Boxes_keep_0 rfl rfl ?_
  refine r_getf (pc := 1) (ci := 1) (k := 0) (C := "CricketHay$Boxes") (T := F_1) (N := 2) (v := .ref 343) (fun s => Std.k s (lc hn rfl) kq_342) rfl (Nat.le_of_ble_eq_true rfl) rfl w_303 (fun s => vr rfl (Std.r s (lc hn rfl) rq_342_0)) d_Boxes_keep_1 ?_
  refine r_iload_n (pc := 4) (i := 1) d_Boxes_keep_4 rfl rfl ?_
  refine r_gx (fun zq1 => ?_)
  refine r_gd (fun cq2 rcq2 kcq2 => ?_)
  refine r_aald (pc := 5) (n := 3) (i0 := (ix a1)) (fun s => Std.k s (lc hn rfl) kq_343) zq1 rfl rcq2 d_Boxes_keep_5 ?_
  refine r_aload_n (pc := 6) (i := 2) d_Boxes_keep_6 rfl rfl ?_
  refine r_cVv (pc := 7) (T := F_10) (N := 10) (st := []) (ok_Yard_copy hn cq2 kcq2 a2 ha2 h) (fun s => Std.k s (ltn (cm hn) (kl_Y kcq2)) kcq2) rfl w_762 w_5 w_1067 w_760 w_761 hy_Yard_copy ⟨Nat.le_of_ble_eq_true rfl, Nat.le_of_ble_eq_true rfl⟩ ⟨Nat.le_of_ble_eq_true rfl, Nat.le_of_ble_eq_true rfl⟩ rfl (Nat.le_of_ble_eq_true rfl) d_Boxes_keep_7 (fun hq3 => ?_)
  refine r_aload_n (pc := 10) (i := 0) d_Boxes_keep_10 rfl rfl ?_
  refine r_getf (pc := 11) (ci := 1) (k := 1) (C := "CricketHay$Boxes") (T := F_1) (N := 2) (v := .ref 344) (fun s => Std.k s (lc hn rfl) kq_342) rfl (Nat.le_of_ble_eq_true rfl) rfl w_304 (fun s => vr rfl (Std.r s (lc hn rfl) rq_342_1)) d_Boxes_keep_11 ?_
  refine r_iload_n (pc := 14) (i := 1) d_Boxes_keep_14 rfl rfl ?_
  refine r_iconst (pc := 15) (v := 1) d_Boxes_keep_15 (by rfl) ?_
  refine r_gx (fun zq4 => ?_)
  refine r_zast (pc := 16) (n := 3) (i0 := (ix a1)) (fun s => Std.k s (lc hn rfl) kq_344) zq4 rfl (fun s => Std.sI s _ _ _) d_Boxes_keep_16 ?_
  refine r_ltH (fun hq5 => ?_)
  exact r_vret (pc := 17) rfl d_Boxes_keep_17

def f_H_image  (a1 : Int32) (h : AH) : Option (Int32 × AH) :=
  bI (f_H_within a1 (0 : Int32) (2 : Int32) h) fun rq1 hq2 =>
  if ¬ rq1 = 0 then
    bV (f_Boxes_keep a1 37 hq2) fun hq3 =>
    some ((hI hq3 37 8), hq3)
  else
    some ((-1 : Int32), hq2)
set_option maxHeartbeats 2000000 in
theorem ok_H_image {G : AE} {n : Nat} (hn : NN ≤ n)  (a1 : Int32) (h : AH) : OK G n y_H_image (4) φI [.ref 0, .int a1] h (f_H_image a1 h) := by
  refine ok_of (y := y_H_image) (lv0 := [some (.ref 0), some (.int a1)]) (by decide +kernel) (Nat.le_of_ble_eq_true rfl) ⟨rfl, ⟨rfl, trivial⟩⟩ ?_
  rw [f_H_image]
  refine r_iload_n (pc := 0) (i := 1) d_H_image_0 rfl rfl ?_
  refine r_iconst (pc := 1) (v := 0) d_H_image_1 (by rfl) ?_
  refine r_iconst (pc := 2) (v := 2) d_H_image_2 (by rfl) ?_
  refine r_cSi (pc := 3) (st := []) (ok_H_within hn a1 (0 : Int32) (2 : Int32) h) w_817 w_1 w_815 w_816 hy_H_within ⟨Nat.le_of_ble_eq_true rfl, Nat.le_of_ble_eq_true rfl⟩ ⟨Nat.le_of_ble_eq_true rfl, Nat.le_of_ble_eq_true rfl⟩ rfl (Nat.le_of_ble_eq_true rfl) d_H_image_3 (fun rq1 hq2 => ?_)
  refine r_if_ne (pc := 6) (tgt := 11) d_H_image_6 (by rfl) ?_ ?_
  · refine r_aload_n (pc := 11) (i := 0) d_H_image_11 rfl rfl ?_
    refine r_getf (pc := 12) (ci := 11) (k := 7) (C := "CricketHay") (T := F_11) (N := 13) (v := .ref 342) (fun s => Std.k s (lc hn rfl) kq_0) rfl (Nat.le_of_ble_eq_true rfl) rfl w_429 (fun s => vr rfl (Std.r s (lc hn rfl) rq_0_7)) d_H_image_12 ?_
    refine r_iload_n (pc := 15) (i := 1) d_H_image_15 rfl rfl ?_
    refine r_aload_n (pc := 16) (i := 0) d_H_image_16 rfl rfl ?_
    refine r_getf (pc := 17) (ci := 11) (k := 3) (C := "CricketHay") (T := F_11) (N := 13) (v := .ref 37) (fun s => Std.k s (lc hn rfl) kq_0) rfl (Nat.le_of_ble_eq_true rfl) rfl w_425 (fun s => vr rfl (Std.r s (lc hn rfl) rq_0_3)) d_H_image_17 ?_
    refine r_cVv (pc := 20) (T := F_1) (N := 2) (st := []) (ok_Boxes_keep hn a1 37 kq_37 hq2) (fun s => Std.k s (lc hn rfl) kq_342) rfl w_1066 w_8 w_1063 w_1064 w_1065 hy_Boxes_keep ⟨Nat.le_of_ble_eq_true rfl, Nat.le_of_ble_eq_true rfl⟩ ⟨Nat.le_of_ble_eq_true rfl, Nat.le_of_ble_eq_true rfl⟩ rfl (Nat.le_of_ble_eq_true rfl) d_H_image_20 (fun hq3 => ?_)
    refine r_aload_n (pc := 23) (i := 0) d_H_image_23 rfl rfl ?_
    refine r_getf (pc := 24) (ci := 11) (k := 3) (C := "CricketHay") (T := F_11) (N := 13) (v := .ref 37) (fun s => Std.k s (lc hn rfl) kq_0) rfl (Nat.le_of_ble_eq_true rfl) rfl w_425 (fun s => vr rfl (Std.r s (lc hn rfl) rq_0_3)) d_H_image_24 ?_
    refine r_getf (pc := 27) (ci := 10) (k := 8) (C := "CricketHay$Yard") (T := F_10) (N := 10) (v := .int (hI hq3 37 8)) (fun s => Std.k s (lc hn rfl) kq_37) rfl (Nat.le_of_ble_eq_true rfl) rfl w_236 (fun _ => rfl) d_H_image_27 ?_
    exact r_iret (pc := 30) rfl d_H_image_30
  · refine r_iconst (pc := 9) (v := -1) d_H_image_9 (by rfl) ?_
    exact r_iret (pc := 10) rfl d_H_image_10

def f_Boxes_giveBack  (a1 : Int32) (a2 : Nat) (h : AH) : Option (Int32 × AH) :=
  gx a1 3 <|
  if (hI h 344 (ix a1)) = 0 then
    gx a1 3 <|
    gb (hI h 344 (ix a1)) <|
    some ((hI h 344 (ix a1)), h)
  else
    gx a1 3 <|
    gd h 343 (ix a1) 10 fun cq5 =>
    bV (f_Yard_copy a2 cq5 h) fun hq6 =>
    gx a1 3 <|
    gb (hI hq6 344 (ix a1)) <|
    some ((hI hq6 344 (ix a1)), hq6)
set_option maxHeartbeats 2000000 in
theorem ok_Boxes_giveBack {G : AE} {n : Nat} (hn : NN ≤ n)  (a1 : Int32) (a2 : Nat) (ha2 : kdF a2 = .inr 10) (h : AH) : OK G n y_Boxes_giveBack (3) φI [.ref 342, .int a1, .ref a2] h (f_Boxes_giveBack a1 a2 h) := by
  refine ok_of (y := y_Boxes_giveBack) (lv0 := [some (.ref 342), some (.int a1), some (.ref a2)]) (by decide +kernel) (Nat.le_of_ble_eq_true rfl) ⟨rfl, ⟨rfl, ⟨rfl, trivial⟩⟩⟩ ?_
  rw [f_Boxes_giveBack]
  refine r_aload_n (pc := 0) (i := 0) d_Boxes_giveBack_0 rfl rfl ?_
  refine r_getf (pc := 1) (ci := 1) (k := 1) (C := "CricketHay$Boxes") (T := F_1) (N := 2) (v := .ref 344) (fun s => Std.k s (lc hn rfl) kq_342) rfl (Nat.le_of_ble_eq_true rfl) rfl w_304 (fun s => vr rfl (Std.r s (lc hn rfl) rq_342_1)) d_Boxes_giveBack_1 ?_
  refine r_iload_n (pc := 4) (i := 1) d_Boxes_giveBack_4 rfl rfl ?_
  refine r_gx (fun zq1 => ?_)
  refine r_zald (pc := 5) (n := 3) (i0 := (ix a1)) (fun s => Std.k s (lc hn rfl) kq_344) zq1 rfl d_Boxes_giveBack_5 ?_
  refine r_if_eq (pc := 6) (tgt := 19) d_Boxes_giveBack_6 (by rfl) ?_ ?_
  · refine r_aload_n (pc := 19) (i := 0) d_Boxes_giveBack_19 rfl rfl ?_
    refine r_getf (pc := 20) (ci := 1) (k := 1) (C := "CricketHay$Boxes") (T := F_1) (N := 2) (v := .ref 344) (fun s => Std.k s (lc hn rfl) kq_342) rfl (Nat.le_of_ble_eq_true rfl) rfl w_304 (fun s => vr rfl (Std.r s (lc hn rfl) rq_342_1)) d_Boxes_giveBack_20 ?_
    refine r_iload_n (pc := 23) (i := 1) d_Boxes_giveBack_23 rfl rfl ?_
    refine r_gx (fun zq2 => ?_)
    refine r_zald (pc := 24) (n := 3) (i0 := (ix a1)) (fun s => Std.k s (lc hn rfl) kq_344) zq2 rfl d_Boxes_giveBack_24 ?_
    refine r_gb (fun zq3 => ?_)
    exact r_zret (pc := 25) rfl zq3 d_Boxes_giveBack_25
  · refine r_aload_n (pc := 9) (i := 2) d_Boxes_giveBack_9 rfl rfl ?_
    refine r_aload_n (pc := 10) (i := 0) d_Boxes_giveBack_10 rfl rfl ?_
    refine r_getf (pc := 11) (ci := 1) (k := 0) (C := "CricketHay$Boxes") (T := F_1) (N := 2) (v := .ref 343) (fun s => Std.k s (lc hn rfl) kq_342) rfl (Nat.le_of_ble_eq_true rfl) rfl w_303 (fun s => vr rfl (Std.r s (lc hn rfl) rq_342_0)) d_Boxes_giveBack_11 ?_
    refine r_iload_n (pc := 14) (i := 1) d_Boxes_giveBack_14 rfl rfl ?_
    refine r_gx (fun zq4 => ?_)
    refine r_gd (fun cq5 rcq5 kcq5 => ?_)
    refine r_aald (pc := 15) (n := 3) (i0 := (ix a1)) (fun s => Std.k s (lc hn rfl) kq_343) zq4 rfl rcq5 d_Boxes_giveBack_15 ?_
    refine r_cVv (pc := 16) (T := F_10) (N := 10) (st := []) (ok_Yard_copy hn a2 ha2 cq5 kcq5 h) (fun s => Std.k s (ltn (cm hn) (kl_Y ha2)) ha2) rfl w_762 w_5 w_1067 w_760 w_761 hy_Yard_copy ⟨Nat.le_of_ble_eq_true rfl, Nat.le_of_ble_eq_true rfl⟩ ⟨Nat.le_of_ble_eq_true rfl, Nat.le_of_ble_eq_true rfl⟩ rfl (Nat.le_of_ble_eq_true rfl) d_Boxes_giveBack_16 (fun hq6 => ?_)
    refine r_aload_n (pc := 19) (i := 0) d_Boxes_giveBack_19 rfl rfl ?_
    refine r_getf (pc := 20) (ci := 1) (k := 1) (C := "CricketHay$Boxes") (T := F_1) (N := 2) (v := .ref 344) (fun s => Std.k s (lc hn rfl) kq_342) rfl (Nat.le_of_ble_eq_true rfl) rfl w_304 (fun s => vr rfl (Std.r s (lc hn rfl) rq_342_1)) d_Boxes_giveBack_20 ?_
    refine r_iload_n (pc := 23) (i := 1) d_Boxes_giveBack_23 rfl rfl ?_
    refine r_gx (fun zq7 => ?_)
    refine r_zald (pc := 24) (n := 3) (i0 := (ix a1)) (fun s => Std.k s (lc hn rfl) kq_344) zq7 rfl d_Boxes_giveBack_24 ?_
    refine r_gb (fun zq8 => ?_)
    exact r_zret (pc := 25) rfl zq8 d_Boxes_giveBack_25

def f_H_back  (a1 : Int32) (h : AH) : Option (Int32 × AH) :=
  bI (f_H_within a1 (0 : Int32) (2 : Int32) h) fun rq1 hq2 =>
  if rq1 = 0 then
    some ((-1 : Int32), hq2)
  else
    bI (f_Boxes_giveBack a1 37 hq2) fun rq3 hq4 =>
    if ¬ rq3 = 0 then
      bV (f_Acts_forget hq4) fun hq5 =>
      some ((hI hq5 37 8), hq5)
    else
      some ((-1 : Int32), hq4)
set_option maxHeartbeats 2000000 in
theorem ok_H_back {G : AE} {n : Nat} (hn : NN ≤ n)  (a1 : Int32) (h : AH) : OK G n y_H_back (4) φI [.ref 0, .int a1] h (f_H_back a1 h) := by
  refine ok_of (y := y_H_back) (lv0 := [some (.ref 0), some (.int a1)]) (by decide +kernel) (Nat.le_of_ble_eq_true rfl) ⟨rfl, ⟨rfl, trivial⟩⟩ ?_
  rw [f_H_back]
  refine r_iload_n (pc := 0) (i := 1) d_H_back_0 rfl rfl ?_
  refine r_iconst (pc := 1) (v := 0) d_H_back_1 (by rfl) ?_
  refine r_iconst (pc := 2) (v := 2) d_H_back_2 (by rfl) ?_
  refine r_cSi (pc := 3) (st := []) (ok_H_within hn a1 (0 : Int32) (2 : Int32) h) w_817 w_1 w_815 w_816 hy_H_within ⟨Nat.le_of_ble_eq_true rfl, Nat.le_of_ble_eq_true rfl⟩ ⟨Nat.le_of_ble_eq_true rfl, Nat.le_of_ble_eq_true rfl⟩ rfl (Nat.le_of_ble_eq_true rfl) d_H_back_3 (fun rq1 hq2 => ?_)
  refine r_if_eq (pc := 6) (tgt := 24) d_H_back_6 (by rfl) ?_ ?_
  · refine r_iconst (pc := 24) (v := -1) d_H_back_24 (by rfl) ?_
    exact r_iret (pc := 25) rfl d_H_back_25
  · refine r_aload_n (pc := 9) (i := 0) d_H_back_9 rfl rfl ?_
    refine r_getf (pc := 10) (ci := 11) (k := 7) (C := "CricketHay") (T := F_11) (N := 13) (v := .ref 342) (fun s => Std.k s (lc hn rfl) kq_0) rfl (Nat.le_of_ble_eq_true rfl) rfl w_429 (fun s => vr rfl (Std.r s (lc hn rfl) rq_0_7)) d_H_back_10 ?_
    refine r_iload_n (pc := 13) (i := 1) d_H_back_13 rfl rfl ?_
    refine r_aload_n (pc := 14) (i := 0) d_H_back_14 rfl rfl ?_
    refine r_getf (pc := 15) (ci := 11) (k := 3) (C := "CricketHay") (T := F_11) (N := 13) (v := .ref 37) (fun s => Std.k s (lc hn rfl) kq_0) rfl (Nat.le_of_ble_eq_true rfl) rfl w_425 (fun s => vr rfl (Std.r s (lc hn rfl) rq_0_3)) d_H_back_15 ?_
    refine r_cVi (pc := 18) (T := F_1) (N := 2) (st := []) (ok_Boxes_giveBack hn a1 37 kq_37 hq2) (fun s => Std.k s (lc hn rfl) kq_342) rfl w_1075 w_8 w_1072 w_1073 w_1074 hy_Boxes_giveBack ⟨Nat.le_of_ble_eq_true rfl, Nat.le_of_ble_eq_true rfl⟩ ⟨Nat.le_of_ble_eq_true rfl, Nat.le_of_ble_eq_true rfl⟩ rfl (Nat.le_of_ble_eq_true rfl) d_H_back_18 (fun rq3 hq4 => ?_)
    refine r_if_ne (pc := 21) (tgt := 26) d_H_back_21 (by rfl) ?_ ?_
    · refine r_aload_n (pc := 26) (i := 0) d_H_back_26 rfl rfl ?_
      refine r_getf (pc := 27) (ci := 11) (k := 6) (C := "CricketHay") (T := F_11) (N := 13) (v := .ref 53) (fun s => Std.k s (lc hn rfl) kq_0) rfl (Nat.le_of_ble_eq_true rfl) rfl w_428 (fun s => vr rfl (Std.r s (lc hn rfl) rq_0_6)) d_H_back_27 ?_
      refine r_cVv (pc := 30) (T := F_0) (N := 3) (st := []) (ok_Acts_forget hn hq4) (fun s => Std.k s (lc hn rfl) kq_53) rfl w_639 w_7 w_636 w_637 w_638 hy_Acts_forget ⟨Nat.le_of_ble_eq_true rfl, Nat.le_of_ble_eq_true rfl⟩ ⟨Nat.le_of_ble_eq_true rfl, Nat.le_of_ble_eq_true rfl⟩ rfl (Nat.le_of_ble_eq_true rfl) d_H_back_30 (fun hq5 => ?_)
      refine r_aload_n (pc := 33) (i := 0) d_H_back_33 rfl rfl ?_
      refine r_getf (pc := 34) (ci := 11) (k := 3) (C := "CricketHay") (T := F_11) (N := 13) (v := .ref 37) (fun s => Std.k s (lc hn rfl) kq_0) rfl (Nat.le_of_ble_eq_true rfl) rfl w_425 (fun s => vr rfl (Std.r s (lc hn rfl) rq_0_3)) d_H_back_34 ?_
      refine r_getf (pc := 37) (ci := 10) (k := 8) (C := "CricketHay$Yard") (T := F_10) (N := 10) (v := .int (hI hq5 37 8)) (fun s => Std.k s (lc hn rfl) kq_37) rfl (Nat.le_of_ble_eq_true rfl) rfl w_236 (fun _ => rfl) d_H_back_37 ?_
      exact r_iret (pc := 40) rfl d_H_back_40
    · refine r_iconst (pc := 24) (v := -1) d_H_back_24 (by rfl) ?_
      exact r_iret (pc := 25) rfl d_H_back_25

def f_H_about  (a1 : Int32) (h : AH) : Option (Int32 × AH) :=
  if a1 = (0 : Int32) then
    gd h 0 1 7 fun cq2 =>
    some ((hI h cq2 11), h)
  else
  if a1 = (1 : Int32) then
    gd h 0 1 7 fun cq4 =>
    some ((hI h cq4 10), h)
  else
  if a1 = (2 : Int32) then
    gd h 0 1 7 fun cq6 =>
    some ((hI h cq6 14), h)
  else
  if a1 = (3 : Int32) then
    some ((hI h 37 7), h)
  else
  if a1 = (4 : Int32) then
    some ((hI h 37 8), h)
  else
  if a1 = (5 : Int32) then
    some ((hI h 37 9), h)
  else
  if a1 = (6 : Int32) then
    some ((hI h 37 6), h)
  else
  if a1 = (7 : Int32) then
    some ((hI h 53 1), h)
  else
  if a1 = (8 : Int32) then
    some ((hI h 53 2), h)
  else
  if a1 = (9 : Int32) then
    some ((hI h 366 10), h)
  else
  if a1 = (10 : Int32) then
    some ((hI h 366 11), h)
  else
  if a1 = (11 : Int32) then
    some ((hI h 1 9), h)
  else
  if a1 = (12 : Int32) then
    gd h 0 1 7 fun cq17 =>
    gd h 0 1 7 fun cq18 =>
    some (((hI h (cq17 + 9) 4) + (hI h (cq18 + 13) 4)), h)
  else
  if a1 = (13 : Int32) then
    some ((hI h 380 1), h)
  else
    some ((-1 : Int32), h)
set_option maxHeartbeats 2000000 in
theorem ok_H_about {G : AE} {n : Nat} (hn : NN ≤ n)  (a1 : Int32) (h : AH) : OK G n y_H_about (1) φI [.ref 0, .int a1] h (f_H_about a1 h) := by
  refine ok_of (y := y_H_about) (lv0 := [some (.ref 0), some (.int a1)]) (by decide +kernel) (Nat.le_of_ble_eq_true rfl) ⟨rfl, ⟨rfl, trivial⟩⟩ ?_
  rw [f_H_about]
  refine r_iload_n (pc := 0) (i := 1) d_H_about_0 rfl rfl ?_
  refine r_split (fun cq1 => ?_) (fun cq1 => ?_)
  · refine r_tableIn (pc := 1) (tgt := 72) d_H_about_1 (by rw [cq1]; decide) (by rw [cq1]; decide) (by rw [cq1] <;> rfl) (by rfl) ?_
    refine r_aload_n (pc := 72) (i := 0) d_H_about_72 rfl rfl ?_
    refine r_gd (fun cq2 rcq2 kcq2 => ?_)
    refine r_getf (pc := 73) (ci := 11) (k := 1) (C := "CricketHay") (T := F_11) (N := 13) (v := .ref cq2) (fun s => Std.k s (lc hn rfl) kq_0) rfl (Nat.le_of_ble_eq_true rfl) rfl w_423 (fun _ => vr rfl rcq2) d_H_about_73 ?_
    refine r_getf (pc := 76) (ci := 7) (k := 11) (C := "CricketHay$Market") (T := F_7) (N := 16) (v := .int (hI h cq2 11)) (fun s => Std.k s (ltn (cm hn) (kl_M kcq2)) kcq2) rfl (Nat.le_of_ble_eq_true rfl) rfl w_155 (fun _ => rfl) d_H_about_76 ?_
    exact r_iret (pc := 79) rfl d_H_about_79
  refine r_split (fun cq3 => ?_) (fun cq3 => ?_)
  · refine r_tableIn (pc := 1) (tgt := 80) d_H_about_1 (by rw [cq3]; decide) (by rw [cq3]; decide) (by rw [cq3] <;> rfl) (by rfl) ?_
    refine r_aload_n (pc := 80) (i := 0) d_H_about_80 rfl rfl ?_
    refine r_gd (fun cq4 rcq4 kcq4 => ?_)
    refine r_getf (pc := 81) (ci := 11) (k := 1) (C := "CricketHay") (T := F_11) (N := 13) (v := .ref cq4) (fun s => Std.k s (lc hn rfl) kq_0) rfl (Nat.le_of_ble_eq_true rfl) rfl w_423 (fun _ => vr rfl rcq4) d_H_about_81 ?_
    refine r_getf (pc := 84) (ci := 7) (k := 10) (C := "CricketHay$Market") (T := F_7) (N := 16) (v := .int (hI h cq4 10)) (fun s => Std.k s (ltn (cm hn) (kl_M kcq4)) kcq4) rfl (Nat.le_of_ble_eq_true rfl) rfl w_151 (fun _ => rfl) d_H_about_84 ?_
    exact r_iret (pc := 87) rfl d_H_about_87
  refine r_split (fun cq5 => ?_) (fun cq5 => ?_)
  · refine r_tableIn (pc := 1) (tgt := 88) d_H_about_1 (by rw [cq5]; decide) (by rw [cq5]; decide) (by rw [cq5] <;> rfl) (by rfl) ?_
    refine r_aload_n (pc := 88) (i := 0) d_H_about_88 rfl rfl ?_
    refine r_gd (fun cq6 rcq6 kcq6 => ?_)
    refine r_getf (pc := 89) (ci := 11) (k := 1) (C := "CricketHay") (T := F_11) (N := 13) (v := .ref cq6) (fun s => Std.k s (lc hn rfl) kq_0) rfl (Nat.le_of_ble_eq_true rfl) rfl w_423 (fun _ => vr rfl rcq6) d_H_about_89 ?_
    refine r_getf (pc := 92) (ci := 7) (k := 14) (C := "CricketHay$Market") (T := F_7) (N := 16) (v := .int (hI h cq6 14)) (fun s => Std.k s (ltn (cm hn) (kl_M kcq6)) kcq6) rfl (Nat.le_of_ble_eq_true rfl) rfl w_166 (fun _ => rfl) d_H_about_92 ?_
    exact r_iret (pc := 95) rfl d_H_about_95
  refine r_split (fun cq7 => ?_) (fun cq7 => ?_)
  · refine r_tableIn (pc := 1) (tgt := 96) d_H_about_1 (by rw [cq7]; decide) (by rw [cq7]; decide) (by rw [cq7] <;> rfl) (by rfl) ?_
    refine r_aload_n (pc := 96) (i := 0) d_H_about_96 rfl rfl ?_
    refine r_getf (pc := 97) (ci := 11) (k := 3) (C := "CricketHay") (T := F_11) (N := 13) (v := .ref 37) (fun s => Std.k s (lc hn rfl) kq_0) rfl (Nat.le_of_ble_eq_true rfl) rfl w_425 (fun s => vr rfl (Std.r s (lc hn rfl) rq_0_3)) d_H_about_97 ?_
    refine r_getf (pc := 100) (ci := 10) (k := 7) (C := "CricketHay$Yard") (T := F_10) (N := 10) (v := .int (hI h 37 7)) (fun s => Std.k s (lc hn rfl) kq_37) rfl (Nat.le_of_ble_eq_true rfl) rfl w_232 (fun _ => rfl) d_H_about_100 ?_
    exact r_iret (pc := 103) rfl d_H_about_103
  refine r_split (fun cq8 => ?_) (fun cq8 => ?_)
  · refine r_tableIn (pc := 1) (tgt := 104) d_H_about_1 (by rw [cq8]; decide) (by rw [cq8]; decide) (by rw [cq8] <;> rfl) (by rfl) ?_
    refine r_aload_n (pc := 104) (i := 0) d_H_about_104 rfl rfl ?_
    refine r_getf (pc := 105) (ci := 11) (k := 3) (C := "CricketHay") (T := F_11) (N := 13) (v := .ref 37) (fun s => Std.k s (lc hn rfl) kq_0) rfl (Nat.le_of_ble_eq_true rfl) rfl w_425 (fun s => vr rfl (Std.r s (lc hn rfl) rq_0_3)) d_H_about_105 ?_
    refine r_getf (pc := 108) (ci := 10) (k := 8) (C := "CricketHay$Yard") (T := F_10) (N := 10) (v := .int (hI h 37 8)) (fun s => Std.k s (lc hn rfl) kq_37) rfl (Nat.le_of_ble_eq_true rfl) rfl w_236 (fun _ => rfl) d_H_about_108 ?_
    exact r_iret (pc := 111) rfl d_H_about_111
  refine r_split (fun cq9 => ?_) (fun cq9 => ?_)
  · refine r_tableIn (pc := 1) (tgt := 112) d_H_about_1 (by rw [cq9]; decide) (by rw [cq9]; decide) (by rw [cq9] <;> rfl) (by rfl) ?_
    refine r_aload_n (pc := 112) (i := 0) d_H_about_112 rfl rfl ?_
    refine r_getf (pc := 113) (ci := 11) (k := 3) (C := "CricketHay") (T := F_11) (N := 13) (v := .ref 37) (fun s => Std.k s (lc hn rfl) kq_0) rfl (Nat.le_of_ble_eq_true rfl) rfl w_425 (fun s => vr rfl (Std.r s (lc hn rfl) rq_0_3)) d_H_about_113 ?_
    refine r_getf (pc := 116) (ci := 10) (k := 9) (C := "CricketHay$Yard") (T := F_10) (N := 10) (v := .int (hI h 37 9)) (fun s => Std.k s (lc hn rfl) kq_37) rfl (Nat.le_of_ble_eq_true rfl) rfl w_238 (fun _ => rfl) d_H_about_116 ?_
    exact r_iret (pc := 119) rfl d_H_about_119
  refine r_split (fun cq10 => ?_) (fun cq10 => ?_)
  · refine r_tableIn (pc := 1) (tgt := 120) d_H_about_1 (by rw [cq10]; decide) (by rw [cq10]; decide) (by rw [cq10] <;> rfl) (by rfl) ?_
    refine r_aload_n (pc := 120) (i := 0) d_H_about_120 rfl rfl ?_
    refine r_getf (pc := 121) (ci := 11) (k := 3) (C := "CricketHay") (T := F_11) (N := 13) (v := .ref 37) (fun s => Std.k s (lc hn rfl) kq_0) rfl (Nat.le_of_ble_eq_true rfl) rfl w_425 (fun s => vr rfl (Std.r s (lc hn rfl) rq_0_3)) d_H_about_121 ?_
    refine r_getf (pc := 124) (ci := 10) (k := 6) (C := "CricketHay$Yard") (T := F_10) (N := 10) (v := .int (hI h 37 6)) (fun s => Std.k s (lc hn rfl) kq_37) rfl (Nat.le_of_ble_eq_true rfl) rfl w_228 (fun _ => rfl) d_H_about_124 ?_
    exact r_iret (pc := 127) rfl d_H_about_127
  refine r_split (fun cq11 => ?_) (fun cq11 => ?_)
  · refine r_tableIn (pc := 1) (tgt := 128) d_H_about_1 (by rw [cq11]; decide) (by rw [cq11]; decide) (by rw [cq11] <;> rfl) (by rfl) ?_
    refine r_aload_n (pc := 128) (i := 0) d_H_about_128 rfl rfl ?_
    refine r_getf (pc := 129) (ci := 11) (k := 6) (C := "CricketHay") (T := F_11) (N := 13) (v := .ref 53) (fun s => Std.k s (lc hn rfl) kq_0) rfl (Nat.le_of_ble_eq_true rfl) rfl w_428 (fun s => vr rfl (Std.r s (lc hn rfl) rq_0_6)) d_H_about_129 ?_
    refine r_getf (pc := 132) (ci := 0) (k := 1) (C := "CricketHay$Acts") (T := F_0) (N := 3) (v := .int (hI h 53 1)) (fun s => Std.k s (lc hn rfl) kq_53) rfl (Nat.le_of_ble_eq_true rfl) rfl w_285 (fun _ => rfl) d_H_about_132 ?_
    exact r_iret (pc := 135) rfl d_H_about_135
  refine r_split (fun cq12 => ?_) (fun cq12 => ?_)
  · refine r_tableIn (pc := 1) (tgt := 136) d_H_about_1 (by rw [cq12]; decide) (by rw [cq12]; decide) (by rw [cq12] <;> rfl) (by rfl) ?_
    refine r_aload_n (pc := 136) (i := 0) d_H_about_136 rfl rfl ?_
    refine r_getf (pc := 137) (ci := 11) (k := 6) (C := "CricketHay") (T := F_11) (N := 13) (v := .ref 53) (fun s => Std.k s (lc hn rfl) kq_0) rfl (Nat.le_of_ble_eq_true rfl) rfl w_428 (fun s => vr rfl (Std.r s (lc hn rfl) rq_0_6)) d_H_about_137 ?_
    refine r_getf (pc := 140) (ci := 0) (k := 2) (C := "CricketHay$Acts") (T := F_0) (N := 3) (v := .int (hI h 53 2)) (fun s => Std.k s (lc hn rfl) kq_53) rfl (Nat.le_of_ble_eq_true rfl) rfl w_287 (fun _ => rfl) d_H_about_140 ?_
    exact r_iret (pc := 143) rfl d_H_about_143
  refine r_split (fun cq13 => ?_) (fun cq13 => ?_)
  · refine r_tableIn (pc := 1) (tgt := 144) d_H_about_1 (by rw [cq13]; decide) (by rw [cq13]; decide) (by rw [cq13] <;> rfl) (by rfl) ?_
    refine r_aload_n (pc := 144) (i := 0) d_H_about_144 rfl rfl ?_
    refine r_getf (pc := 145) (ci := 11) (k := 8) (C := "CricketHay") (T := F_11) (N := 13) (v := .ref 366) (fun s => Std.k s (lc hn rfl) kq_0) rfl (Nat.le_of_ble_eq_true rfl) rfl w_430 (fun s => vr rfl (Std.r s (lc hn rfl) rq_0_8)) d_H_about_145 ?_
    refine r_getf (pc := 148) (ci := 4) (k := 10) (C := "CricketHay$Ears") (T := F_4) (N := 12) (v := .int (hI h 366 10)) (fun s => Std.k s (lc hn rfl) kq_366) rfl (Nat.le_of_ble_eq_true rfl) rfl w_328 (fun _ => rfl) d_H_about_148 ?_
    exact r_iret (pc := 151) rfl d_H_about_151
  refine r_split (fun cq14 => ?_) (fun cq14 => ?_)
  · refine r_tableIn (pc := 1) (tgt := 152) d_H_about_1 (by rw [cq14]; decide) (by rw [cq14]; decide) (by rw [cq14] <;> rfl) (by rfl) ?_
    refine r_aload_n (pc := 152) (i := 0) d_H_about_152 rfl rfl ?_
    refine r_getf (pc := 153) (ci := 11) (k := 8) (C := "CricketHay") (T := F_11) (N := 13) (v := .ref 366) (fun s => Std.k s (lc hn rfl) kq_0) rfl (Nat.le_of_ble_eq_true rfl) rfl w_430 (fun s => vr rfl (Std.r s (lc hn rfl) rq_0_8)) d_H_about_153 ?_
    refine r_getf (pc := 156) (ci := 4) (k := 11) (C := "CricketHay$Ears") (T := F_4) (N := 12) (v := .int (hI h 366 11)) (fun s => Std.k s (lc hn rfl) kq_366) rfl (Nat.le_of_ble_eq_true rfl) rfl w_330 (fun _ => rfl) d_H_about_156 ?_
    exact r_iret (pc := 159) rfl d_H_about_159
  refine r_split (fun cq15 => ?_) (fun cq15 => ?_)
  · refine r_tableIn (pc := 1) (tgt := 160) d_H_about_1 (by rw [cq15]; decide) (by rw [cq15]; decide) (by rw [cq15] <;> rfl) (by rfl) ?_
    refine r_aload_n (pc := 160) (i := 0) d_H_about_160 rfl rfl ?_
    refine r_getf (pc := 161) (ci := 11) (k := 0) (C := "CricketHay") (T := F_11) (N := 13) (v := .ref 1) (fun s => Std.k s (lc hn rfl) kq_0) rfl (Nat.le_of_ble_eq_true rfl) rfl w_422 (fun s => vr rfl (Std.r s (lc hn rfl) rq_0_0)) d_H_about_161 ?_
    refine r_getf (pc := 164) (ci := 9) (k := 9) (C := "CricketHay$Reader") (T := F_9) (N := 12) (v := .int (hI h 1 9)) (fun s => Std.k s (lc hn rfl) kq_1) rfl (Nat.le_of_ble_eq_true rfl) rfl w_46 (fun _ => rfl) d_H_about_164 ?_
    exact r_iret (pc := 167) rfl d_H_about_167
  refine r_split (fun cq16 => ?_) (fun cq16 => ?_)
  · refine r_tableIn (pc := 1) (tgt := 168) d_H_about_1 (by rw [cq16]; decide) (by rw [cq16]; decide) (by rw [cq16] <;> rfl) (by rfl) ?_
    refine r_aload_n (pc := 168) (i := 0) d_H_about_168 rfl rfl ?_
    refine r_gd (fun cq17 rcq17 kcq17 => ?_)
    refine r_getf (pc := 169) (ci := 11) (k := 1) (C := "CricketHay") (T := F_11) (N := 13) (v := .ref cq17) (fun s => Std.k s (lc hn rfl) kq_0) rfl (Nat.le_of_ble_eq_true rfl) rfl w_423 (fun _ => vr rfl rcq17) d_H_about_169 ?_
    refine r_getf (pc := 172) (ci := 7) (k := 8) (C := "CricketHay$Market") (T := F_7) (N := 16) (v := .ref (cq17 + 9)) (fun s => Std.k s (ltn (cm hn) (kl_M kcq17)) kcq17) rfl (Nat.le_of_ble_eq_true rfl) rfl w_145 (fun s => vr rfl (Std.r s (ltn (cm hn) (kl_M kcq17)) (rr_M_8 kcq17))) d_H_about_172 ?_
    refine r_getf (pc := 175) (ci := 5) (k := 4) (C := "CricketHay$Formula") (T := F_5) (N := 5) (v := .int (hI h (cq17 + 9) 4)) (fun s => Std.k s (ltn (cm hn) (kj_M_8 kcq17)) (kk_M_8 kcq17)) rfl (Nat.le_of_ble_eq_true rfl) rfl w_95 (fun _ => rfl) d_H_about_175 ?_
    refine r_aload_n (pc := 178) (i := 0) d_H_about_178 rfl rfl ?_
    refine r_gd (fun cq18 rcq18 kcq18 => ?_)
    refine r_getf (pc := 179) (ci := 11) (k := 1) (C := "CricketHay") (T := F_11) (N := 13) (v := .ref cq18) (fun s => Std.k s (lc hn rfl) kq_0) rfl (Nat.le_of_ble_eq_true rfl) rfl w_423 (fun _ => vr rfl rcq18) d_H_about_179 ?_
    refine r_getf (pc := 182) (ci := 7) (k := 9) (C := "CricketHay$Market") (T := F_7) (N := 16) (v := .ref (cq18 + 13)) (fun s => Std.k s (ltn (cm hn) (kl_M kcq18)) kcq18) rfl (Nat.le_of_ble_eq_true rfl) rfl w_148 (fun s => vr rfl (Std.r s (ltn (cm hn) (kl_M kcq18)) (rr_M_9 kcq18))) d_H_about_182 ?_
    refine r_getf (pc := 185) (ci := 5) (k := 4) (C := "CricketHay$Formula") (T := F_5) (N := 5) (v := .int (hI h (cq18 + 13) 4)) (fun s => Std.k s (ltn (cm hn) (kj_M_9 kcq18)) (kk_M_9 kcq18)) rfl (Nat.le_of_ble_eq_true rfl) rfl w_95 (fun _ => rfl) d_H_about_185 ?_
    refine r_iadd (pc := 188) d_H_about_188 ?_
    exact r_iret (pc := 189) rfl d_H_about_189
  refine r_split (fun cq19 => ?_) (fun cq19 => ?_)
  · refine r_tableIn (pc := 1) (tgt := 190) d_H_about_1 (by rw [cq19]; decide) (by rw [cq19]; decide) (by rw [cq19] <;> rfl) (by rfl) ?_
    refine r_aload_n (pc := 190) (i := 0) d_H_about_190 rfl rfl ?_
    refine r_getf (pc := 191) (ci := 11) (k := 11) (C := "CricketHay") (T := F_11) (N := 13) (v := .ref 380) (fun s => Std.k s (lc hn rfl) kq_0) rfl (Nat.le_of_ble_eq_true rfl) rfl w_433 (fun s => vr rfl (Std.r s (lc hn rfl) rq_0_11)) d_H_about_191 ?_
    refine r_getf (pc := 194) (ci := 6) (k := 1) (C := "CricketHay$Lie") (T := F_6) (N := 2) (v := .int (hI h 380 1)) (fun s => Std.k s (lc hn rfl) kq_380) rfl (Nat.le_of_ble_eq_true rfl) rfl w_412 (fun _ => rfl) d_H_about_194 ?_
    exact r_iret (pc := 197) rfl d_H_about_197
  refine r_tableD (pc := 1) (tgt := 198) d_H_about_1 [0, 1, 2, 3, 4, 5, 6, 7, 8, 9, 10, 11, 12, 13] (List.forall_mem_cons.mpr ⟨lv_neT cq1 (show ((0 : Int32)).toInt = 0 from rfl), List.forall_mem_cons.mpr ⟨lv_neT cq3 (show ((1 : Int32)).toInt = 1 from rfl), List.forall_mem_cons.mpr ⟨lv_neT cq5 (show ((2 : Int32)).toInt = 2 from rfl), List.forall_mem_cons.mpr ⟨lv_neT cq7 (show ((3 : Int32)).toInt = 3 from rfl), List.forall_mem_cons.mpr ⟨lv_neT cq8 (show ((4 : Int32)).toInt = 4 from rfl), List.forall_mem_cons.mpr ⟨lv_neT cq9 (show ((5 : Int32)).toInt = 5 from rfl), List.forall_mem_cons.mpr ⟨lv_neT cq10 (show ((6 : Int32)).toInt = 6 from rfl), List.forall_mem_cons.mpr ⟨lv_neT cq11 (show ((7 : Int32)).toInt = 7 from rfl), List.forall_mem_cons.mpr ⟨lv_neT cq12 (show ((8 : Int32)).toInt = 8 from rfl), List.forall_mem_cons.mpr ⟨lv_neT cq13 (show ((9 : Int32)).toInt = 9 from rfl), List.forall_mem_cons.mpr ⟨lv_neT cq14 (show ((10 : Int32)).toInt = 10 from rfl), List.forall_mem_cons.mpr ⟨lv_neT cq15 (show ((11 : Int32)).toInt = 11 from rfl), List.forall_mem_cons.mpr ⟨lv_neT cq16 (show ((12 : Int32)).toInt = 12 from rfl), List.forall_mem_cons.mpr ⟨lv_neT cq19 (show ((13 : Int32)).toInt = 13 from rfl), List.forall_mem_nil _⟩⟩⟩⟩⟩⟩⟩⟩⟩⟩⟩⟩⟩⟩) (by decide) (by rfl) ?_
  refine r_iconst (pc := 198) (v := -1) d_H_about_198 (by rfl) ?_
  exact r_iret (pc := 199) rfl d_H_about_199
