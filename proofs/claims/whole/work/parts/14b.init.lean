theorem w_27 : Cond.methodLink "CricketHay" 3 ⟨"java/lang/Object", "<init>", "()V"⟩ ∈ lw_good := q_t 27 (by decide +kernel) rfl
theorem w_28 : Cond.instanceMethod ⟨"java/lang/Object", "<init>", "()V"⟩ ∈ lw_good := q_t 28 (by decide +kernel) rfl
theorem w_30 : Cond.classLink "CricketHay" 9 "CricketHay$Reader" ∈ lw_good := q_t 30 (by decide +kernel) rfl
theorem w_31 : Cond.instantiable "CricketHay$Reader" 12 ∈ lw_good := q_t 31 (by decide +kernel) rfl
theorem w_33 : Cond.instanceMethod ⟨"CricketHay$Reader", "<init>", "()V"⟩ ∈ lw_good := q_t 33 (by decide +kernel) rfl
theorem w_34 : Cond.code ⟨"CricketHay$Reader", "<init>", "()V"⟩ prog_11_method_1_code 1 none ∈ lw_good := q_t 34 (by decide +kernel) rfl
theorem w_35 : Cond.methodLink "CricketHay$Reader" 3 ⟨"java/lang/Object", "<init>", "()V"⟩ ∈ lw_good := q_t 35 (by decide +kernel) rfl
theorem w_77 : Cond.classLink "CricketHay" 16 "CricketHay$Market" ∈ lw_good := q_t 77 (by decide +kernel) rfl
theorem w_78 : Cond.instantiable "CricketHay$Market" 16 ∈ lw_good := q_t 78 (by decide +kernel) rfl
theorem w_79 : Cond.methodLink "CricketHay" 18 ⟨"CricketHay$Market", "<init>", "()V"⟩ ∈ lw_good := q_t 79 (by decide +kernel) rfl
theorem w_80 : Cond.instanceMethod ⟨"CricketHay$Market", "<init>", "()V"⟩ ∈ lw_good := q_t 80 (by decide +kernel) rfl
theorem w_81 : Cond.code ⟨"CricketHay$Market", "<init>", "()V"⟩ prog_9_method_1_code 1 none ∈ lw_good := q_t 81 (by decide +kernel) rfl
theorem w_82 : Cond.methodLink "CricketHay$Market" 3 ⟨"java/lang/Object", "<init>", "()V"⟩ ∈ lw_good := q_t 82 (by decide +kernel) rfl
theorem w_83 : Cond.classLink "CricketHay$Market" 37 "CricketHay$Formula" ∈ lw_good := q_t 83 (by decide +kernel) rfl
theorem w_84 : Cond.instantiable "CricketHay$Formula" 5 ∈ lw_good := q_t 84 (by decide +kernel) rfl
theorem w_86 : Cond.instanceMethod ⟨"CricketHay$Formula", "<init>", "()V"⟩ ∈ lw_good := q_t 86 (by decide +kernel) rfl
theorem w_87 : Cond.code ⟨"CricketHay$Formula", "<init>", "()V"⟩ prog_7_method_1_code 1 none ∈ lw_good := q_t 87 (by decide +kernel) rfl
theorem w_88 : Cond.methodLink "CricketHay$Formula" 3 ⟨"java/lang/Object", "<init>", "()V"⟩ ∈ lw_good := q_t 88 (by decide +kernel) rfl
theorem w_108 : Cond.methodLink "CricketHay$Market" 47 ⟨"CricketHay$Market", "reset", "()V"⟩ ∈ lw_good := q_t 108 (by decide +kernel) rfl
theorem w_116 : Cond.fieldLink "CricketHay$Market" 9 "CricketHay$Market" "kindNames" "[J" ∈ lw_good := q_t 116 (by decide +kernel) rfl
theorem w_118 : Cond.fieldLink "CricketHay$Market" 15 "CricketHay$Market" "names" "[J" ∈ lw_good := q_t 118 (by decide +kernel) rfl
theorem w_120 : Cond.fieldLink "CricketHay$Market" 18 "CricketHay$Market" "kind" "[I" ∈ lw_good := q_t 120 (by decide +kernel) rfl
theorem w_124 : Cond.fieldLink "CricketHay$Market" 22 "CricketHay$Market" "song" "[I" ∈ lw_good := q_t 124 (by decide +kernel) rfl
theorem w_129 : Cond.fieldLink "CricketHay$Market" 25 "CricketHay$Market" "age" "[I" ∈ lw_good := q_t 129 (by decide +kernel) rfl
theorem w_132 : Cond.fieldLink "CricketHay$Market" 28 "CricketHay$Market" "gold" "[I" ∈ lw_good := q_t 132 (by decide +kernel) rfl
theorem w_135 : Cond.fieldLink "CricketHay$Market" 31 "CricketHay$Market" "loads" "[I" ∈ lw_good := q_t 135 (by decide +kernel) rfl
theorem w_138 : Cond.fieldLink "CricketHay$Market" 34 "CricketHay$Market" "needs" "[I" ∈ lw_good := q_t 138 (by decide +kernel) rfl
theorem w_204 : Cond.classLink "CricketHay" 26 "CricketHay$Yard" ∈ lw_good := q_t 204 (by decide +kernel) rfl
theorem w_205 : Cond.instantiable "CricketHay$Yard" 10 ∈ lw_good := q_t 205 (by decide +kernel) rfl
theorem w_207 : Cond.instanceMethod ⟨"CricketHay$Yard", "<init>", "()V"⟩ ∈ lw_good := q_t 207 (by decide +kernel) rfl
theorem w_208 : Cond.code ⟨"CricketHay$Yard", "<init>", "()V"⟩ prog_12_method_1_code 1 none ∈ lw_good := q_t 208 (by decide +kernel) rfl
theorem w_209 : Cond.methodLink "CricketHay$Yard" 3 ⟨"java/lang/Object", "<init>", "()V"⟩ ∈ lw_good := q_t 209 (by decide +kernel) rfl
theorem w_260 : Cond.classLink "CricketHay" 36 "CricketHay$Choir" ∈ lw_good := q_t 260 (by decide +kernel) rfl
theorem w_261 : Cond.instantiable "CricketHay$Choir" 2 ∈ lw_good := q_t 261 (by decide +kernel) rfl
theorem w_263 : Cond.instanceMethod ⟨"CricketHay$Choir", "<init>", "()V"⟩ ∈ lw_good := q_t 263 (by decide +kernel) rfl
theorem w_264 : Cond.code ⟨"CricketHay$Choir", "<init>", "()V"⟩ prog_4_method_1_code 1 none ∈ lw_good := q_t 264 (by decide +kernel) rfl
theorem w_265 : Cond.methodLink "CricketHay$Choir" 3 ⟨"java/lang/Object", "<init>", "()V"⟩ ∈ lw_good := q_t 265 (by decide +kernel) rfl
theorem w_274 : Cond.classLink "CricketHay" 43 "CricketHay$Acts" ∈ lw_good := q_t 274 (by decide +kernel) rfl
theorem w_275 : Cond.instantiable "CricketHay$Acts" 3 ∈ lw_good := q_t 275 (by decide +kernel) rfl
theorem w_276 : Cond.methodLink "CricketHay" 45 ⟨"CricketHay$Acts", "<init>", "()V"⟩ ∈ lw_good := q_t 276 (by decide +kernel) rfl
theorem w_277 : Cond.instanceMethod ⟨"CricketHay$Acts", "<init>", "()V"⟩ ∈ lw_good := q_t 277 (by decide +kernel) rfl
theorem w_278 : Cond.code ⟨"CricketHay$Acts", "<init>", "()V"⟩ prog_2_method_1_code 2 none ∈ lw_good := q_t 278 (by decide +kernel) rfl
theorem w_279 : Cond.methodLink "CricketHay$Acts" 3 ⟨"java/lang/Object", "<init>", "()V"⟩ ∈ lw_good := q_t 279 (by decide +kernel) rfl
theorem w_280 : Cond.classLink "CricketHay$Acts" 9 "CricketHay$Yard" ∈ lw_good := q_t 280 (by decide +kernel) rfl
theorem w_295 : Cond.classLink "CricketHay" 50 "CricketHay$Boxes" ∈ lw_good := q_t 295 (by decide +kernel) rfl
theorem w_296 : Cond.instantiable "CricketHay$Boxes" 2 ∈ lw_good := q_t 296 (by decide +kernel) rfl
theorem w_297 : Cond.methodLink "CricketHay" 52 ⟨"CricketHay$Boxes", "<init>", "()V"⟩ ∈ lw_good := q_t 297 (by decide +kernel) rfl
theorem w_298 : Cond.instanceMethod ⟨"CricketHay$Boxes", "<init>", "()V"⟩ ∈ lw_good := q_t 298 (by decide +kernel) rfl
theorem w_299 : Cond.code ⟨"CricketHay$Boxes", "<init>", "()V"⟩ prog_3_method_1_code 2 none ∈ lw_good := q_t 299 (by decide +kernel) rfl
theorem w_300 : Cond.methodLink "CricketHay$Boxes" 3 ⟨"java/lang/Object", "<init>", "()V"⟩ ∈ lw_good := q_t 300 (by decide +kernel) rfl
theorem w_301 : Cond.classLink "CricketHay$Boxes" 9 "CricketHay$Yard" ∈ lw_good := q_t 301 (by decide +kernel) rfl
theorem w_311 : Cond.classLink "CricketHay" 57 "CricketHay$Ears" ∈ lw_good := q_t 311 (by decide +kernel) rfl
theorem w_312 : Cond.instantiable "CricketHay$Ears" 12 ∈ lw_good := q_t 312 (by decide +kernel) rfl
theorem w_314 : Cond.instanceMethod ⟨"CricketHay$Ears", "<init>", "()V"⟩ ∈ lw_good := q_t 314 (by decide +kernel) rfl
theorem w_315 : Cond.code ⟨"CricketHay$Ears", "<init>", "()V"⟩ prog_6_method_1_code 1 none ∈ lw_good := q_t 315 (by decide +kernel) rfl
theorem w_316 : Cond.methodLink "CricketHay$Ears" 3 ⟨"java/lang/Object", "<init>", "()V"⟩ ∈ lw_good := q_t 316 (by decide +kernel) rfl
theorem w_356 : Cond.classLink "CricketHay" 64 "CricketHay$Mating" ∈ lw_good := q_t 356 (by decide +kernel) rfl
theorem w_357 : Cond.instantiable "CricketHay$Mating" 2 ∈ lw_good := q_t 357 (by decide +kernel) rfl
theorem w_359 : Cond.instanceMethod ⟨"CricketHay$Mating", "<init>", "()V"⟩ ∈ lw_good := q_t 359 (by decide +kernel) rfl
theorem w_360 : Cond.code ⟨"CricketHay$Mating", "<init>", "()V"⟩ prog_10_method_1_code 1 none ∈ lw_good := q_t 360 (by decide +kernel) rfl
theorem w_361 : Cond.methodLink "CricketHay$Mating" 3 ⟨"java/lang/Object", "<init>", "()V"⟩ ∈ lw_good := q_t 361 (by decide +kernel) rfl
theorem w_369 : Cond.classLink "CricketHay" 71 "CricketHay$Clearing" ∈ lw_good := q_t 369 (by decide +kernel) rfl
theorem w_370 : Cond.instantiable "CricketHay$Clearing" 8 ∈ lw_good := q_t 370 (by decide +kernel) rfl
theorem w_372 : Cond.instanceMethod ⟨"CricketHay$Clearing", "<init>", "()V"⟩ ∈ lw_good := q_t 372 (by decide +kernel) rfl
theorem w_373 : Cond.code ⟨"CricketHay$Clearing", "<init>", "()V"⟩ prog_5_method_1_code 1 none ∈ lw_good := q_t 373 (by decide +kernel) rfl
theorem w_374 : Cond.methodLink "CricketHay$Clearing" 3 ⟨"java/lang/Object", "<init>", "()V"⟩ ∈ lw_good := q_t 374 (by decide +kernel) rfl
theorem w_403 : Cond.classLink "CricketHay" 78 "CricketHay$Lie" ∈ lw_good := q_t 403 (by decide +kernel) rfl
theorem w_404 : Cond.instantiable "CricketHay$Lie" 2 ∈ lw_good := q_t 404 (by decide +kernel) rfl
theorem w_406 : Cond.instanceMethod ⟨"CricketHay$Lie", "<init>", "()V"⟩ ∈ lw_good := q_t 406 (by decide +kernel) rfl
theorem w_407 : Cond.code ⟨"CricketHay$Lie", "<init>", "()V"⟩ prog_8_method_1_code 1 none ∈ lw_good := q_t 407 (by decide +kernel) rfl
theorem w_408 : Cond.methodLink "CricketHay$Lie" 3 ⟨"java/lang/Object", "<init>", "()V"⟩ ∈ lw_good := q_t 408 (by decide +kernel) rfl
theorem w_1085 : Cond.methodLink "CricketHayModel" 1 ⟨"java/lang/Object", "<init>", "()V"⟩ ∈ lw_good := q_t 1085 (by decide +kernel) rfl
theorem wa_0 : Cond.arrayClass (newarray.typeOf .int) ∈ lw_good := q_t 76 (by decide +kernel) rfl
theorem wa_1 : Cond.arrayClass (newarray.typeOf .boolean) ∈ lw_good := q_t 310 (by decide +kernel) rfl
theorem wa_2 : Cond.arrayClass (newarray.typeOf .long) ∈ lw_good := q_t 107 (by decide +kernel) rfl
theorem wo_code : Cond.code Lib.objectInit ⟨#[0xb1]⟩ 1 none ∈ lw_good := q_t 29 (by decide +kernel) rfl
abbrev y_Yard_init : MI := (⟨"CricketHay$Yard", "<init>", "()V"⟩, prog_12_method_1_code, 1, none)
theorem hy_Yard_init : y_Yard_init.1.cls ≠ "java/lang/invoke/MethodHandle" ∧ y_Yard_init.1.cls ≠ "java/lang/invoke/VarHandle" ∧ (parseMethodDescriptor y_Yard_init.1.desc).map (fun d => d.parameters.length) = some 0 := by decide +kernel
theorem d_Yard_init_0 : decode y_Yard_init.2.1 0 = .ok (.aload_n 0, 1) := by decide +kernel
theorem d_Yard_init_1 : decode y_Yard_init.2.1 1 = .ok (.invokespecial 3, 3) := by decide +kernel
theorem d_Yard_init_4 : decode y_Yard_init.2.1 4 = .ok (.aload_n 0, 1) := by decide +kernel
theorem d_Yard_init_5 : decode y_Yard_init.2.1 5 = .ok (.bipush 6, 2) := by decide +kernel
theorem d_Yard_init_7 : decode y_Yard_init.2.1 7 = .ok (.newarray .int, 2) := by decide +kernel
theorem d_Yard_init_9 : decode y_Yard_init.2.1 9 = .ok (.putfield 9, 3) := by decide +kernel
theorem d_Yard_init_12 : decode y_Yard_init.2.1 12 = .ok (.aload_n 0, 1) := by decide +kernel
theorem d_Yard_init_13 : decode y_Yard_init.2.1 13 = .ok (.bipush 6, 2) := by decide +kernel
theorem d_Yard_init_15 : decode y_Yard_init.2.1 15 = .ok (.newarray .int, 2) := by decide +kernel
theorem d_Yard_init_17 : decode y_Yard_init.2.1 17 = .ok (.putfield 15, 3) := by decide +kernel
theorem d_Yard_init_20 : decode y_Yard_init.2.1 20 = .ok (.aload_n 0, 1) := by decide +kernel
theorem d_Yard_init_21 : decode y_Yard_init.2.1 21 = .ok (.bipush 6, 2) := by decide +kernel
theorem d_Yard_init_23 : decode y_Yard_init.2.1 23 = .ok (.newarray .int, 2) := by decide +kernel
theorem d_Yard_init_25 : decode y_Yard_init.2.1 25 = .ok (.putfield 18, 3) := by decide +kernel
theorem d_Yard_init_28 : decode y_Yard_init.2.1 28 = .ok (.aload_n 0, 1) := by decide +kernel
theorem d_Yard_init_29 : decode y_Yard_init.2.1 29 = .ok (.bipush 6, 2) := by decide +kernel
theorem d_Yard_init_31 : decode y_Yard_init.2.1 31 = .ok (.newarray .int, 2) := by decide +kernel
theorem d_Yard_init_33 : decode y_Yard_init.2.1 33 = .ok (.putfield 21, 3) := by decide +kernel
theorem d_Yard_init_36 : decode y_Yard_init.2.1 36 = .ok (.aload_n 0, 1) := by decide +kernel
theorem d_Yard_init_37 : decode y_Yard_init.2.1 37 = .ok (.bipush 6, 2) := by decide +kernel
theorem d_Yard_init_39 : decode y_Yard_init.2.1 39 = .ok (.newarray .int, 2) := by decide +kernel
theorem d_Yard_init_41 : decode y_Yard_init.2.1 41 = .ok (.putfield 24, 3) := by decide +kernel
theorem d_Yard_init_44 : decode y_Yard_init.2.1 44 = .ok (.aload_n 0, 1) := by decide +kernel
theorem d_Yard_init_45 : decode y_Yard_init.2.1 45 = .ok (.bipush 6, 2) := by decide +kernel
theorem d_Yard_init_47 : decode y_Yard_init.2.1 47 = .ok (.newarray .int, 2) := by decide +kernel
theorem d_Yard_init_49 : decode y_Yard_init.2.1 49 = .ok (.putfield 27, 3) := by decide +kernel
theorem d_Yard_init_52 : decode y_Yard_init.2.1 52 = .ok (.aload_n 0, 1) := by decide +kernel
theorem d_Yard_init_53 : decode y_Yard_init.2.1 53 = .ok (.iconst 0, 1) := by decide +kernel
theorem d_Yard_init_54 : decode y_Yard_init.2.1 54 = .ok (.putfield 30, 3) := by decide +kernel
theorem d_Yard_init_57 : decode y_Yard_init.2.1 57 = .ok (.aload_n 0, 1) := by decide +kernel
theorem d_Yard_init_58 : decode y_Yard_init.2.1 58 = .ok (.iconst 0, 1) := by decide +kernel
theorem d_Yard_init_59 : decode y_Yard_init.2.1 59 = .ok (.putfield 34, 3) := by decide +kernel
theorem d_Yard_init_62 : decode y_Yard_init.2.1 62 = .ok (.aload_n 0, 1) := by decide +kernel
theorem d_Yard_init_63 : decode y_Yard_init.2.1 63 = .ok (.iconst 0, 1) := by decide +kernel
theorem d_Yard_init_64 : decode y_Yard_init.2.1 64 = .ok (.putfield 37, 3) := by decide +kernel
theorem d_Yard_init_67 : decode y_Yard_init.2.1 67 = .ok (.aload_n 0, 1) := by decide +kernel
theorem d_Yard_init_68 : decode y_Yard_init.2.1 68 = .ok (.iconst 0, 1) := by decide +kernel
theorem d_Yard_init_69 : decode y_Yard_init.2.1 69 = .ok (.putfield 40, 3) := by decide +kernel
theorem d_Yard_init_72 : decode y_Yard_init.2.1 72 = .ok (.return_, 1) := by decide +kernel

abbrev y_Formula_init : MI := (⟨"CricketHay$Formula", "<init>", "()V"⟩, prog_7_method_1_code, 1, none)
theorem hy_Formula_init : y_Formula_init.1.cls ≠ "java/lang/invoke/MethodHandle" ∧ y_Formula_init.1.cls ≠ "java/lang/invoke/VarHandle" ∧ (parseMethodDescriptor y_Formula_init.1.desc).map (fun d => d.parameters.length) = some 0 := by decide +kernel
theorem d_Formula_init_0 : decode y_Formula_init.2.1 0 = .ok (.aload_n 0, 1) := by decide +kernel
theorem d_Formula_init_1 : decode y_Formula_init.2.1 1 = .ok (.invokespecial 3, 3) := by decide +kernel
theorem d_Formula_init_4 : decode y_Formula_init.2.1 4 = .ok (.aload_n 0, 1) := by decide +kernel
theorem d_Formula_init_5 : decode y_Formula_init.2.1 5 = .ok (.sipush 270, 3) := by decide +kernel
theorem d_Formula_init_8 : decode y_Formula_init.2.1 8 = .ok (.newarray .int, 2) := by decide +kernel
theorem d_Formula_init_10 : decode y_Formula_init.2.1 10 = .ok (.putfield 9, 3) := by decide +kernel
theorem d_Formula_init_13 : decode y_Formula_init.2.1 13 = .ok (.aload_n 0, 1) := by decide +kernel
theorem d_Formula_init_14 : decode y_Formula_init.2.1 14 = .ok (.sipush 270, 3) := by decide +kernel
theorem d_Formula_init_17 : decode y_Formula_init.2.1 17 = .ok (.newarray .int, 2) := by decide +kernel
theorem d_Formula_init_19 : decode y_Formula_init.2.1 19 = .ok (.putfield 15, 3) := by decide +kernel
theorem d_Formula_init_22 : decode y_Formula_init.2.1 22 = .ok (.aload_n 0, 1) := by decide +kernel
theorem d_Formula_init_23 : decode y_Formula_init.2.1 23 = .ok (.bipush 30, 2) := by decide +kernel
theorem d_Formula_init_25 : decode y_Formula_init.2.1 25 = .ok (.newarray .int, 2) := by decide +kernel
theorem d_Formula_init_27 : decode y_Formula_init.2.1 27 = .ok (.putfield 18, 3) := by decide +kernel
theorem d_Formula_init_30 : decode y_Formula_init.2.1 30 = .ok (.aload_n 0, 1) := by decide +kernel
theorem d_Formula_init_31 : decode y_Formula_init.2.1 31 = .ok (.iconst 0, 1) := by decide +kernel
theorem d_Formula_init_32 : decode y_Formula_init.2.1 32 = .ok (.putfield 21, 3) := by decide +kernel
theorem d_Formula_init_35 : decode y_Formula_init.2.1 35 = .ok (.aload_n 0, 1) := by decide +kernel
theorem d_Formula_init_36 : decode y_Formula_init.2.1 36 = .ok (.iconst 0, 1) := by decide +kernel
theorem d_Formula_init_37 : decode y_Formula_init.2.1 37 = .ok (.putfield 25, 3) := by decide +kernel
theorem d_Formula_init_40 : decode y_Formula_init.2.1 40 = .ok (.return_, 1) := by decide +kernel

abbrev y_Market_init : MI := (⟨"CricketHay$Market", "<init>", "()V"⟩, prog_9_method_1_code, 1, none)
theorem hy_Market_init : y_Market_init.1.cls ≠ "java/lang/invoke/MethodHandle" ∧ y_Market_init.1.cls ≠ "java/lang/invoke/VarHandle" ∧ (parseMethodDescriptor y_Market_init.1.desc).map (fun d => d.parameters.length) = some 0 := by decide +kernel
theorem d_Market_init_0 : decode y_Market_init.2.1 0 = .ok (.aload_n 0, 1) := by decide +kernel
theorem d_Market_init_1 : decode y_Market_init.2.1 1 = .ok (.invokespecial 3, 3) := by decide +kernel
theorem d_Market_init_4 : decode y_Market_init.2.1 4 = .ok (.aload_n 0, 1) := by decide +kernel
theorem d_Market_init_5 : decode y_Market_init.2.1 5 = .ok (.iconst 3, 1) := by decide +kernel
theorem d_Market_init_6 : decode y_Market_init.2.1 6 = .ok (.newarray .long, 2) := by decide +kernel
theorem d_Market_init_8 : decode y_Market_init.2.1 8 = .ok (.putfield 9, 3) := by decide +kernel
theorem d_Market_init_11 : decode y_Market_init.2.1 11 = .ok (.aload_n 0, 1) := by decide +kernel
theorem d_Market_init_12 : decode y_Market_init.2.1 12 = .ok (.bipush 6, 2) := by decide +kernel
theorem d_Market_init_14 : decode y_Market_init.2.1 14 = .ok (.newarray .long, 2) := by decide +kernel
theorem d_Market_init_16 : decode y_Market_init.2.1 16 = .ok (.putfield 15, 3) := by decide +kernel
theorem d_Market_init_19 : decode y_Market_init.2.1 19 = .ok (.aload_n 0, 1) := by decide +kernel
theorem d_Market_init_20 : decode y_Market_init.2.1 20 = .ok (.bipush 6, 2) := by decide +kernel
theorem d_Market_init_22 : decode y_Market_init.2.1 22 = .ok (.newarray .int, 2) := by decide +kernel
theorem d_Market_init_24 : decode y_Market_init.2.1 24 = .ok (.putfield 18, 3) := by decide +kernel
theorem d_Market_init_27 : decode y_Market_init.2.1 27 = .ok (.aload_n 0, 1) := by decide +kernel
theorem d_Market_init_28 : decode y_Market_init.2.1 28 = .ok (.bipush 6, 2) := by decide +kernel
theorem d_Market_init_30 : decode y_Market_init.2.1 30 = .ok (.newarray .int, 2) := by decide +kernel
theorem d_Market_init_32 : decode y_Market_init.2.1 32 = .ok (.putfield 22, 3) := by decide +kernel
theorem d_Market_init_35 : decode y_Market_init.2.1 35 = .ok (.aload_n 0, 1) := by decide +kernel
theorem d_Market_init_36 : decode y_Market_init.2.1 36 = .ok (.bipush 6, 2) := by decide +kernel
theorem d_Market_init_38 : decode y_Market_init.2.1 38 = .ok (.newarray .int, 2) := by decide +kernel
theorem d_Market_init_40 : decode y_Market_init.2.1 40 = .ok (.putfield 25, 3) := by decide +kernel
theorem d_Market_init_43 : decode y_Market_init.2.1 43 = .ok (.aload_n 0, 1) := by decide +kernel
theorem d_Market_init_44 : decode y_Market_init.2.1 44 = .ok (.bipush 6, 2) := by decide +kernel
theorem d_Market_init_46 : decode y_Market_init.2.1 46 = .ok (.newarray .int, 2) := by decide +kernel
theorem d_Market_init_48 : decode y_Market_init.2.1 48 = .ok (.putfield 28, 3) := by decide +kernel
theorem d_Market_init_51 : decode y_Market_init.2.1 51 = .ok (.aload_n 0, 1) := by decide +kernel
theorem d_Market_init_52 : decode y_Market_init.2.1 52 = .ok (.bipush 6, 2) := by decide +kernel
theorem d_Market_init_54 : decode y_Market_init.2.1 54 = .ok (.newarray .int, 2) := by decide +kernel
theorem d_Market_init_56 : decode y_Market_init.2.1 56 = .ok (.putfield 31, 3) := by decide +kernel
theorem d_Market_init_59 : decode y_Market_init.2.1 59 = .ok (.aload_n 0, 1) := by decide +kernel
theorem d_Market_init_60 : decode y_Market_init.2.1 60 = .ok (.bipush 6, 2) := by decide +kernel
theorem d_Market_init_62 : decode y_Market_init.2.1 62 = .ok (.newarray .int, 2) := by decide +kernel
theorem d_Market_init_64 : decode y_Market_init.2.1 64 = .ok (.putfield 34, 3) := by decide +kernel
theorem d_Market_init_67 : decode y_Market_init.2.1 67 = .ok (.aload_n 0, 1) := by decide +kernel
theorem d_Market_init_68 : decode y_Market_init.2.1 68 = .ok (.new 37, 3) := by decide +kernel
theorem d_Market_init_71 : decode y_Market_init.2.1 71 = .ok (.dup, 1) := by decide +kernel
theorem d_Market_init_72 : decode y_Market_init.2.1 72 = .ok (.invokespecial 39, 3) := by decide +kernel
theorem d_Market_init_75 : decode y_Market_init.2.1 75 = .ok (.putfield 40, 3) := by decide +kernel
theorem d_Market_init_78 : decode y_Market_init.2.1 78 = .ok (.aload_n 0, 1) := by decide +kernel
theorem d_Market_init_79 : decode y_Market_init.2.1 79 = .ok (.new 37, 3) := by decide +kernel
theorem d_Market_init_82 : decode y_Market_init.2.1 82 = .ok (.dup, 1) := by decide +kernel
theorem d_Market_init_83 : decode y_Market_init.2.1 83 = .ok (.invokespecial 39, 3) := by decide +kernel
theorem d_Market_init_86 : decode y_Market_init.2.1 86 = .ok (.putfield 44, 3) := by decide +kernel
theorem d_Market_init_89 : decode y_Market_init.2.1 89 = .ok (.aload_n 0, 1) := by decide +kernel
theorem d_Market_init_90 : decode y_Market_init.2.1 90 = .ok (.invokevirtual 47, 3) := by decide +kernel
theorem d_Market_init_93 : decode y_Market_init.2.1 93 = .ok (.return_, 1) := by decide +kernel

abbrev y_Reader_init : MI := (⟨"CricketHay$Reader", "<init>", "()V"⟩, prog_11_method_1_code, 1, none)
theorem hy_Reader_init : y_Reader_init.1.cls ≠ "java/lang/invoke/MethodHandle" ∧ y_Reader_init.1.cls ≠ "java/lang/invoke/VarHandle" ∧ (parseMethodDescriptor y_Reader_init.1.desc).map (fun d => d.parameters.length) = some 0 := by decide +kernel
theorem d_Reader_init_0 : decode y_Reader_init.2.1 0 = .ok (.aload_n 0, 1) := by decide +kernel
theorem d_Reader_init_1 : decode y_Reader_init.2.1 1 = .ok (.invokespecial 3, 3) := by decide +kernel
theorem d_Reader_init_4 : decode y_Reader_init.2.1 4 = .ok (.aload_n 0, 1) := by decide +kernel
theorem d_Reader_init_5 : decode y_Reader_init.2.1 5 = .ok (.sipush 1600, 3) := by decide +kernel
theorem d_Reader_init_8 : decode y_Reader_init.2.1 8 = .ok (.newarray .int, 2) := by decide +kernel
theorem d_Reader_init_10 : decode y_Reader_init.2.1 10 = .ok (.putfield 9, 3) := by decide +kernel
theorem d_Reader_init_13 : decode y_Reader_init.2.1 13 = .ok (.aload_n 0, 1) := by decide +kernel
theorem d_Reader_init_14 : decode y_Reader_init.2.1 14 = .ok (.iconst 0, 1) := by decide +kernel
theorem d_Reader_init_15 : decode y_Reader_init.2.1 15 = .ok (.putfield 15, 3) := by decide +kernel
theorem d_Reader_init_18 : decode y_Reader_init.2.1 18 = .ok (.aload_n 0, 1) := by decide +kernel
theorem d_Reader_init_19 : decode y_Reader_init.2.1 19 = .ok (.iconst 0, 1) := by decide +kernel
theorem d_Reader_init_20 : decode y_Reader_init.2.1 20 = .ok (.putfield 19, 3) := by decide +kernel
theorem d_Reader_init_23 : decode y_Reader_init.2.1 23 = .ok (.aload_n 0, 1) := by decide +kernel
theorem d_Reader_init_24 : decode y_Reader_init.2.1 24 = .ok (.iconst (-1), 1) := by decide +kernel
theorem d_Reader_init_25 : decode y_Reader_init.2.1 25 = .ok (.putfield 22, 3) := by decide +kernel
theorem d_Reader_init_28 : decode y_Reader_init.2.1 28 = .ok (.return_, 1) := by decide +kernel

abbrev y_Choir_init : MI := (⟨"CricketHay$Choir", "<init>", "()V"⟩, prog_4_method_1_code, 1, none)
theorem hy_Choir_init : y_Choir_init.1.cls ≠ "java/lang/invoke/MethodHandle" ∧ y_Choir_init.1.cls ≠ "java/lang/invoke/VarHandle" ∧ (parseMethodDescriptor y_Choir_init.1.desc).map (fun d => d.parameters.length) = some 0 := by decide +kernel
theorem d_Choir_init_0 : decode y_Choir_init.2.1 0 = .ok (.aload_n 0, 1) := by decide +kernel
theorem d_Choir_init_1 : decode y_Choir_init.2.1 1 = .ok (.invokespecial 3, 3) := by decide +kernel
theorem d_Choir_init_4 : decode y_Choir_init.2.1 4 = .ok (.aload_n 0, 1) := by decide +kernel
theorem d_Choir_init_5 : decode y_Choir_init.2.1 5 = .ok (.bipush 6, 2) := by decide +kernel
theorem d_Choir_init_7 : decode y_Choir_init.2.1 7 = .ok (.newarray .int, 2) := by decide +kernel
theorem d_Choir_init_9 : decode y_Choir_init.2.1 9 = .ok (.putfield 9, 3) := by decide +kernel
theorem d_Choir_init_12 : decode y_Choir_init.2.1 12 = .ok (.aload_n 0, 1) := by decide +kernel
theorem d_Choir_init_13 : decode y_Choir_init.2.1 13 = .ok (.iconst 0, 1) := by decide +kernel
theorem d_Choir_init_14 : decode y_Choir_init.2.1 14 = .ok (.putfield 15, 3) := by decide +kernel
theorem d_Choir_init_17 : decode y_Choir_init.2.1 17 = .ok (.return_, 1) := by decide +kernel

abbrev y_Acts_init : MI := (⟨"CricketHay$Acts", "<init>", "()V"⟩, prog_2_method_1_code, 2, none)
theorem hy_Acts_init : y_Acts_init.1.cls ≠ "java/lang/invoke/MethodHandle" ∧ y_Acts_init.1.cls ≠ "java/lang/invoke/VarHandle" ∧ (parseMethodDescriptor y_Acts_init.1.desc).map (fun d => d.parameters.length) = some 0 := by decide +kernel
theorem d_Acts_init_0 : decode y_Acts_init.2.1 0 = .ok (.aload_n 0, 1) := by decide +kernel
theorem d_Acts_init_1 : decode y_Acts_init.2.1 1 = .ok (.invokespecial 3, 3) := by decide +kernel
theorem d_Acts_init_4 : decode y_Acts_init.2.1 4 = .ok (.aload_n 0, 1) := by decide +kernel
theorem d_Acts_init_5 : decode y_Acts_init.2.1 5 = .ok (.bipush 41, 2) := by decide +kernel
theorem d_Acts_init_7 : decode y_Acts_init.2.1 7 = .ok (.anewarray 9, 3) := by decide +kernel
theorem d_Acts_init_10 : decode y_Acts_init.2.1 10 = .ok (.putfield 11, 3) := by decide +kernel
theorem d_Acts_init_13 : decode y_Acts_init.2.1 13 = .ok (.aload_n 0, 1) := by decide +kernel
theorem d_Acts_init_14 : decode y_Acts_init.2.1 14 = .ok (.iconst 0, 1) := by decide +kernel
theorem d_Acts_init_15 : decode y_Acts_init.2.1 15 = .ok (.putfield 17, 3) := by decide +kernel
theorem d_Acts_init_18 : decode y_Acts_init.2.1 18 = .ok (.aload_n 0, 1) := by decide +kernel
theorem d_Acts_init_19 : decode y_Acts_init.2.1 19 = .ok (.iconst 0, 1) := by decide +kernel
theorem d_Acts_init_20 : decode y_Acts_init.2.1 20 = .ok (.putfield 21, 3) := by decide +kernel
theorem d_Acts_init_23 : decode y_Acts_init.2.1 23 = .ok (.iconst 0, 1) := by decide +kernel
theorem d_Acts_init_24 : decode y_Acts_init.2.1 24 = .ok (.istore_n 1, 1) := by decide +kernel
theorem d_Acts_init_25 : decode y_Acts_init.2.1 25 = .ok (.iload_n 1, 1) := by decide +kernel
theorem d_Acts_init_26 : decode y_Acts_init.2.1 26 = .ok (.aload_n 0, 1) := by decide +kernel
theorem d_Acts_init_27 : decode y_Acts_init.2.1 27 = .ok (.getfield 11, 3) := by decide +kernel
theorem d_Acts_init_30 : decode y_Acts_init.2.1 30 = .ok (.arraylength, 1) := by decide +kernel
theorem d_Acts_init_31 : decode y_Acts_init.2.1 31 = .ok (.if_icmp .ge 22, 3) := by decide +kernel
theorem d_Acts_init_34 : decode y_Acts_init.2.1 34 = .ok (.aload_n 0, 1) := by decide +kernel
theorem d_Acts_init_35 : decode y_Acts_init.2.1 35 = .ok (.getfield 11, 3) := by decide +kernel
theorem d_Acts_init_38 : decode y_Acts_init.2.1 38 = .ok (.iload_n 1, 1) := by decide +kernel
theorem d_Acts_init_39 : decode y_Acts_init.2.1 39 = .ok (.new 9, 3) := by decide +kernel
theorem d_Acts_init_42 : decode y_Acts_init.2.1 42 = .ok (.dup, 1) := by decide +kernel
theorem d_Acts_init_43 : decode y_Acts_init.2.1 43 = .ok (.invokespecial 24, 3) := by decide +kernel
theorem d_Acts_init_46 : decode y_Acts_init.2.1 46 = .ok (.aastore, 1) := by decide +kernel
theorem d_Acts_init_47 : decode y_Acts_init.2.1 47 = .ok (.iinc 1 1, 3) := by decide +kernel
theorem d_Acts_init_50 : decode y_Acts_init.2.1 50 = .ok (.goto (-25), 3) := by decide +kernel
theorem d_Acts_init_53 : decode y_Acts_init.2.1 53 = .ok (.return_, 1) := by decide +kernel

abbrev y_Boxes_init : MI := (⟨"CricketHay$Boxes", "<init>", "()V"⟩, prog_3_method_1_code, 2, none)
theorem hy_Boxes_init : y_Boxes_init.1.cls ≠ "java/lang/invoke/MethodHandle" ∧ y_Boxes_init.1.cls ≠ "java/lang/invoke/VarHandle" ∧ (parseMethodDescriptor y_Boxes_init.1.desc).map (fun d => d.parameters.length) = some 0 := by decide +kernel
theorem d_Boxes_init_0 : decode y_Boxes_init.2.1 0 = .ok (.aload_n 0, 1) := by decide +kernel
theorem d_Boxes_init_1 : decode y_Boxes_init.2.1 1 = .ok (.invokespecial 3, 3) := by decide +kernel
theorem d_Boxes_init_4 : decode y_Boxes_init.2.1 4 = .ok (.aload_n 0, 1) := by decide +kernel
theorem d_Boxes_init_5 : decode y_Boxes_init.2.1 5 = .ok (.iconst 3, 1) := by decide +kernel
theorem d_Boxes_init_6 : decode y_Boxes_init.2.1 6 = .ok (.anewarray 9, 3) := by decide +kernel
theorem d_Boxes_init_9 : decode y_Boxes_init.2.1 9 = .ok (.putfield 11, 3) := by decide +kernel
theorem d_Boxes_init_12 : decode y_Boxes_init.2.1 12 = .ok (.aload_n 0, 1) := by decide +kernel
theorem d_Boxes_init_13 : decode y_Boxes_init.2.1 13 = .ok (.iconst 3, 1) := by decide +kernel
theorem d_Boxes_init_14 : decode y_Boxes_init.2.1 14 = .ok (.newarray .boolean, 2) := by decide +kernel
theorem d_Boxes_init_16 : decode y_Boxes_init.2.1 16 = .ok (.putfield 17, 3) := by decide +kernel
theorem d_Boxes_init_19 : decode y_Boxes_init.2.1 19 = .ok (.iconst 0, 1) := by decide +kernel
theorem d_Boxes_init_20 : decode y_Boxes_init.2.1 20 = .ok (.istore_n 1, 1) := by decide +kernel
theorem d_Boxes_init_21 : decode y_Boxes_init.2.1 21 = .ok (.iload_n 1, 1) := by decide +kernel
theorem d_Boxes_init_22 : decode y_Boxes_init.2.1 22 = .ok (.iconst 3, 1) := by decide +kernel
theorem d_Boxes_init_23 : decode y_Boxes_init.2.1 23 = .ok (.if_icmp .ge 22, 3) := by decide +kernel
theorem d_Boxes_init_26 : decode y_Boxes_init.2.1 26 = .ok (.aload_n 0, 1) := by decide +kernel
theorem d_Boxes_init_27 : decode y_Boxes_init.2.1 27 = .ok (.getfield 11, 3) := by decide +kernel
theorem d_Boxes_init_30 : decode y_Boxes_init.2.1 30 = .ok (.iload_n 1, 1) := by decide +kernel
theorem d_Boxes_init_31 : decode y_Boxes_init.2.1 31 = .ok (.new 9, 3) := by decide +kernel
theorem d_Boxes_init_34 : decode y_Boxes_init.2.1 34 = .ok (.dup, 1) := by decide +kernel
theorem d_Boxes_init_35 : decode y_Boxes_init.2.1 35 = .ok (.invokespecial 21, 3) := by decide +kernel
theorem d_Boxes_init_38 : decode y_Boxes_init.2.1 38 = .ok (.aastore, 1) := by decide +kernel
theorem d_Boxes_init_39 : decode y_Boxes_init.2.1 39 = .ok (.iinc 1 1, 3) := by decide +kernel
theorem d_Boxes_init_42 : decode y_Boxes_init.2.1 42 = .ok (.goto (-21), 3) := by decide +kernel
theorem d_Boxes_init_45 : decode y_Boxes_init.2.1 45 = .ok (.return_, 1) := by decide +kernel

abbrev y_Ears_init : MI := (⟨"CricketHay$Ears", "<init>", "()V"⟩, prog_6_method_1_code, 1, none)
theorem hy_Ears_init : y_Ears_init.1.cls ≠ "java/lang/invoke/MethodHandle" ∧ y_Ears_init.1.cls ≠ "java/lang/invoke/VarHandle" ∧ (parseMethodDescriptor y_Ears_init.1.desc).map (fun d => d.parameters.length) = some 0 := by decide +kernel
theorem d_Ears_init_0 : decode y_Ears_init.2.1 0 = .ok (.aload_n 0, 1) := by decide +kernel
theorem d_Ears_init_1 : decode y_Ears_init.2.1 1 = .ok (.invokespecial 3, 3) := by decide +kernel
theorem d_Ears_init_4 : decode y_Ears_init.2.1 4 = .ok (.aload_n 0, 1) := by decide +kernel
theorem d_Ears_init_5 : decode y_Ears_init.2.1 5 = .ok (.bipush 30, 2) := by decide +kernel
theorem d_Ears_init_7 : decode y_Ears_init.2.1 7 = .ok (.newarray .int, 2) := by decide +kernel
theorem d_Ears_init_9 : decode y_Ears_init.2.1 9 = .ok (.putfield 9, 3) := by decide +kernel
theorem d_Ears_init_12 : decode y_Ears_init.2.1 12 = .ok (.aload_n 0, 1) := by decide +kernel
theorem d_Ears_init_13 : decode y_Ears_init.2.1 13 = .ok (.bipush 30, 2) := by decide +kernel
theorem d_Ears_init_15 : decode y_Ears_init.2.1 15 = .ok (.newarray .int, 2) := by decide +kernel
theorem d_Ears_init_17 : decode y_Ears_init.2.1 17 = .ok (.putfield 15, 3) := by decide +kernel
theorem d_Ears_init_20 : decode y_Ears_init.2.1 20 = .ok (.aload_n 0, 1) := by decide +kernel
theorem d_Ears_init_21 : decode y_Ears_init.2.1 21 = .ok (.bipush 30, 2) := by decide +kernel
theorem d_Ears_init_23 : decode y_Ears_init.2.1 23 = .ok (.newarray .boolean, 2) := by decide +kernel
theorem d_Ears_init_25 : decode y_Ears_init.2.1 25 = .ok (.putfield 18, 3) := by decide +kernel
theorem d_Ears_init_28 : decode y_Ears_init.2.1 28 = .ok (.aload_n 0, 1) := by decide +kernel
theorem d_Ears_init_29 : decode y_Ears_init.2.1 29 = .ok (.bipush 30, 2) := by decide +kernel
theorem d_Ears_init_31 : decode y_Ears_init.2.1 31 = .ok (.newarray .int, 2) := by decide +kernel
theorem d_Ears_init_33 : decode y_Ears_init.2.1 33 = .ok (.putfield 22, 3) := by decide +kernel
theorem d_Ears_init_36 : decode y_Ears_init.2.1 36 = .ok (.aload_n 0, 1) := by decide +kernel
theorem d_Ears_init_37 : decode y_Ears_init.2.1 37 = .ok (.bipush 30, 2) := by decide +kernel
theorem d_Ears_init_39 : decode y_Ears_init.2.1 39 = .ok (.newarray .int, 2) := by decide +kernel
theorem d_Ears_init_41 : decode y_Ears_init.2.1 41 = .ok (.putfield 25, 3) := by decide +kernel
theorem d_Ears_init_44 : decode y_Ears_init.2.1 44 = .ok (.aload_n 0, 1) := by decide +kernel
theorem d_Ears_init_45 : decode y_Ears_init.2.1 45 = .ok (.bipush 100, 2) := by decide +kernel
theorem d_Ears_init_47 : decode y_Ears_init.2.1 47 = .ok (.newarray .boolean, 2) := by decide +kernel
theorem d_Ears_init_49 : decode y_Ears_init.2.1 49 = .ok (.putfield 28, 3) := by decide +kernel
theorem d_Ears_init_52 : decode y_Ears_init.2.1 52 = .ok (.aload_n 0, 1) := by decide +kernel
theorem d_Ears_init_53 : decode y_Ears_init.2.1 53 = .ok (.sipush 4100, 3) := by decide +kernel
theorem d_Ears_init_56 : decode y_Ears_init.2.1 56 = .ok (.newarray .int, 2) := by decide +kernel
theorem d_Ears_init_58 : decode y_Ears_init.2.1 58 = .ok (.putfield 31, 3) := by decide +kernel
theorem d_Ears_init_61 : decode y_Ears_init.2.1 61 = .ok (.aload_n 0, 1) := by decide +kernel
theorem d_Ears_init_62 : decode y_Ears_init.2.1 62 = .ok (.iconst (-1), 1) := by decide +kernel
theorem d_Ears_init_63 : decode y_Ears_init.2.1 63 = .ok (.putfield 34, 3) := by decide +kernel
theorem d_Ears_init_66 : decode y_Ears_init.2.1 66 = .ok (.aload_n 0, 1) := by decide +kernel
theorem d_Ears_init_67 : decode y_Ears_init.2.1 67 = .ok (.iconst (-1), 1) := by decide +kernel
theorem d_Ears_init_68 : decode y_Ears_init.2.1 68 = .ok (.putfield 38, 3) := by decide +kernel
theorem d_Ears_init_71 : decode y_Ears_init.2.1 71 = .ok (.aload_n 0, 1) := by decide +kernel
theorem d_Ears_init_72 : decode y_Ears_init.2.1 72 = .ok (.iconst 0, 1) := by decide +kernel
theorem d_Ears_init_73 : decode y_Ears_init.2.1 73 = .ok (.putfield 41, 3) := by decide +kernel
theorem d_Ears_init_76 : decode y_Ears_init.2.1 76 = .ok (.aload_n 0, 1) := by decide +kernel
theorem d_Ears_init_77 : decode y_Ears_init.2.1 77 = .ok (.iconst 0, 1) := by decide +kernel
theorem d_Ears_init_78 : decode y_Ears_init.2.1 78 = .ok (.putfield 44, 3) := by decide +kernel
theorem d_Ears_init_81 : decode y_Ears_init.2.1 81 = .ok (.aload_n 0, 1) := by decide +kernel
theorem d_Ears_init_82 : decode y_Ears_init.2.1 82 = .ok (.iconst 0, 1) := by decide +kernel
theorem d_Ears_init_83 : decode y_Ears_init.2.1 83 = .ok (.putfield 47, 3) := by decide +kernel
theorem d_Ears_init_86 : decode y_Ears_init.2.1 86 = .ok (.return_, 1) := by decide +kernel

abbrev y_Mating_init : MI := (⟨"CricketHay$Mating", "<init>", "()V"⟩, prog_10_method_1_code, 1, none)
theorem hy_Mating_init : y_Mating_init.1.cls ≠ "java/lang/invoke/MethodHandle" ∧ y_Mating_init.1.cls ≠ "java/lang/invoke/VarHandle" ∧ (parseMethodDescriptor y_Mating_init.1.desc).map (fun d => d.parameters.length) = some 0 := by decide +kernel
theorem d_Mating_init_0 : decode y_Mating_init.2.1 0 = .ok (.aload_n 0, 1) := by decide +kernel
theorem d_Mating_init_1 : decode y_Mating_init.2.1 1 = .ok (.invokespecial 3, 3) := by decide +kernel
theorem d_Mating_init_4 : decode y_Mating_init.2.1 4 = .ok (.aload_n 0, 1) := by decide +kernel
theorem d_Mating_init_5 : decode y_Mating_init.2.1 5 = .ok (.sipush 1024, 3) := by decide +kernel
theorem d_Mating_init_8 : decode y_Mating_init.2.1 8 = .ok (.newarray .int, 2) := by decide +kernel
theorem d_Mating_init_10 : decode y_Mating_init.2.1 10 = .ok (.putfield 11, 3) := by decide +kernel
theorem d_Mating_init_13 : decode y_Mating_init.2.1 13 = .ok (.aload_n 0, 1) := by decide +kernel
theorem d_Mating_init_14 : decode y_Mating_init.2.1 14 = .ok (.iconst 0, 1) := by decide +kernel
theorem d_Mating_init_15 : decode y_Mating_init.2.1 15 = .ok (.putfield 15, 3) := by decide +kernel
theorem d_Mating_init_18 : decode y_Mating_init.2.1 18 = .ok (.return_, 1) := by decide +kernel

abbrev y_Clearing_init : MI := (⟨"CricketHay$Clearing", "<init>", "()V"⟩, prog_5_method_1_code, 1, none)
theorem hy_Clearing_init : y_Clearing_init.1.cls ≠ "java/lang/invoke/MethodHandle" ∧ y_Clearing_init.1.cls ≠ "java/lang/invoke/VarHandle" ∧ (parseMethodDescriptor y_Clearing_init.1.desc).map (fun d => d.parameters.length) = some 0 := by decide +kernel
theorem d_Clearing_init_0 : decode y_Clearing_init.2.1 0 = .ok (.aload_n 0, 1) := by decide +kernel
theorem d_Clearing_init_1 : decode y_Clearing_init.2.1 1 = .ok (.invokespecial 3, 3) := by decide +kernel
theorem d_Clearing_init_4 : decode y_Clearing_init.2.1 4 = .ok (.aload_n 0, 1) := by decide +kernel
theorem d_Clearing_init_5 : decode y_Clearing_init.2.1 5 = .ok (.bipush 6, 2) := by decide +kernel
theorem d_Clearing_init_7 : decode y_Clearing_init.2.1 7 = .ok (.newarray .int, 2) := by decide +kernel
theorem d_Clearing_init_9 : decode y_Clearing_init.2.1 9 = .ok (.putfield 9, 3) := by decide +kernel
theorem d_Clearing_init_12 : decode y_Clearing_init.2.1 12 = .ok (.aload_n 0, 1) := by decide +kernel
theorem d_Clearing_init_13 : decode y_Clearing_init.2.1 13 = .ok (.bipush 6, 2) := by decide +kernel
theorem d_Clearing_init_15 : decode y_Clearing_init.2.1 15 = .ok (.newarray .int, 2) := by decide +kernel
theorem d_Clearing_init_17 : decode y_Clearing_init.2.1 17 = .ok (.putfield 15, 3) := by decide +kernel
theorem d_Clearing_init_20 : decode y_Clearing_init.2.1 20 = .ok (.aload_n 0, 1) := by decide +kernel
theorem d_Clearing_init_21 : decode y_Clearing_init.2.1 21 = .ok (.bipush 6, 2) := by decide +kernel
theorem d_Clearing_init_23 : decode y_Clearing_init.2.1 23 = .ok (.newarray .int, 2) := by decide +kernel
theorem d_Clearing_init_25 : decode y_Clearing_init.2.1 25 = .ok (.putfield 18, 3) := by decide +kernel
theorem d_Clearing_init_28 : decode y_Clearing_init.2.1 28 = .ok (.aload_n 0, 1) := by decide +kernel
theorem d_Clearing_init_29 : decode y_Clearing_init.2.1 29 = .ok (.iconst 0, 1) := by decide +kernel
theorem d_Clearing_init_30 : decode y_Clearing_init.2.1 30 = .ok (.putfield 21, 3) := by decide +kernel
theorem d_Clearing_init_33 : decode y_Clearing_init.2.1 33 = .ok (.aload_n 0, 1) := by decide +kernel
theorem d_Clearing_init_34 : decode y_Clearing_init.2.1 34 = .ok (.iconst 0, 1) := by decide +kernel
theorem d_Clearing_init_35 : decode y_Clearing_init.2.1 35 = .ok (.putfield 25, 3) := by decide +kernel
theorem d_Clearing_init_38 : decode y_Clearing_init.2.1 38 = .ok (.return_, 1) := by decide +kernel

abbrev y_Lie_init : MI := (⟨"CricketHay$Lie", "<init>", "()V"⟩, prog_8_method_1_code, 1, none)
theorem hy_Lie_init : y_Lie_init.1.cls ≠ "java/lang/invoke/MethodHandle" ∧ y_Lie_init.1.cls ≠ "java/lang/invoke/VarHandle" ∧ (parseMethodDescriptor y_Lie_init.1.desc).map (fun d => d.parameters.length) = some 0 := by decide +kernel
theorem d_Lie_init_0 : decode y_Lie_init.2.1 0 = .ok (.aload_n 0, 1) := by decide +kernel
theorem d_Lie_init_1 : decode y_Lie_init.2.1 1 = .ok (.invokespecial 3, 3) := by decide +kernel
theorem d_Lie_init_4 : decode y_Lie_init.2.1 4 = .ok (.aload_n 0, 1) := by decide +kernel
theorem d_Lie_init_5 : decode y_Lie_init.2.1 5 = .ok (.bipush 12, 2) := by decide +kernel
theorem d_Lie_init_7 : decode y_Lie_init.2.1 7 = .ok (.newarray .int, 2) := by decide +kernel
theorem d_Lie_init_9 : decode y_Lie_init.2.1 9 = .ok (.putfield 9, 3) := by decide +kernel
theorem d_Lie_init_12 : decode y_Lie_init.2.1 12 = .ok (.aload_n 0, 1) := by decide +kernel
theorem d_Lie_init_13 : decode y_Lie_init.2.1 13 = .ok (.iconst 0, 1) := by decide +kernel
theorem d_Lie_init_14 : decode y_Lie_init.2.1 14 = .ok (.putfield 15, 3) := by decide +kernel
theorem d_Lie_init_17 : decode y_Lie_init.2.1 17 = .ok (.return_, 1) := by decide +kernel

abbrev y_H_init : MI := (⟨"CricketHay", "<init>", "()V"⟩, prog_1_method_1_code, 1, none)
theorem hy_H_init : y_H_init.1.cls ≠ "java/lang/invoke/MethodHandle" ∧ y_H_init.1.cls ≠ "java/lang/invoke/VarHandle" ∧ (parseMethodDescriptor y_H_init.1.desc).map (fun d => d.parameters.length) = some 0 := by decide +kernel
theorem d_H_init_0 : decode y_H_init.2.1 0 = .ok (.aload_n 0, 1) := by decide +kernel
theorem d_H_init_1 : decode y_H_init.2.1 1 = .ok (.invokespecial 3, 3) := by decide +kernel
theorem d_H_init_4 : decode y_H_init.2.1 4 = .ok (.aload_n 0, 1) := by decide +kernel
theorem d_H_init_5 : decode y_H_init.2.1 5 = .ok (.new 9, 3) := by decide +kernel
theorem d_H_init_8 : decode y_H_init.2.1 8 = .ok (.dup, 1) := by decide +kernel
theorem d_H_init_9 : decode y_H_init.2.1 9 = .ok (.invokespecial 11, 3) := by decide +kernel
theorem d_H_init_12 : decode y_H_init.2.1 12 = .ok (.putfield 12, 3) := by decide +kernel
theorem d_H_init_15 : decode y_H_init.2.1 15 = .ok (.aload_n 0, 1) := by decide +kernel
theorem d_H_init_16 : decode y_H_init.2.1 16 = .ok (.new 16, 3) := by decide +kernel
theorem d_H_init_19 : decode y_H_init.2.1 19 = .ok (.dup, 1) := by decide +kernel
theorem d_H_init_20 : decode y_H_init.2.1 20 = .ok (.invokespecial 18, 3) := by decide +kernel
theorem d_H_init_23 : decode y_H_init.2.1 23 = .ok (.putfield 19, 3) := by decide +kernel
theorem d_H_init_26 : decode y_H_init.2.1 26 = .ok (.aload_n 0, 1) := by decide +kernel
theorem d_H_init_27 : decode y_H_init.2.1 27 = .ok (.new 16, 3) := by decide +kernel
theorem d_H_init_30 : decode y_H_init.2.1 30 = .ok (.dup, 1) := by decide +kernel
theorem d_H_init_31 : decode y_H_init.2.1 31 = .ok (.invokespecial 18, 3) := by decide +kernel
theorem d_H_init_34 : decode y_H_init.2.1 34 = .ok (.putfield 23, 3) := by decide +kernel
theorem d_H_init_37 : decode y_H_init.2.1 37 = .ok (.aload_n 0, 1) := by decide +kernel
theorem d_H_init_38 : decode y_H_init.2.1 38 = .ok (.new 26, 3) := by decide +kernel
theorem d_H_init_41 : decode y_H_init.2.1 41 = .ok (.dup, 1) := by decide +kernel
theorem d_H_init_42 : decode y_H_init.2.1 42 = .ok (.invokespecial 28, 3) := by decide +kernel
theorem d_H_init_45 : decode y_H_init.2.1 45 = .ok (.putfield 29, 3) := by decide +kernel
theorem d_H_init_48 : decode y_H_init.2.1 48 = .ok (.aload_n 0, 1) := by decide +kernel
theorem d_H_init_49 : decode y_H_init.2.1 49 = .ok (.new 26, 3) := by decide +kernel
theorem d_H_init_52 : decode y_H_init.2.1 52 = .ok (.dup, 1) := by decide +kernel
theorem d_H_init_53 : decode y_H_init.2.1 53 = .ok (.invokespecial 28, 3) := by decide +kernel
theorem d_H_init_56 : decode y_H_init.2.1 56 = .ok (.putfield 33, 3) := by decide +kernel
theorem d_H_init_59 : decode y_H_init.2.1 59 = .ok (.aload_n 0, 1) := by decide +kernel
theorem d_H_init_60 : decode y_H_init.2.1 60 = .ok (.new 36, 3) := by decide +kernel
theorem d_H_init_63 : decode y_H_init.2.1 63 = .ok (.dup, 1) := by decide +kernel
theorem d_H_init_64 : decode y_H_init.2.1 64 = .ok (.invokespecial 38, 3) := by decide +kernel
theorem d_H_init_67 : decode y_H_init.2.1 67 = .ok (.putfield 39, 3) := by decide +kernel
theorem d_H_init_70 : decode y_H_init.2.1 70 = .ok (.aload_n 0, 1) := by decide +kernel
theorem d_H_init_71 : decode y_H_init.2.1 71 = .ok (.new 43, 3) := by decide +kernel
theorem d_H_init_74 : decode y_H_init.2.1 74 = .ok (.dup, 1) := by decide +kernel
theorem d_H_init_75 : decode y_H_init.2.1 75 = .ok (.invokespecial 45, 3) := by decide +kernel
theorem d_H_init_78 : decode y_H_init.2.1 78 = .ok (.putfield 46, 3) := by decide +kernel
theorem d_H_init_81 : decode y_H_init.2.1 81 = .ok (.aload_n 0, 1) := by decide +kernel
theorem d_H_init_82 : decode y_H_init.2.1 82 = .ok (.new 50, 3) := by decide +kernel
theorem d_H_init_85 : decode y_H_init.2.1 85 = .ok (.dup, 1) := by decide +kernel
theorem d_H_init_86 : decode y_H_init.2.1 86 = .ok (.invokespecial 52, 3) := by decide +kernel
theorem d_H_init_89 : decode y_H_init.2.1 89 = .ok (.putfield 53, 3) := by decide +kernel
theorem d_H_init_92 : decode y_H_init.2.1 92 = .ok (.aload_n 0, 1) := by decide +kernel
theorem d_H_init_93 : decode y_H_init.2.1 93 = .ok (.new 57, 3) := by decide +kernel
theorem d_H_init_96 : decode y_H_init.2.1 96 = .ok (.dup, 1) := by decide +kernel
theorem d_H_init_97 : decode y_H_init.2.1 97 = .ok (.invokespecial 59, 3) := by decide +kernel
theorem d_H_init_100 : decode y_H_init.2.1 100 = .ok (.putfield 60, 3) := by decide +kernel
theorem d_H_init_103 : decode y_H_init.2.1 103 = .ok (.aload_n 0, 1) := by decide +kernel
theorem d_H_init_104 : decode y_H_init.2.1 104 = .ok (.new 64, 3) := by decide +kernel
theorem d_H_init_107 : decode y_H_init.2.1 107 = .ok (.dup, 1) := by decide +kernel
theorem d_H_init_108 : decode y_H_init.2.1 108 = .ok (.invokespecial 66, 3) := by decide +kernel
theorem d_H_init_111 : decode y_H_init.2.1 111 = .ok (.putfield 67, 3) := by decide +kernel
theorem d_H_init_114 : decode y_H_init.2.1 114 = .ok (.aload_n 0, 1) := by decide +kernel
theorem d_H_init_115 : decode y_H_init.2.1 115 = .ok (.new 71, 3) := by decide +kernel
theorem d_H_init_118 : decode y_H_init.2.1 118 = .ok (.dup, 1) := by decide +kernel
theorem d_H_init_119 : decode y_H_init.2.1 119 = .ok (.invokespecial 73, 3) := by decide +kernel
theorem d_H_init_122 : decode y_H_init.2.1 122 = .ok (.putfield 74, 3) := by decide +kernel
theorem d_H_init_125 : decode y_H_init.2.1 125 = .ok (.aload_n 0, 1) := by decide +kernel
theorem d_H_init_126 : decode y_H_init.2.1 126 = .ok (.new 78, 3) := by decide +kernel
theorem d_H_init_129 : decode y_H_init.2.1 129 = .ok (.dup, 1) := by decide +kernel
theorem d_H_init_130 : decode y_H_init.2.1 130 = .ok (.invokespecial 80, 3) := by decide +kernel
theorem d_H_init_133 : decode y_H_init.2.1 133 = .ok (.putfield 81, 3) := by decide +kernel
theorem d_H_init_136 : decode y_H_init.2.1 136 = .ok (.aload_n 0, 1) := by decide +kernel
theorem d_H_init_137 : decode y_H_init.2.1 137 = .ok (.bipush 25, 2) := by decide +kernel
theorem d_H_init_139 : decode y_H_init.2.1 139 = .ok (.newarray .int, 2) := by decide +kernel
theorem d_H_init_141 : decode y_H_init.2.1 141 = .ok (.putfield 85, 3) := by decide +kernel
theorem d_H_init_144 : decode y_H_init.2.1 144 = .ok (.aload_n 0, 1) := by decide +kernel
theorem d_H_init_145 : decode y_H_init.2.1 145 = .ok (.getfield 29, 3) := by decide +kernel
theorem d_H_init_148 : decode y_H_init.2.1 148 = .ok (.aload_n 0, 1) := by decide +kernel
theorem d_H_init_149 : decode y_H_init.2.1 149 = .ok (.getfield 19, 3) := by decide +kernel
theorem d_H_init_152 : decode y_H_init.2.1 152 = .ok (.invokevirtual 89, 3) := by decide +kernel
theorem d_H_init_155 : decode y_H_init.2.1 155 = .ok (.return_, 1) := by decide +kernel

abbrev y_M_init : MI := (⟨"CricketHayModel", "<init>", "()V"⟩, prog_14_method_1_code, 1, none)
theorem hy_M_init : y_M_init.1.cls ≠ "java/lang/invoke/MethodHandle" ∧ y_M_init.1.cls ≠ "java/lang/invoke/VarHandle" ∧ (parseMethodDescriptor y_M_init.1.desc).map (fun d => d.parameters.length) = some 0 := by decide +kernel
theorem d_M_init_0 : decode y_M_init.2.1 0 = .ok (.aload_n 0, 1) := by decide +kernel
theorem d_M_init_1 : decode y_M_init.2.1 1 = .ok (.invokespecial 1, 3) := by decide +kernel
theorem d_M_init_4 : decode y_M_init.2.1 4 = .ok (.aload_n 0, 1) := by decide +kernel
theorem d_M_init_5 : decode y_M_init.2.1 5 = .ok (.sipush 1600, 3) := by decide +kernel
theorem d_M_init_8 : decode y_M_init.2.1 8 = .ok (.newarray .int, 2) := by decide +kernel
theorem d_M_init_10 : decode y_M_init.2.1 10 = .ok (.putfield 7, 3) := by decide +kernel
theorem d_M_init_13 : decode y_M_init.2.1 13 = .ok (.aload_n 0, 1) := by decide +kernel
theorem d_M_init_14 : decode y_M_init.2.1 14 = .ok (.iconst (-1), 1) := by decide +kernel
theorem d_M_init_15 : decode y_M_init.2.1 15 = .ok (.putfield 13, 3) := by decide +kernel
theorem d_M_init_18 : decode y_M_init.2.1 18 = .ok (.aload_n 0, 1) := by decide +kernel
theorem d_M_init_19 : decode y_M_init.2.1 19 = .ok (.bipush 9, 2) := by decide +kernel
theorem d_M_init_21 : decode y_M_init.2.1 21 = .ok (.newarray .long, 2) := by decide +kernel
theorem d_M_init_23 : decode y_M_init.2.1 23 = .ok (.putfield 17, 3) := by decide +kernel
theorem d_M_init_26 : decode y_M_init.2.1 26 = .ok (.aload_n 0, 1) := by decide +kernel
theorem d_M_init_27 : decode y_M_init.2.1 27 = .ok (.sipush 640, 3) := by decide +kernel
theorem d_M_init_30 : decode y_M_init.2.1 30 = .ok (.newarray .int, 2) := by decide +kernel
theorem d_M_init_32 : decode y_M_init.2.1 32 = .ok (.putfield 21, 3) := by decide +kernel
theorem d_M_init_35 : decode y_M_init.2.1 35 = .ok (.aload_n 0, 1) := by decide +kernel
theorem d_M_init_36 : decode y_M_init.2.1 36 = .ok (.sipush 640, 3) := by decide +kernel
theorem d_M_init_39 : decode y_M_init.2.1 39 = .ok (.newarray .int, 2) := by decide +kernel
theorem d_M_init_41 : decode y_M_init.2.1 41 = .ok (.putfield 24, 3) := by decide +kernel
theorem d_M_init_44 : decode y_M_init.2.1 44 = .ok (.aload_n 0, 1) := by decide +kernel
theorem d_M_init_45 : decode y_M_init.2.1 45 = .ok (.iconst 2, 1) := by decide +kernel
theorem d_M_init_46 : decode y_M_init.2.1 46 = .ok (.newarray .int, 2) := by decide +kernel
theorem d_M_init_48 : decode y_M_init.2.1 48 = .ok (.putfield 27, 3) := by decide +kernel
theorem d_M_init_51 : decode y_M_init.2.1 51 = .ok (.aload_n 0, 1) := by decide +kernel
theorem d_M_init_52 : decode y_M_init.2.1 52 = .ok (.sipush 640, 3) := by decide +kernel
theorem d_M_init_55 : decode y_M_init.2.1 55 = .ok (.newarray .int, 2) := by decide +kernel
theorem d_M_init_57 : decode y_M_init.2.1 57 = .ok (.putfield 30, 3) := by decide +kernel
theorem d_M_init_60 : decode y_M_init.2.1 60 = .ok (.aload_n 0, 1) := by decide +kernel
theorem d_M_init_61 : decode y_M_init.2.1 61 = .ok (.sipush 640, 3) := by decide +kernel
theorem d_M_init_64 : decode y_M_init.2.1 64 = .ok (.newarray .int, 2) := by decide +kernel
theorem d_M_init_66 : decode y_M_init.2.1 66 = .ok (.putfield 33, 3) := by decide +kernel
theorem d_M_init_69 : decode y_M_init.2.1 69 = .ok (.aload_n 0, 1) := by decide +kernel
theorem d_M_init_70 : decode y_M_init.2.1 70 = .ok (.iconst 2, 1) := by decide +kernel
theorem d_M_init_71 : decode y_M_init.2.1 71 = .ok (.newarray .int, 2) := by decide +kernel
theorem d_M_init_73 : decode y_M_init.2.1 73 = .ok (.putfield 36, 3) := by decide +kernel
theorem d_M_init_76 : decode y_M_init.2.1 76 = .ok (.aload_n 0, 1) := by decide +kernel
theorem d_M_init_77 : decode y_M_init.2.1 77 = .ok (.sipush 160, 3) := by decide +kernel
theorem d_M_init_80 : decode y_M_init.2.1 80 = .ok (.newarray .int, 2) := by decide +kernel
theorem d_M_init_82 : decode y_M_init.2.1 82 = .ok (.putfield 39, 3) := by decide +kernel
theorem d_M_init_85 : decode y_M_init.2.1 85 = .ok (.aload_n 0, 1) := by decide +kernel
theorem d_M_init_86 : decode y_M_init.2.1 86 = .ok (.bipush 64, 2) := by decide +kernel
theorem d_M_init_88 : decode y_M_init.2.1 88 = .ok (.newarray .int, 2) := by decide +kernel
theorem d_M_init_90 : decode y_M_init.2.1 90 = .ok (.putfield 42, 3) := by decide +kernel
theorem d_M_init_93 : decode y_M_init.2.1 93 = .ok (.aload_n 0, 1) := by decide +kernel
theorem d_M_init_94 : decode y_M_init.2.1 94 = .ok (.iconst 2, 1) := by decide +kernel
theorem d_M_init_95 : decode y_M_init.2.1 95 = .ok (.newarray .boolean, 2) := by decide +kernel
theorem d_M_init_97 : decode y_M_init.2.1 97 = .ok (.putfield 45, 3) := by decide +kernel
theorem d_M_init_100 : decode y_M_init.2.1 100 = .ok (.aload_n 0, 1) := by decide +kernel
theorem d_M_init_101 : decode y_M_init.2.1 101 = .ok (.bipush 6, 2) := by decide +kernel
theorem d_M_init_103 : decode y_M_init.2.1 103 = .ok (.newarray .int, 2) := by decide +kernel
theorem d_M_init_105 : decode y_M_init.2.1 105 = .ok (.putfield 49, 3) := by decide +kernel
theorem d_M_init_108 : decode y_M_init.2.1 108 = .ok (.aload_n 0, 1) := by decide +kernel
theorem d_M_init_109 : decode y_M_init.2.1 109 = .ok (.bipush 6, 2) := by decide +kernel
theorem d_M_init_111 : decode y_M_init.2.1 111 = .ok (.newarray .int, 2) := by decide +kernel
theorem d_M_init_113 : decode y_M_init.2.1 113 = .ok (.putfield 52, 3) := by decide +kernel
theorem d_M_init_116 : decode y_M_init.2.1 116 = .ok (.aload_n 0, 1) := by decide +kernel
theorem d_M_init_117 : decode y_M_init.2.1 117 = .ok (.bipush 6, 2) := by decide +kernel
theorem d_M_init_119 : decode y_M_init.2.1 119 = .ok (.newarray .int, 2) := by decide +kernel
theorem d_M_init_121 : decode y_M_init.2.1 121 = .ok (.putfield 55, 3) := by decide +kernel
theorem d_M_init_124 : decode y_M_init.2.1 124 = .ok (.aload_n 0, 1) := by decide +kernel
theorem d_M_init_125 : decode y_M_init.2.1 125 = .ok (.bipush 6, 2) := by decide +kernel
theorem d_M_init_127 : decode y_M_init.2.1 127 = .ok (.newarray .int, 2) := by decide +kernel
theorem d_M_init_129 : decode y_M_init.2.1 129 = .ok (.putfield 58, 3) := by decide +kernel
theorem d_M_init_132 : decode y_M_init.2.1 132 = .ok (.aload_n 0, 1) := by decide +kernel
theorem d_M_init_133 : decode y_M_init.2.1 133 = .ok (.bipush 6, 2) := by decide +kernel
theorem d_M_init_135 : decode y_M_init.2.1 135 = .ok (.newarray .int, 2) := by decide +kernel
theorem d_M_init_137 : decode y_M_init.2.1 137 = .ok (.putfield 61, 3) := by decide +kernel
theorem d_M_init_140 : decode y_M_init.2.1 140 = .ok (.aload_n 0, 1) := by decide +kernel
theorem d_M_init_141 : decode y_M_init.2.1 141 = .ok (.bipush 6, 2) := by decide +kernel
theorem d_M_init_143 : decode y_M_init.2.1 143 = .ok (.newarray .int, 2) := by decide +kernel
theorem d_M_init_145 : decode y_M_init.2.1 145 = .ok (.putfield 64, 3) := by decide +kernel
theorem d_M_init_148 : decode y_M_init.2.1 148 = .ok (.aload_n 0, 1) := by decide +kernel
theorem d_M_init_149 : decode y_M_init.2.1 149 = .ok (.bipush 6, 2) := by decide +kernel
theorem d_M_init_151 : decode y_M_init.2.1 151 = .ok (.newarray .int, 2) := by decide +kernel
theorem d_M_init_153 : decode y_M_init.2.1 153 = .ok (.putfield 67, 3) := by decide +kernel
theorem d_M_init_156 : decode y_M_init.2.1 156 = .ok (.aload_n 0, 1) := by decide +kernel
theorem d_M_init_157 : decode y_M_init.2.1 157 = .ok (.bipush 6, 2) := by decide +kernel
theorem d_M_init_159 : decode y_M_init.2.1 159 = .ok (.newarray .int, 2) := by decide +kernel
theorem d_M_init_161 : decode y_M_init.2.1 161 = .ok (.putfield 70, 3) := by decide +kernel
theorem d_M_init_164 : decode y_M_init.2.1 164 = .ok (.aload_n 0, 1) := by decide +kernel
theorem d_M_init_165 : decode y_M_init.2.1 165 = .ok (.bipush 6, 2) := by decide +kernel
theorem d_M_init_167 : decode y_M_init.2.1 167 = .ok (.newarray .int, 2) := by decide +kernel
theorem d_M_init_169 : decode y_M_init.2.1 169 = .ok (.putfield 73, 3) := by decide +kernel
theorem d_M_init_172 : decode y_M_init.2.1 172 = .ok (.aload_n 0, 1) := by decide +kernel
theorem d_M_init_173 : decode y_M_init.2.1 173 = .ok (.bipush 6, 2) := by decide +kernel
theorem d_M_init_175 : decode y_M_init.2.1 175 = .ok (.newarray .int, 2) := by decide +kernel
theorem d_M_init_177 : decode y_M_init.2.1 177 = .ok (.putfield 76, 3) := by decide +kernel
theorem d_M_init_180 : decode y_M_init.2.1 180 = .ok (.aload_n 0, 1) := by decide +kernel
theorem d_M_init_181 : decode y_M_init.2.1 181 = .ok (.iconst 1, 1) := by decide +kernel
theorem d_M_init_182 : decode y_M_init.2.1 182 = .ok (.putfield 79, 3) := by decide +kernel
theorem d_M_init_185 : decode y_M_init.2.1 185 = .ok (.aload_n 0, 1) := by decide +kernel
theorem d_M_init_186 : decode y_M_init.2.1 186 = .ok (.iconst 3, 1) := by decide +kernel
theorem d_M_init_187 : decode y_M_init.2.1 187 = .ok (.putfield 82, 3) := by decide +kernel
theorem d_M_init_190 : decode y_M_init.2.1 190 = .ok (.aload_n 0, 1) := by decide +kernel
theorem d_M_init_191 : decode y_M_init.2.1 191 = .ok (.bipush 35, 2) := by decide +kernel
theorem d_M_init_193 : decode y_M_init.2.1 193 = .ok (.newarray .int, 2) := by decide +kernel
theorem d_M_init_195 : decode y_M_init.2.1 195 = .ok (.putfield 85, 3) := by decide +kernel
theorem d_M_init_198 : decode y_M_init.2.1 198 = .ok (.aload_n 0, 1) := by decide +kernel
theorem d_M_init_199 : decode y_M_init.2.1 199 = .ok (.bipush 35, 2) := by decide +kernel
theorem d_M_init_201 : decode y_M_init.2.1 201 = .ok (.newarray .int, 2) := by decide +kernel
theorem d_M_init_203 : decode y_M_init.2.1 203 = .ok (.putfield 88, 3) := by decide +kernel
theorem d_M_init_206 : decode y_M_init.2.1 206 = .ok (.aload_n 0, 1) := by decide +kernel
theorem d_M_init_207 : decode y_M_init.2.1 207 = .ok (.sipush 1400, 3) := by decide +kernel
theorem d_M_init_210 : decode y_M_init.2.1 210 = .ok (.newarray .int, 2) := by decide +kernel
theorem d_M_init_212 : decode y_M_init.2.1 212 = .ok (.putfield 91, 3) := by decide +kernel
theorem d_M_init_215 : decode y_M_init.2.1 215 = .ok (.aload_n 0, 1) := by decide +kernel
theorem d_M_init_216 : decode y_M_init.2.1 216 = .ok (.bipush 12, 2) := by decide +kernel
theorem d_M_init_218 : decode y_M_init.2.1 218 = .ok (.newarray .int, 2) := by decide +kernel
theorem d_M_init_220 : decode y_M_init.2.1 220 = .ok (.putfield 94, 3) := by decide +kernel
theorem d_M_init_223 : decode y_M_init.2.1 223 = .ok (.aload_n 0, 1) := by decide +kernel
theorem d_M_init_224 : decode y_M_init.2.1 224 = .ok (.bipush 12, 2) := by decide +kernel
theorem d_M_init_226 : decode y_M_init.2.1 226 = .ok (.newarray .int, 2) := by decide +kernel
theorem d_M_init_228 : decode y_M_init.2.1 228 = .ok (.putfield 97, 3) := by decide +kernel
theorem d_M_init_231 : decode y_M_init.2.1 231 = .ok (.aload_n 0, 1) := by decide +kernel
theorem d_M_init_232 : decode y_M_init.2.1 232 = .ok (.bipush 6, 2) := by decide +kernel
theorem d_M_init_234 : decode y_M_init.2.1 234 = .ok (.newarray .int, 2) := by decide +kernel
theorem d_M_init_236 : decode y_M_init.2.1 236 = .ok (.putfield 100, 3) := by decide +kernel
theorem d_M_init_239 : decode y_M_init.2.1 239 = .ok (.aload_n 0, 1) := by decide +kernel
theorem d_M_init_240 : decode y_M_init.2.1 240 = .ok (.bipush 6, 2) := by decide +kernel
theorem d_M_init_242 : decode y_M_init.2.1 242 = .ok (.newarray .int, 2) := by decide +kernel
theorem d_M_init_244 : decode y_M_init.2.1 244 = .ok (.putfield 103, 3) := by decide +kernel
theorem d_M_init_247 : decode y_M_init.2.1 247 = .ok (.aload_n 0, 1) := by decide +kernel
theorem d_M_init_248 : decode y_M_init.2.1 248 = .ok (.sipush 1024, 3) := by decide +kernel
theorem d_M_init_251 : decode y_M_init.2.1 251 = .ok (.newarray .int, 2) := by decide +kernel
theorem d_M_init_253 : decode y_M_init.2.1 253 = .ok (.putfield 106, 3) := by decide +kernel
theorem d_M_init_256 : decode y_M_init.2.1 256 = .ok (.aload_n 0, 1) := by decide +kernel
theorem d_M_init_257 : decode y_M_init.2.1 257 = .ok (.bipush 30, 2) := by decide +kernel
theorem d_M_init_259 : decode y_M_init.2.1 259 = .ok (.newarray .int, 2) := by decide +kernel
theorem d_M_init_261 : decode y_M_init.2.1 261 = .ok (.putfield 109, 3) := by decide +kernel
theorem d_M_init_264 : decode y_M_init.2.1 264 = .ok (.aload_n 0, 1) := by decide +kernel
theorem d_M_init_265 : decode y_M_init.2.1 265 = .ok (.bipush 30, 2) := by decide +kernel
theorem d_M_init_267 : decode y_M_init.2.1 267 = .ok (.newarray .int, 2) := by decide +kernel
theorem d_M_init_269 : decode y_M_init.2.1 269 = .ok (.putfield 112, 3) := by decide +kernel
theorem d_M_init_272 : decode y_M_init.2.1 272 = .ok (.aload_n 0, 1) := by decide +kernel
theorem d_M_init_273 : decode y_M_init.2.1 273 = .ok (.bipush 30, 2) := by decide +kernel
theorem d_M_init_275 : decode y_M_init.2.1 275 = .ok (.newarray .int, 2) := by decide +kernel
theorem d_M_init_277 : decode y_M_init.2.1 277 = .ok (.putfield 115, 3) := by decide +kernel
theorem d_M_init_280 : decode y_M_init.2.1 280 = .ok (.aload_n 0, 1) := by decide +kernel
theorem d_M_init_281 : decode y_M_init.2.1 281 = .ok (.bipush 30, 2) := by decide +kernel
theorem d_M_init_283 : decode y_M_init.2.1 283 = .ok (.newarray .int, 2) := by decide +kernel
theorem d_M_init_285 : decode y_M_init.2.1 285 = .ok (.putfield 118, 3) := by decide +kernel
theorem d_M_init_288 : decode y_M_init.2.1 288 = .ok (.aload_n 0, 1) := by decide +kernel
theorem d_M_init_289 : decode y_M_init.2.1 289 = .ok (.bipush 30, 2) := by decide +kernel
theorem d_M_init_291 : decode y_M_init.2.1 291 = .ok (.newarray .boolean, 2) := by decide +kernel
theorem d_M_init_293 : decode y_M_init.2.1 293 = .ok (.putfield 121, 3) := by decide +kernel
theorem d_M_init_296 : decode y_M_init.2.1 296 = .ok (.aload_n 0, 1) := by decide +kernel
theorem d_M_init_297 : decode y_M_init.2.1 297 = .ok (.bipush 100, 2) := by decide +kernel
theorem d_M_init_299 : decode y_M_init.2.1 299 = .ok (.newarray .boolean, 2) := by decide +kernel
theorem d_M_init_301 : decode y_M_init.2.1 301 = .ok (.putfield 124, 3) := by decide +kernel
theorem d_M_init_304 : decode y_M_init.2.1 304 = .ok (.aload_n 0, 1) := by decide +kernel
theorem d_M_init_305 : decode y_M_init.2.1 305 = .ok (.iconst 3, 1) := by decide +kernel
theorem d_M_init_306 : decode y_M_init.2.1 306 = .ok (.newarray .boolean, 2) := by decide +kernel
theorem d_M_init_308 : decode y_M_init.2.1 308 = .ok (.putfield 127, 3) := by decide +kernel
theorem d_M_init_311 : decode y_M_init.2.1 311 = .ok (.aload_n 0, 1) := by decide +kernel
theorem d_M_init_312 : decode y_M_init.2.1 312 = .ok (.bipush 105, 2) := by decide +kernel
theorem d_M_init_314 : decode y_M_init.2.1 314 = .ok (.newarray .int, 2) := by decide +kernel
theorem d_M_init_316 : decode y_M_init.2.1 316 = .ok (.putfield 130, 3) := by decide +kernel
theorem d_M_init_319 : decode y_M_init.2.1 319 = .ok (.return_, 1) := by decide +kernel
def f_Formula_wipe_c  (t : Nat) (h : AH) : Option AH :=
  gc h t (.inr 5) <|
  lt (sI h t 3 (0 : Int32)) fun hq2 =>
  gc hq2 t (.inr 5) <|
  lt (sI hq2 t 4 (0 : Int32)) fun hq4 =>
  some hq4
set_option maxHeartbeats 2000000 in
theorem ok_Formula_wipe_c {G : AE}  (t : Nat) (h : AH) : Ok G ST y_Formula_wipe (1) 0 0 φV [.ref t] h (f_Formula_wipe_c t h) := by
  refine ok_of (y := y_Formula_wipe) (lv0 := [some (.ref t)]) (by decide +kernel) (Nat.le_of_ble_eq_true rfl) ⟨rfl, trivial⟩ ?_
  rw [f_Formula_wipe_c]
  refine r_aload_n (pc := 0) (i := 0) d_Formula_wipe_0 rfl rfl ?_
  refine r_iconst (pc := 1) (v := 0) d_Formula_wipe_1 (by rfl) ?_
  refine r_gc (fun gq1 => ?_)
  refine r_putI (pc := 2) (ci := 5) (k := 3) (C := "CricketHay$Formula") (T := F_5) (N := 5) (fun _ => gq1) rfl (Nat.le_of_ble_eq_true rfl) rfl rfl w_92 (fun _ _ => rfl) (fun _ => rfl) (fun _ => rfl) (fun _ => trivial) d_Formula_wipe_2 ?_
  refine r_ltH (fun hq2 => ?_)
  refine r_aload_n (pc := 5) (i := 0) d_Formula_wipe_5 rfl rfl ?_
  refine r_iconst (pc := 6) (v := 0) d_Formula_wipe_6 (by rfl) ?_
  refine r_gc (fun gq3 => ?_)
  refine r_putI (pc := 7) (ci := 5) (k := 4) (C := "CricketHay$Formula") (T := F_5) (N := 5) (fun _ => gq3) rfl (Nat.le_of_ble_eq_true rfl) rfl rfl w_93 (fun _ _ => rfl) (fun _ => rfl) (fun _ => rfl) (fun _ => trivial) d_Formula_wipe_7 ?_
  refine r_ltH (fun hq4 => ?_)
  exact r_vret (pc := 10) rfl d_Formula_wipe_10

def f_Market_reset_c  (t : Nat) (h : AH) : Option AH :=
  gc h t (.inr 7) <|
  lt (sI h t 10 (0 : Int32)) fun hq2 =>
  gc hq2 t (.inr 7) <|
  lt (sI hq2 t 11 (0 : Int32)) fun hq4 =>
  gc hq4 t (.inr 7) <|
  gq hq4 t 8 fun cq6 =>
  gc hq4 cq6 (.inr 5) <|
  bV (f_Formula_wipe_c cq6 hq4) fun hq7 =>
  gc hq7 t (.inr 7) <|
  gq hq7 t 9 fun cq10 =>
  gc hq7 cq10 (.inr 5) <|
  bV (f_Formula_wipe_c cq10 hq7) fun hq11 =>
  gc hq11 t (.inr 7) <|
  lt (sI hq11 t 12 (0 : Int32)) fun hq14 =>
  gc hq14 t (.inr 7) <|
  lt (sI hq14 t 13 (1 : Int32)) fun hq16 =>
  gc hq16 t (.inr 7) <|
  lt (sI hq16 t 14 (3 : Int32)) fun hq18 =>
  gc hq18 t (.inr 7) <|
  lt (sI hq18 t 15 (0 : Int32)) fun hq20 =>
  some hq20
set_option maxHeartbeats 2000000 in
theorem ok_Market_reset_c {G : AE}  (t : Nat) (h : AH) : Ok G ST y_Market_reset (2) 0 0 φV [.ref t] h (f_Market_reset_c t h) := by
  refine ok_of (y := y_Market_reset) (lv0 := [some (.ref t)]) (by decide +kernel) (Nat.le_of_ble_eq_true rfl) ⟨rfl, trivial⟩ ?_
  rw [f_Market_reset_c]
  refine r_aload_n (pc := 0) (i := 0) d_Market_reset_0 rfl rfl ?_
  refine r_iconst (pc := 1) (v := 0) d_Market_reset_1 (by rfl) ?_
  refine r_gc (fun gq1 => ?_)
  refine r_putI (pc := 2) (ci := 7) (k := 10) (C := "CricketHay$Market") (T := F_7) (N := 16) (fun _ => gq1) rfl (Nat.le_of_ble_eq_true rfl) rfl rfl w_149 (fun _ _ => rfl) (fun _ => rfl) (fun _ => rfl) (fun _ => trivial) d_Market_reset_2 ?_
  refine r_ltH (fun hq2 => ?_)
  refine r_aload_n (pc := 5) (i := 0) d_Market_reset_5 rfl rfl ?_
  refine r_iconst (pc := 6) (v := 0) d_Market_reset_6 (by rfl) ?_
  refine r_gc (fun gq3 => ?_)
  refine r_putI (pc := 7) (ci := 7) (k := 11) (C := "CricketHay$Market") (T := F_7) (N := 16) (fun _ => gq3) rfl (Nat.le_of_ble_eq_true rfl) rfl rfl w_153 (fun _ _ => rfl) (fun _ => rfl) (fun _ => rfl) (fun _ => trivial) d_Market_reset_7 ?_
  refine r_ltH (fun hq4 => ?_)
  refine r_aload_n (pc := 10) (i := 0) d_Market_reset_10 rfl rfl ?_
  refine r_gc (fun gq5 => ?_)
  refine r_gq (fun cq6 rcq6 => ?_)
  refine r_getf (pc := 11) (ci := 7) (k := 8) (C := "CricketHay$Market") (T := F_7) (N := 16) (v := .ref cq6) (fun _ => gq5) rfl (Nat.le_of_ble_eq_true rfl) rfl w_143 (fun _ => vr rfl rcq6) d_Market_reset_11 ?_
  refine r_gc (fun gq8 => ?_)
  refine r_cVv (pc := 14) (T := F_5) (N := 5) (st := []) (ok_Formula_wipe_c cq6 hq4) (fun _ => gq8) rfl w_115 w_4 w_112 w_113 w_114 hy_Formula_wipe ⟨Nat.le_of_ble_eq_true rfl, Nat.le_of_ble_eq_true rfl⟩ ⟨Nat.le_of_ble_eq_true rfl, Nat.le_of_ble_eq_true rfl⟩ rfl (Nat.le_of_ble_eq_true rfl) d_Market_reset_14 (fun hq7 => ?_)
  refine r_aload_n (pc := 17) (i := 0) d_Market_reset_17 rfl rfl ?_
  refine r_gc (fun gq9 => ?_)
  refine r_gq (fun cq10 rcq10 => ?_)
  refine r_getf (pc := 18) (ci := 7) (k := 9) (C := "CricketHay$Market") (T := F_7) (N := 16) (v := .ref cq10) (fun _ => gq9) rfl (Nat.le_of_ble_eq_true rfl) rfl w_146 (fun _ => vr rfl rcq10) d_Market_reset_18 ?_
  refine r_gc (fun gq12 => ?_)
  refine r_cVv (pc := 21) (T := F_5) (N := 5) (st := []) (ok_Formula_wipe_c cq10 hq7) (fun _ => gq12) rfl w_115 w_4 w_112 w_113 w_114 hy_Formula_wipe ⟨Nat.le_of_ble_eq_true rfl, Nat.le_of_ble_eq_true rfl⟩ ⟨Nat.le_of_ble_eq_true rfl, Nat.le_of_ble_eq_true rfl⟩ rfl (Nat.le_of_ble_eq_true rfl) d_Market_reset_21 (fun hq11 => ?_)
  refine r_aload_n (pc := 24) (i := 0) d_Market_reset_24 rfl rfl ?_
  refine r_iconst (pc := 25) (v := 0) d_Market_reset_25 (by rfl) ?_
  refine r_gc (fun gq13 => ?_)
  refine r_putI (pc := 26) (ci := 7) (k := 12) (C := "CricketHay$Market") (T := F_7) (N := 16) (fun _ => gq13) rfl (Nat.le_of_ble_eq_true rfl) rfl rfl w_158 (fun _ _ => rfl) (fun _ => rfl) (fun _ => rfl) (fun _ => trivial) d_Market_reset_26 ?_
  refine r_ltH (fun hq14 => ?_)
  refine r_aload_n (pc := 29) (i := 0) d_Market_reset_29 rfl rfl ?_
  refine r_iconst (pc := 30) (v := 1) d_Market_reset_30 (by rfl) ?_
  refine r_gc (fun gq15 => ?_)
  refine r_putI (pc := 31) (ci := 7) (k := 13) (C := "CricketHay$Market") (T := F_7) (N := 16) (fun _ => gq15) rfl (Nat.le_of_ble_eq_true rfl) rfl rfl w_162 (fun _ _ => rfl) (fun _ => rfl) (fun _ => rfl) (fun _ => trivial) d_Market_reset_31 ?_
  refine r_ltH (fun hq16 => ?_)
  refine r_aload_n (pc := 34) (i := 0) d_Market_reset_34 rfl rfl ?_
  refine r_iconst (pc := 35) (v := 3) d_Market_reset_35 (by rfl) ?_
  refine r_gc (fun gq17 => ?_)
  refine r_putI (pc := 36) (ci := 7) (k := 14) (C := "CricketHay$Market") (T := F_7) (N := 16) (fun _ => gq17) rfl (Nat.le_of_ble_eq_true rfl) rfl rfl w_165 (fun _ _ => rfl) (fun _ => rfl) (fun _ => rfl) (fun _ => trivial) d_Market_reset_36 ?_
  refine r_ltH (fun hq18 => ?_)
  refine r_aload_n (pc := 39) (i := 0) d_Market_reset_39 rfl rfl ?_
  refine r_iconst (pc := 40) (v := 0) d_Market_reset_40 (by rfl) ?_
  refine r_gc (fun gq19 => ?_)
  refine r_putI (pc := 41) (ci := 7) (k := 15) (C := "CricketHay$Market") (T := F_7) (N := 16) (fun _ => gq19) rfl (Nat.le_of_ble_eq_true rfl) rfl rfl w_168 (fun _ _ => rfl) (fun _ => rfl) (fun _ => rfl) (fun _ => trivial) d_Market_reset_41 ?_
  refine r_ltH (fun hq20 => ?_)
  exact r_vret (pc := 44) rfl d_Market_reset_44

def f_Yard_init  (t : Nat) (h : AH) : Option AH :=
  lt (hN h) fun cq1 =>
  lt (nC h (.inl (0, 6))) fun hq2 =>
  gc hq2 t (.inr 10) <|
  lt (sR hq2 t 0 (some cq1)) fun hq4 =>
  lt (hN hq4) fun cq5 =>
  lt (nC hq4 (.inl (0, 6))) fun hq6 =>
  gc hq6 t (.inr 10) <|
  lt (sR hq6 t 1 (some cq5)) fun hq8 =>
  lt (hN hq8) fun cq9 =>
  lt (nC hq8 (.inl (0, 6))) fun hq10 =>
  gc hq10 t (.inr 10) <|
  lt (sR hq10 t 2 (some cq9)) fun hq12 =>
  lt (hN hq12) fun cq13 =>
  lt (nC hq12 (.inl (0, 6))) fun hq14 =>
  gc hq14 t (.inr 10) <|
  lt (sR hq14 t 3 (some cq13)) fun hq16 =>
  lt (hN hq16) fun cq17 =>
  lt (nC hq16 (.inl (0, 6))) fun hq18 =>
  gc hq18 t (.inr 10) <|
  lt (sR hq18 t 4 (some cq17)) fun hq20 =>
  lt (hN hq20) fun cq21 =>
  lt (nC hq20 (.inl (0, 6))) fun hq22 =>
  gc hq22 t (.inr 10) <|
  lt (sR hq22 t 5 (some cq21)) fun hq24 =>
  gc hq24 t (.inr 10) <|
  lt (sI hq24 t 6 (0 : Int32)) fun hq26 =>
  gc hq26 t (.inr 10) <|
  lt (sI hq26 t 7 (0 : Int32)) fun hq28 =>
  gc hq28 t (.inr 10) <|
  lt (sI hq28 t 8 (0 : Int32)) fun hq30 =>
  gc hq30 t (.inr 10) <|
  lt (sI hq30 t 9 (0 : Int32)) fun hq32 =>
  some hq32
set_option maxHeartbeats 2000000 in
theorem ok_Yard_init {G : AE}  (t : Nat) (h : AH) : Ok G ST y_Yard_init (2) 6 36 φV [.ref t] h (f_Yard_init t h) := by
  refine ok_of (y := y_Yard_init) (lv0 := [some (.ref t)]) (by decide +kernel) (Nat.le_of_ble_eq_true rfl) ⟨rfl, trivial⟩ ?_
  rw [f_Yard_init]
  refine r_aload_n (pc := 0) (i := 0) d_Yard_init_0 rfl rfl ?_
  refine r_objInit (pc := 1) w_209 w_28 wo_code (Nat.le_of_ble_eq_true rfl) (Nat.le_of_ble_eq_true rfl) d_Yard_init_1 ?_
  refine r_aload_n (pc := 4) (i := 0) d_Yard_init_4 rfl rfl ?_
  refine r_bipush (pc := 5) (v := 6) d_Yard_init_5 (by rfl) ?_
  refine r_newa (pc := 7) (t := 0) (N := 6) (kn1 := (1, 6)) (by decide) rfl wa_0 rfl (Nat.le_of_ble_eq_true rfl) rfl ⟨Nat.le_of_ble_eq_true rfl, Nat.le_of_ble_eq_true rfl⟩ (fun _ => trivial) d_Yard_init_7 ?_
  refine r_ltR (fun cq1 => ?_)
  refine r_ltH (fun hq2 => ?_)
  refine r_gc (fun gq3 => ?_)
  refine r_putRF (pc := 9) (ci := 10) (k := 0) (C := "CricketHay$Yard") (T := F_10) (N := 10) (fun _ => gq3) rfl (Nat.le_of_ble_eq_true rfl) rfl rfl rfl rfl w_210 (fun _ _ => rfl) (fun _ => rfl) (fun _ => rfl) (fun _ => trivial) d_Yard_init_9 ?_
  refine r_ltH (fun hq4 => ?_)
  refine r_aload_n (pc := 12) (i := 0) d_Yard_init_12 rfl rfl ?_
  refine r_bipush (pc := 13) (v := 6) d_Yard_init_13 (by rfl) ?_
  refine r_newa (pc := 15) (t := 0) (N := 6) (kn1 := (2, 12)) (by decide) rfl wa_0 rfl (Nat.le_of_ble_eq_true rfl) rfl ⟨Nat.le_of_ble_eq_true rfl, Nat.le_of_ble_eq_true rfl⟩ (fun _ => trivial) d_Yard_init_15 ?_
  refine r_ltR (fun cq5 => ?_)
  refine r_ltH (fun hq6 => ?_)
  refine r_gc (fun gq7 => ?_)
  refine r_putRF (pc := 17) (ci := 10) (k := 1) (C := "CricketHay$Yard") (T := F_10) (N := 10) (fun _ => gq7) rfl (Nat.le_of_ble_eq_true rfl) rfl rfl rfl rfl w_213 (fun _ _ => rfl) (fun _ => rfl) (fun _ => rfl) (fun _ => trivial) d_Yard_init_17 ?_
  refine r_ltH (fun hq8 => ?_)
  refine r_aload_n (pc := 20) (i := 0) d_Yard_init_20 rfl rfl ?_
  refine r_bipush (pc := 21) (v := 6) d_Yard_init_21 (by rfl) ?_
  refine r_newa (pc := 23) (t := 0) (N := 6) (kn1 := (3, 18)) (by decide) rfl wa_0 rfl (Nat.le_of_ble_eq_true rfl) rfl ⟨Nat.le_of_ble_eq_true rfl, Nat.le_of_ble_eq_true rfl⟩ (fun _ => trivial) d_Yard_init_23 ?_
  refine r_ltR (fun cq9 => ?_)
  refine r_ltH (fun hq10 => ?_)
  refine r_gc (fun gq11 => ?_)
  refine r_putRF (pc := 25) (ci := 10) (k := 2) (C := "CricketHay$Yard") (T := F_10) (N := 10) (fun _ => gq11) rfl (Nat.le_of_ble_eq_true rfl) rfl rfl rfl rfl w_216 (fun _ _ => rfl) (fun _ => rfl) (fun _ => rfl) (fun _ => trivial) d_Yard_init_25 ?_
  refine r_ltH (fun hq12 => ?_)
  refine r_aload_n (pc := 28) (i := 0) d_Yard_init_28 rfl rfl ?_
  refine r_bipush (pc := 29) (v := 6) d_Yard_init_29 (by rfl) ?_
  refine r_newa (pc := 31) (t := 0) (N := 6) (kn1 := (4, 24)) (by decide) rfl wa_0 rfl (Nat.le_of_ble_eq_true rfl) rfl ⟨Nat.le_of_ble_eq_true rfl, Nat.le_of_ble_eq_true rfl⟩ (fun _ => trivial) d_Yard_init_31 ?_
  refine r_ltR (fun cq13 => ?_)
  refine r_ltH (fun hq14 => ?_)
  refine r_gc (fun gq15 => ?_)
  refine r_putRF (pc := 33) (ci := 10) (k := 3) (C := "CricketHay$Yard") (T := F_10) (N := 10) (fun _ => gq15) rfl (Nat.le_of_ble_eq_true rfl) rfl rfl rfl rfl w_218 (fun _ _ => rfl) (fun _ => rfl) (fun _ => rfl) (fun _ => trivial) d_Yard_init_33 ?_
  refine r_ltH (fun hq16 => ?_)
  refine r_aload_n (pc := 36) (i := 0) d_Yard_init_36 rfl rfl ?_
  refine r_bipush (pc := 37) (v := 6) d_Yard_init_37 (by rfl) ?_
  refine r_newa (pc := 39) (t := 0) (N := 6) (kn1 := (5, 30)) (by decide) rfl wa_0 rfl (Nat.le_of_ble_eq_true rfl) rfl ⟨Nat.le_of_ble_eq_true rfl, Nat.le_of_ble_eq_true rfl⟩ (fun _ => trivial) d_Yard_init_39 ?_
  refine r_ltR (fun cq17 => ?_)
  refine r_ltH (fun hq18 => ?_)
  refine r_gc (fun gq19 => ?_)
  refine r_putRF (pc := 41) (ci := 10) (k := 4) (C := "CricketHay$Yard") (T := F_10) (N := 10) (fun _ => gq19) rfl (Nat.le_of_ble_eq_true rfl) rfl rfl rfl rfl w_221 (fun _ _ => rfl) (fun _ => rfl) (fun _ => rfl) (fun _ => trivial) d_Yard_init_41 ?_
  refine r_ltH (fun hq20 => ?_)
  refine r_aload_n (pc := 44) (i := 0) d_Yard_init_44 rfl rfl ?_
  refine r_bipush (pc := 45) (v := 6) d_Yard_init_45 (by rfl) ?_
  refine r_newa (pc := 47) (t := 0) (N := 6) (kn1 := (6, 36)) (by decide) rfl wa_0 rfl (Nat.le_of_ble_eq_true rfl) rfl ⟨Nat.le_of_ble_eq_true rfl, Nat.le_of_ble_eq_true rfl⟩ (fun _ => trivial) d_Yard_init_47 ?_
  refine r_ltR (fun cq21 => ?_)
  refine r_ltH (fun hq22 => ?_)
  refine r_gc (fun gq23 => ?_)
  refine r_putRF (pc := 49) (ci := 10) (k := 5) (C := "CricketHay$Yard") (T := F_10) (N := 10) (fun _ => gq23) rfl (Nat.le_of_ble_eq_true rfl) rfl rfl rfl rfl w_224 (fun _ _ => rfl) (fun _ => rfl) (fun _ => rfl) (fun _ => trivial) d_Yard_init_49 ?_
  refine r_ltH (fun hq24 => ?_)
  refine r_aload_n (pc := 52) (i := 0) d_Yard_init_52 rfl rfl ?_
  refine r_iconst (pc := 53) (v := 0) d_Yard_init_53 (by rfl) ?_
  refine r_gc (fun gq25 => ?_)
  refine r_putI (pc := 54) (ci := 10) (k := 6) (C := "CricketHay$Yard") (T := F_10) (N := 10) (fun _ => gq25) rfl (Nat.le_of_ble_eq_true rfl) rfl rfl w_227 (fun _ _ => rfl) (fun _ => rfl) (fun _ => rfl) (fun _ => trivial) d_Yard_init_54 ?_
  refine r_ltH (fun hq26 => ?_)
  refine r_aload_n (pc := 57) (i := 0) d_Yard_init_57 rfl rfl ?_
  refine r_iconst (pc := 58) (v := 0) d_Yard_init_58 (by rfl) ?_
  refine r_gc (fun gq27 => ?_)
  refine r_putI (pc := 59) (ci := 10) (k := 7) (C := "CricketHay$Yard") (T := F_10) (N := 10) (fun _ => gq27) rfl (Nat.le_of_ble_eq_true rfl) rfl rfl w_229 (fun _ _ => rfl) (fun _ => rfl) (fun _ => rfl) (fun _ => trivial) d_Yard_init_59 ?_
  refine r_ltH (fun hq28 => ?_)
  refine r_aload_n (pc := 62) (i := 0) d_Yard_init_62 rfl rfl ?_
  refine r_iconst (pc := 63) (v := 0) d_Yard_init_63 (by rfl) ?_
  refine r_gc (fun gq29 => ?_)
  refine r_putI (pc := 64) (ci := 10) (k := 8) (C := "CricketHay$Yard") (T := F_10) (N := 10) (fun _ => gq29) rfl (Nat.le_of_ble_eq_true rfl) rfl rfl w_233 (fun _ _ => rfl) (fun _ => rfl) (fun _ => rfl) (fun _ => trivial) d_Yard_init_64 ?_
  refine r_ltH (fun hq30 => ?_)
  refine r_aload_n (pc := 67) (i := 0) d_Yard_init_67 rfl rfl ?_
  refine r_iconst (pc := 68) (v := 0) d_Yard_init_68 (by rfl) ?_
  refine r_gc (fun gq31 => ?_)
  refine r_putI (pc := 69) (ci := 10) (k := 9) (C := "CricketHay$Yard") (T := F_10) (N := 10) (fun _ => gq31) rfl (Nat.le_of_ble_eq_true rfl) rfl rfl w_237 (fun _ _ => rfl) (fun _ => rfl) (fun _ => rfl) (fun _ => trivial) d_Yard_init_69 ?_
  refine r_ltH (fun hq32 => ?_)
  exact r_vret (pc := 72) rfl d_Yard_init_72

def f_Formula_init  (t : Nat) (h : AH) : Option AH :=
  lt (hN h) fun cq1 =>
  lt (nC h (.inl (0, 270))) fun hq2 =>
  gc hq2 t (.inr 5) <|
  lt (sR hq2 t 0 (some cq1)) fun hq4 =>
  lt (hN hq4) fun cq5 =>
  lt (nC hq4 (.inl (0, 270))) fun hq6 =>
  gc hq6 t (.inr 5) <|
  lt (sR hq6 t 1 (some cq5)) fun hq8 =>
  lt (hN hq8) fun cq9 =>
  lt (nC hq8 (.inl (0, 30))) fun hq10 =>
  gc hq10 t (.inr 5) <|
  lt (sR hq10 t 2 (some cq9)) fun hq12 =>
  gc hq12 t (.inr 5) <|
  lt (sI hq12 t 3 (0 : Int32)) fun hq14 =>
  gc hq14 t (.inr 5) <|
  lt (sI hq14 t 4 (0 : Int32)) fun hq16 =>
  some hq16
set_option maxHeartbeats 2000000 in
theorem ok_Formula_init {G : AE}  (t : Nat) (h : AH) : Ok G ST y_Formula_init (2) 3 570 φV [.ref t] h (f_Formula_init t h) := by
  refine ok_of (y := y_Formula_init) (lv0 := [some (.ref t)]) (by decide +kernel) (Nat.le_of_ble_eq_true rfl) ⟨rfl, trivial⟩ ?_
  rw [f_Formula_init]
  refine r_aload_n (pc := 0) (i := 0) d_Formula_init_0 rfl rfl ?_
  refine r_objInit (pc := 1) w_88 w_28 wo_code (Nat.le_of_ble_eq_true rfl) (Nat.le_of_ble_eq_true rfl) d_Formula_init_1 ?_
  refine r_aload_n (pc := 4) (i := 0) d_Formula_init_4 rfl rfl ?_
  refine r_sipush (pc := 5) (v := 270) d_Formula_init_5 (by rfl) ?_
  refine r_newa (pc := 8) (t := 0) (N := 270) (kn1 := (1, 270)) (by decide) rfl wa_0 rfl (Nat.le_of_ble_eq_true rfl) rfl ⟨Nat.le_of_ble_eq_true rfl, Nat.le_of_ble_eq_true rfl⟩ (fun _ => trivial) d_Formula_init_8 ?_
  refine r_ltR (fun cq1 => ?_)
  refine r_ltH (fun hq2 => ?_)
  refine r_gc (fun gq3 => ?_)
  refine r_putRF (pc := 10) (ci := 5) (k := 0) (C := "CricketHay$Formula") (T := F_5) (N := 5) (fun _ => gq3) rfl (Nat.le_of_ble_eq_true rfl) rfl rfl rfl rfl w_89 (fun _ _ => rfl) (fun _ => rfl) (fun _ => rfl) (fun _ => trivial) d_Formula_init_10 ?_
  refine r_ltH (fun hq4 => ?_)
  refine r_aload_n (pc := 13) (i := 0) d_Formula_init_13 rfl rfl ?_
  refine r_sipush (pc := 14) (v := 270) d_Formula_init_14 (by rfl) ?_
  refine r_newa (pc := 17) (t := 0) (N := 270) (kn1 := (2, 540)) (by decide) rfl wa_0 rfl (Nat.le_of_ble_eq_true rfl) rfl ⟨Nat.le_of_ble_eq_true rfl, Nat.le_of_ble_eq_true rfl⟩ (fun _ => trivial) d_Formula_init_17 ?_
  refine r_ltR (fun cq5 => ?_)
  refine r_ltH (fun hq6 => ?_)
  refine r_gc (fun gq7 => ?_)
  refine r_putRF (pc := 19) (ci := 5) (k := 1) (C := "CricketHay$Formula") (T := F_5) (N := 5) (fun _ => gq7) rfl (Nat.le_of_ble_eq_true rfl) rfl rfl rfl rfl w_90 (fun _ _ => rfl) (fun _ => rfl) (fun _ => rfl) (fun _ => trivial) d_Formula_init_19 ?_
  refine r_ltH (fun hq8 => ?_)
  refine r_aload_n (pc := 22) (i := 0) d_Formula_init_22 rfl rfl ?_
  refine r_bipush (pc := 23) (v := 30) d_Formula_init_23 (by rfl) ?_
  refine r_newa (pc := 25) (t := 0) (N := 30) (kn1 := (3, 570)) (by decide) rfl wa_0 rfl (Nat.le_of_ble_eq_true rfl) rfl ⟨Nat.le_of_ble_eq_true rfl, Nat.le_of_ble_eq_true rfl⟩ (fun _ => trivial) d_Formula_init_25 ?_
  refine r_ltR (fun cq9 => ?_)
  refine r_ltH (fun hq10 => ?_)
  refine r_gc (fun gq11 => ?_)
  refine r_putRF (pc := 27) (ci := 5) (k := 2) (C := "CricketHay$Formula") (T := F_5) (N := 5) (fun _ => gq11) rfl (Nat.le_of_ble_eq_true rfl) rfl rfl rfl rfl w_91 (fun _ _ => rfl) (fun _ => rfl) (fun _ => rfl) (fun _ => trivial) d_Formula_init_27 ?_
  refine r_ltH (fun hq12 => ?_)
  refine r_aload_n (pc := 30) (i := 0) d_Formula_init_30 rfl rfl ?_
  refine r_iconst (pc := 31) (v := 0) d_Formula_init_31 (by rfl) ?_
  refine r_gc (fun gq13 => ?_)
  refine r_putI (pc := 32) (ci := 5) (k := 3) (C := "CricketHay$Formula") (T := F_5) (N := 5) (fun _ => gq13) rfl (Nat.le_of_ble_eq_true rfl) rfl rfl w_92 (fun _ _ => rfl) (fun _ => rfl) (fun _ => rfl) (fun _ => trivial) d_Formula_init_32 ?_
  refine r_ltH (fun hq14 => ?_)
  refine r_aload_n (pc := 35) (i := 0) d_Formula_init_35 rfl rfl ?_
  refine r_iconst (pc := 36) (v := 0) d_Formula_init_36 (by rfl) ?_
  refine r_gc (fun gq15 => ?_)
  refine r_putI (pc := 37) (ci := 5) (k := 4) (C := "CricketHay$Formula") (T := F_5) (N := 5) (fun _ => gq15) rfl (Nat.le_of_ble_eq_true rfl) rfl rfl w_93 (fun _ _ => rfl) (fun _ => rfl) (fun _ => rfl) (fun _ => trivial) d_Formula_init_37 ?_
  refine r_ltH (fun hq16 => ?_)
  exact r_vret (pc := 40) rfl d_Formula_init_40

def f_Market_init  (t : Nat) (h : AH) : Option AH :=
  lt (hN h) fun cq1 =>
  lt (nC h (.inl (2, 3))) fun hq2 =>
  gc hq2 t (.inr 7) <|
  lt (sR hq2 t 0 (some cq1)) fun hq4 =>
  lt (hN hq4) fun cq5 =>
  lt (nC hq4 (.inl (2, 6))) fun hq6 =>
  gc hq6 t (.inr 7) <|
  lt (sR hq6 t 1 (some cq5)) fun hq8 =>
  lt (hN hq8) fun cq9 =>
  lt (nC hq8 (.inl (0, 6))) fun hq10 =>
  gc hq10 t (.inr 7) <|
  lt (sR hq10 t 2 (some cq9)) fun hq12 =>
  lt (hN hq12) fun cq13 =>
  lt (nC hq12 (.inl (0, 6))) fun hq14 =>
  gc hq14 t (.inr 7) <|
  lt (sR hq14 t 3 (some cq13)) fun hq16 =>
  lt (hN hq16) fun cq17 =>
  lt (nC hq16 (.inl (0, 6))) fun hq18 =>
  gc hq18 t (.inr 7) <|
  lt (sR hq18 t 4 (some cq17)) fun hq20 =>
  lt (hN hq20) fun cq21 =>
  lt (nC hq20 (.inl (0, 6))) fun hq22 =>
  gc hq22 t (.inr 7) <|
  lt (sR hq22 t 5 (some cq21)) fun hq24 =>
  lt (hN hq24) fun cq25 =>
  lt (nC hq24 (.inl (0, 6))) fun hq26 =>
  gc hq26 t (.inr 7) <|
  lt (sR hq26 t 6 (some cq25)) fun hq28 =>
  lt (hN hq28) fun cq29 =>
  lt (nC hq28 (.inl (0, 6))) fun hq30 =>
  gc hq30 t (.inr 7) <|
  lt (sR hq30 t 7 (some cq29)) fun hq32 =>
  lt (hN hq32) fun cq33 =>
  lt (nC hq32 (.inr 5)) fun hq34 =>
  bV (f_Formula_init cq33 hq34) fun hq35 =>
  gc hq35 t (.inr 7) <|
  lt (sR hq35 t 8 (some cq33)) fun hq37 =>
  lt (hN hq37) fun cq38 =>
  lt (nC hq37 (.inr 5)) fun hq39 =>
  bV (f_Formula_init cq38 hq39) fun hq40 =>
  gc hq40 t (.inr 7) <|
  lt (sR hq40 t 9 (some cq38)) fun hq42 =>
  gc hq42 t (.inr 7) <|
  bV (f_Market_reset_c t hq42) fun hq43 =>
  some hq43
set_option maxHeartbeats 2000000 in
theorem ok_Market_init {G : AE}  (t : Nat) (h : AH) : Ok G ST y_Market_init (3) 16 1195 φV [.ref t] h (f_Market_init t h) := by
  refine ok_of (y := y_Market_init) (lv0 := [some (.ref t)]) (by decide +kernel) (Nat.le_of_ble_eq_true rfl) ⟨rfl, trivial⟩ ?_
  rw [f_Market_init]
  refine r_aload_n (pc := 0) (i := 0) d_Market_init_0 rfl rfl ?_
  refine r_objInit (pc := 1) w_82 w_28 wo_code (Nat.le_of_ble_eq_true rfl) (Nat.le_of_ble_eq_true rfl) d_Market_init_1 ?_
  refine r_aload_n (pc := 4) (i := 0) d_Market_init_4 rfl rfl ?_
  refine r_iconst (pc := 5) (v := 3) d_Market_init_5 (by rfl) ?_
  refine r_newa (pc := 6) (t := 2) (N := 3) (kn1 := (1, 3)) (by decide) rfl wa_2 rfl (Nat.le_of_ble_eq_true rfl) rfl ⟨Nat.le_of_ble_eq_true rfl, Nat.le_of_ble_eq_true rfl⟩ (fun _ => trivial) d_Market_init_6 ?_
  refine r_ltR (fun cq1 => ?_)
  refine r_ltH (fun hq2 => ?_)
  refine r_gc (fun gq3 => ?_)
  refine r_putRF (pc := 8) (ci := 7) (k := 0) (C := "CricketHay$Market") (T := F_7) (N := 16) (fun _ => gq3) rfl (Nat.le_of_ble_eq_true rfl) rfl rfl rfl rfl w_116 (fun _ _ => rfl) (fun _ => rfl) (fun _ => rfl) (fun _ => trivial) d_Market_init_8 ?_
  refine r_ltH (fun hq4 => ?_)
  refine r_aload_n (pc := 11) (i := 0) d_Market_init_11 rfl rfl ?_
  refine r_bipush (pc := 12) (v := 6) d_Market_init_12 (by rfl) ?_
  refine r_newa (pc := 14) (t := 2) (N := 6) (kn1 := (2, 9)) (by decide) rfl wa_2 rfl (Nat.le_of_ble_eq_true rfl) rfl ⟨Nat.le_of_ble_eq_true rfl, Nat.le_of_ble_eq_true rfl⟩ (fun _ => trivial) d_Market_init_14 ?_
  refine r_ltR (fun cq5 => ?_)
  refine r_ltH (fun hq6 => ?_)
  refine r_gc (fun gq7 => ?_)
  refine r_putRF (pc := 16) (ci := 7) (k := 1) (C := "CricketHay$Market") (T := F_7) (N := 16) (fun _ => gq7) rfl (Nat.le_of_ble_eq_true rfl) rfl rfl rfl rfl w_118 (fun _ _ => rfl) (fun _ => rfl) (fun _ => rfl) (fun _ => trivial) d_Market_init_16 ?_
  refine r_ltH (fun hq8 => ?_)
  refine r_aload_n (pc := 19) (i := 0) d_Market_init_19 rfl rfl ?_
  refine r_bipush (pc := 20) (v := 6) d_Market_init_20 (by rfl) ?_
  refine r_newa (pc := 22) (t := 0) (N := 6) (kn1 := (3, 15)) (by decide) rfl wa_0 rfl (Nat.le_of_ble_eq_true rfl) rfl ⟨Nat.le_of_ble_eq_true rfl, Nat.le_of_ble_eq_true rfl⟩ (fun _ => trivial) d_Market_init_22 ?_
  refine r_ltR (fun cq9 => ?_)
  refine r_ltH (fun hq10 => ?_)
  refine r_gc (fun gq11 => ?_)
  refine r_putRF (pc := 24) (ci := 7) (k := 2) (C := "CricketHay$Market") (T := F_7) (N := 16) (fun _ => gq11) rfl (Nat.le_of_ble_eq_true rfl) rfl rfl rfl rfl w_120 (fun _ _ => rfl) (fun _ => rfl) (fun _ => rfl) (fun _ => trivial) d_Market_init_24 ?_
  refine r_ltH (fun hq12 => ?_)
  refine r_aload_n (pc := 27) (i := 0) d_Market_init_27 rfl rfl ?_
  refine r_bipush (pc := 28) (v := 6) d_Market_init_28 (by rfl) ?_
  refine r_newa (pc := 30) (t := 0) (N := 6) (kn1 := (4, 21)) (by decide) rfl wa_0 rfl (Nat.le_of_ble_eq_true rfl) rfl ⟨Nat.le_of_ble_eq_true rfl, Nat.le_of_ble_eq_true rfl⟩ (fun _ => trivial) d_Market_init_30 ?_
  refine r_ltR (fun cq13 => ?_)
  refine r_ltH (fun hq14 => ?_)
  refine r_gc (fun gq15 => ?_)
  refine r_putRF (pc := 32) (ci := 7) (k := 3) (C := "CricketHay$Market") (T := F_7) (N := 16) (fun _ => gq15) rfl (Nat.le_of_ble_eq_true rfl) rfl rfl rfl rfl w_124 (fun _ _ => rfl) (fun _ => rfl) (fun _ => rfl) (fun _ => trivial) d_Market_init_32 ?_
  refine r_ltH (fun hq16 => ?_)
  refine r_aload_n (pc := 35) (i := 0) d_Market_init_35 rfl rfl ?_
  refine r_bipush (pc := 36) (v := 6) d_Market_init_36 (by rfl) ?_
  refine r_newa (pc := 38) (t := 0) (N := 6) (kn1 := (5, 27)) (by decide) rfl wa_0 rfl (Nat.le_of_ble_eq_true rfl) rfl ⟨Nat.le_of_ble_eq_true rfl, Nat.le_of_ble_eq_true rfl⟩ (fun _ => trivial) d_Market_init_38 ?_
  refine r_ltR (fun cq17 => ?_)
  refine r_ltH (fun hq18 => ?_)
  refine r_gc (fun gq19 => ?_)
  refine r_putRF (pc := 40) (ci := 7) (k := 4) (C := "CricketHay$Market") (T := F_7) (N := 16) (fun _ => gq19) rfl (Nat.le_of_ble_eq_true rfl) rfl rfl rfl rfl w_129 (fun _ _ => rfl) (fun _ => rfl) (fun _ => rfl) (fun _ => trivial) d_Market_init_40 ?_
  refine r_ltH (fun hq20 => ?_)
  refine r_aload_n (pc := 43) (i := 0) d_Market_init_43 rfl rfl ?_
  refine r_bipush (pc := 44) (v := 6) d_Market_init_44 (by rfl) ?_
  refine r_newa (pc := 46) (t := 0) (N := 6) (kn1 := (6, 33)) (by decide) rfl wa_0 rfl (Nat.le_of_ble_eq_true rfl) rfl ⟨Nat.le_of_ble_eq_true rfl, Nat.le_of_ble_eq_true rfl⟩ (fun _ => trivial) d_Market_init_46 ?_
  refine r_ltR (fun cq21 => ?_)
  refine r_ltH (fun hq22 => ?_)
  refine r_gc (fun gq23 => ?_)
  refine r_putRF (pc := 48) (ci := 7) (k := 5) (C := "CricketHay$Market") (T := F_7) (N := 16) (fun _ => gq23) rfl (Nat.le_of_ble_eq_true rfl) rfl rfl rfl rfl w_132 (fun _ _ => rfl) (fun _ => rfl) (fun _ => rfl) (fun _ => trivial) d_Market_init_48 ?_
  refine r_ltH (fun hq24 => ?_)
  refine r_aload_n (pc := 51) (i := 0) d_Market_init_51 rfl rfl ?_
  refine r_bipush (pc := 52) (v := 6) d_Market_init_52 (by rfl) ?_
  refine r_newa (pc := 54) (t := 0) (N := 6) (kn1 := (7, 39)) (by decide) rfl wa_0 rfl (Nat.le_of_ble_eq_true rfl) rfl ⟨Nat.le_of_ble_eq_true rfl, Nat.le_of_ble_eq_true rfl⟩ (fun _ => trivial) d_Market_init_54 ?_
  refine r_ltR (fun cq25 => ?_)
  refine r_ltH (fun hq26 => ?_)
  refine r_gc (fun gq27 => ?_)
  refine r_putRF (pc := 56) (ci := 7) (k := 6) (C := "CricketHay$Market") (T := F_7) (N := 16) (fun _ => gq27) rfl (Nat.le_of_ble_eq_true rfl) rfl rfl rfl rfl w_135 (fun _ _ => rfl) (fun _ => rfl) (fun _ => rfl) (fun _ => trivial) d_Market_init_56 ?_
  refine r_ltH (fun hq28 => ?_)
  refine r_aload_n (pc := 59) (i := 0) d_Market_init_59 rfl rfl ?_
  refine r_bipush (pc := 60) (v := 6) d_Market_init_60 (by rfl) ?_
  refine r_newa (pc := 62) (t := 0) (N := 6) (kn1 := (8, 45)) (by decide) rfl wa_0 rfl (Nat.le_of_ble_eq_true rfl) rfl ⟨Nat.le_of_ble_eq_true rfl, Nat.le_of_ble_eq_true rfl⟩ (fun _ => trivial) d_Market_init_62 ?_
  refine r_ltR (fun cq29 => ?_)
  refine r_ltH (fun hq30 => ?_)
  refine r_gc (fun gq31 => ?_)
  refine r_putRF (pc := 64) (ci := 7) (k := 7) (C := "CricketHay$Market") (T := F_7) (N := 16) (fun _ => gq31) rfl (Nat.le_of_ble_eq_true rfl) rfl rfl rfl rfl w_138 (fun _ _ => rfl) (fun _ => rfl) (fun _ => rfl) (fun _ => trivial) d_Market_init_64 ?_
  refine r_ltH (fun hq32 => ?_)
  refine r_aload_n (pc := 67) (i := 0) d_Market_init_67 rfl rfl ?_
  refine r_new (pc := 68) (ci := 5) (N := 5) (kn1 := (9, 50)) rfl w_83 w_84 w_4 rfl ⟨Nat.le_of_ble_eq_true rfl, Nat.le_of_ble_eq_true rfl⟩ (fun _ => trivial) d_Market_init_68 ?_
  refine r_ltR (fun cq33 => ?_)
  refine r_ltH (fun hq34 => ?_)
  refine r_dup (pc := 71) d_Market_init_71 rfl ?_
  refine r_kIN (pc := 72) (kn1 := (12, 620)) (st := [.ref cq33, .ref t]) (ok_Formula_init cq33 hq34) w_87 w_4 (host := "CricketHay") (by decide +kernel) w_86 rfl rfl hy_Formula_init ⟨Nat.le_of_ble_eq_true rfl, Nat.le_of_ble_eq_true rfl⟩ ⟨Nat.le_of_ble_eq_true rfl, Nat.le_of_ble_eq_true rfl⟩ rfl rfl (Nat.le_of_ble_eq_true rfl) d_Market_init_72 (fun hq35 => ?_)
  refine r_gc (fun gq36 => ?_)
  refine r_putRF (pc := 75) (ci := 7) (k := 8) (C := "CricketHay$Market") (T := F_7) (N := 16) (fun _ => gq36) rfl (Nat.le_of_ble_eq_true rfl) rfl rfl rfl rfl w_143 (fun _ _ => rfl) (fun _ => rfl) (fun _ => rfl) (fun _ => trivial) d_Market_init_75 ?_
  refine r_ltH (fun hq37 => ?_)
  refine r_aload_n (pc := 78) (i := 0) d_Market_init_78 rfl rfl ?_
  refine r_new (pc := 79) (ci := 5) (N := 5) (kn1 := (13, 625)) rfl w_83 w_84 w_4 rfl ⟨Nat.le_of_ble_eq_true rfl, Nat.le_of_ble_eq_true rfl⟩ (fun _ => trivial) d_Market_init_79 ?_
  refine r_ltR (fun cq38 => ?_)
  refine r_ltH (fun hq39 => ?_)
  refine r_dup (pc := 82) d_Market_init_82 rfl ?_
  refine r_kIN (pc := 83) (kn1 := (16, 1195)) (st := [.ref cq38, .ref t]) (ok_Formula_init cq38 hq39) w_87 w_4 (host := "CricketHay") (by decide +kernel) w_86 rfl rfl hy_Formula_init ⟨Nat.le_of_ble_eq_true rfl, Nat.le_of_ble_eq_true rfl⟩ ⟨Nat.le_of_ble_eq_true rfl, Nat.le_of_ble_eq_true rfl⟩ rfl rfl (Nat.le_of_ble_eq_true rfl) d_Market_init_83 (fun hq40 => ?_)
  refine r_gc (fun gq41 => ?_)
  refine r_putRF (pc := 86) (ci := 7) (k := 9) (C := "CricketHay$Market") (T := F_7) (N := 16) (fun _ => gq41) rfl (Nat.le_of_ble_eq_true rfl) rfl rfl rfl rfl w_146 (fun _ _ => rfl) (fun _ => rfl) (fun _ => rfl) (fun _ => trivial) d_Market_init_86 ?_
  refine r_ltH (fun hq42 => ?_)
  refine r_aload_n (pc := 89) (i := 0) d_Market_init_89 rfl rfl ?_
  refine r_gc (fun gq44 => ?_)
  refine r_cVv (pc := 90) (T := F_7) (N := 16) (st := []) (ok_Market_reset_c t hq42) (fun _ => gq44) rfl w_111 w_3 w_108 w_110 ws_0 hy_Market_reset ⟨Nat.le_of_ble_eq_true rfl, Nat.le_of_ble_eq_true rfl⟩ ⟨Nat.le_of_ble_eq_true rfl, Nat.le_of_ble_eq_true rfl⟩ rfl (Nat.le_of_ble_eq_true rfl) d_Market_init_90 (fun hq43 => ?_)
  exact r_vret (pc := 93) rfl d_Market_init_93

def f_Reader_init  (t : Nat) (h : AH) : Option AH :=
  lt (hN h) fun cq1 =>
  lt (nC h (.inl (0, 1600))) fun hq2 =>
  gc hq2 t (.inr 9) <|
  lt (sR hq2 t 0 (some cq1)) fun hq4 =>
  gc hq4 t (.inr 9) <|
  lt (sI hq4 t 9 (0 : Int32)) fun hq6 =>
  gc hq6 t (.inr 9) <|
  lt (sI hq6 t 10 (0 : Int32)) fun hq8 =>
  gc hq8 t (.inr 9) <|
  lt (sI hq8 t 11 (-1 : Int32)) fun hq10 =>
  some hq10
set_option maxHeartbeats 2000000 in
theorem ok_Reader_init {G : AE}  (t : Nat) (h : AH) : Ok G ST y_Reader_init (2) 1 1600 φV [.ref t] h (f_Reader_init t h) := by
  refine ok_of (y := y_Reader_init) (lv0 := [some (.ref t)]) (by decide +kernel) (Nat.le_of_ble_eq_true rfl) ⟨rfl, trivial⟩ ?_
  rw [f_Reader_init]
  refine r_aload_n (pc := 0) (i := 0) d_Reader_init_0 rfl rfl ?_
  refine r_objInit (pc := 1) w_35 w_28 wo_code (Nat.le_of_ble_eq_true rfl) (Nat.le_of_ble_eq_true rfl) d_Reader_init_1 ?_
  refine r_aload_n (pc := 4) (i := 0) d_Reader_init_4 rfl rfl ?_
  refine r_sipush (pc := 5) (v := 1600) d_Reader_init_5 (by rfl) ?_
  refine r_newa (pc := 8) (t := 0) (N := 1600) (kn1 := (1, 1600)) (by decide) rfl wa_0 rfl (Nat.le_of_ble_eq_true rfl) rfl ⟨Nat.le_of_ble_eq_true rfl, Nat.le_of_ble_eq_true rfl⟩ (fun _ => trivial) d_Reader_init_8 ?_
  refine r_ltR (fun cq1 => ?_)
  refine r_ltH (fun hq2 => ?_)
  refine r_gc (fun gq3 => ?_)
  refine r_putRF (pc := 10) (ci := 9) (k := 0) (C := "CricketHay$Reader") (T := F_9) (N := 12) (fun _ => gq3) rfl (Nat.le_of_ble_eq_true rfl) rfl rfl rfl rfl w_36 (fun _ _ => rfl) (fun _ => rfl) (fun _ => rfl) (fun _ => trivial) d_Reader_init_10 ?_
  refine r_ltH (fun hq4 => ?_)
  refine r_aload_n (pc := 13) (i := 0) d_Reader_init_13 rfl rfl ?_
  refine r_iconst (pc := 14) (v := 0) d_Reader_init_14 (by rfl) ?_
  refine r_gc (fun gq5 => ?_)
  refine r_putI (pc := 15) (ci := 9) (k := 9) (C := "CricketHay$Reader") (T := F_9) (N := 12) (fun _ => gq5) rfl (Nat.le_of_ble_eq_true rfl) rfl rfl w_45 (fun _ _ => rfl) (fun _ => rfl) (fun _ => rfl) (fun _ => trivial) d_Reader_init_15 ?_
  refine r_ltH (fun hq6 => ?_)
  refine r_aload_n (pc := 18) (i := 0) d_Reader_init_18 rfl rfl ?_
  refine r_iconst (pc := 19) (v := 0) d_Reader_init_19 (by rfl) ?_
  refine r_gc (fun gq7 => ?_)
  refine r_putI (pc := 20) (ci := 9) (k := 10) (C := "CricketHay$Reader") (T := F_9) (N := 12) (fun _ => gq7) rfl (Nat.le_of_ble_eq_true rfl) rfl rfl w_47 (fun _ _ => rfl) (fun _ => rfl) (fun _ => rfl) (fun _ => trivial) d_Reader_init_20 ?_
  refine r_ltH (fun hq8 => ?_)
  refine r_aload_n (pc := 23) (i := 0) d_Reader_init_23 rfl rfl ?_
  refine r_iconst (pc := 24) (v := -1) d_Reader_init_24 (by rfl) ?_
  refine r_gc (fun gq9 => ?_)
  refine r_putI (pc := 25) (ci := 9) (k := 11) (C := "CricketHay$Reader") (T := F_9) (N := 12) (fun _ => gq9) rfl (Nat.le_of_ble_eq_true rfl) rfl rfl w_49 (fun _ _ => rfl) (fun _ => rfl) (fun _ => rfl) (fun _ => trivial) d_Reader_init_25 ?_
  refine r_ltH (fun hq10 => ?_)
  exact r_vret (pc := 28) rfl d_Reader_init_28

def f_Choir_init  (t : Nat) (h : AH) : Option AH :=
  lt (hN h) fun cq1 =>
  lt (nC h (.inl (0, 6))) fun hq2 =>
  gc hq2 t (.inr 2) <|
  lt (sR hq2 t 0 (some cq1)) fun hq4 =>
  gc hq4 t (.inr 2) <|
  lt (sI hq4 t 1 (0 : Int32)) fun hq6 =>
  some hq6
set_option maxHeartbeats 2000000 in
theorem ok_Choir_init {G : AE}  (t : Nat) (h : AH) : Ok G ST y_Choir_init (2) 1 6 φV [.ref t] h (f_Choir_init t h) := by
  refine ok_of (y := y_Choir_init) (lv0 := [some (.ref t)]) (by decide +kernel) (Nat.le_of_ble_eq_true rfl) ⟨rfl, trivial⟩ ?_
  rw [f_Choir_init]
  refine r_aload_n (pc := 0) (i := 0) d_Choir_init_0 rfl rfl ?_
  refine r_objInit (pc := 1) w_265 w_28 wo_code (Nat.le_of_ble_eq_true rfl) (Nat.le_of_ble_eq_true rfl) d_Choir_init_1 ?_
  refine r_aload_n (pc := 4) (i := 0) d_Choir_init_4 rfl rfl ?_
  refine r_bipush (pc := 5) (v := 6) d_Choir_init_5 (by rfl) ?_
  refine r_newa (pc := 7) (t := 0) (N := 6) (kn1 := (1, 6)) (by decide) rfl wa_0 rfl (Nat.le_of_ble_eq_true rfl) rfl ⟨Nat.le_of_ble_eq_true rfl, Nat.le_of_ble_eq_true rfl⟩ (fun _ => trivial) d_Choir_init_7 ?_
  refine r_ltR (fun cq1 => ?_)
  refine r_ltH (fun hq2 => ?_)
  refine r_gc (fun gq3 => ?_)
  refine r_putRF (pc := 9) (ci := 2) (k := 0) (C := "CricketHay$Choir") (T := F_2) (N := 2) (fun _ => gq3) rfl (Nat.le_of_ble_eq_true rfl) rfl rfl rfl rfl w_266 (fun _ _ => rfl) (fun _ => rfl) (fun _ => rfl) (fun _ => trivial) d_Choir_init_9 ?_
  refine r_ltH (fun hq4 => ?_)
  refine r_aload_n (pc := 12) (i := 0) d_Choir_init_12 rfl rfl ?_
  refine r_iconst (pc := 13) (v := 0) d_Choir_init_13 (by rfl) ?_
  refine r_gc (fun gq5 => ?_)
  refine r_putI (pc := 14) (ci := 2) (k := 1) (C := "CricketHay$Choir") (T := F_2) (N := 2) (fun _ => gq5) rfl (Nat.le_of_ble_eq_true rfl) rfl rfl w_268 (fun _ _ => rfl) (fun _ => rfl) (fun _ => rfl) (fun _ => trivial) d_Choir_init_14 ?_
  refine r_ltH (fun hq6 => ?_)
  exact r_vret (pc := 17) rfl d_Choir_init_17

def f_Acts_init_l25  (t : Nat)  : Nat → Int32 → AH → Option AH
  | 0, _, _ => none
  | n + 1, x1, h =>
    gc h t (.inr 0) <|
    gq h t 0 fun cq2 =>
    gc h cq2 (.inl (3, 41)) <|
    if (nI 41) ≤ x1 then
      some h
    else
      gc h t (.inr 0) <|
      gq h t 0 fun cq5 =>
      lt (hN h) fun cq6 =>
      lt (nC h (.inr 10)) fun hq7 =>
      bV (f_Yard_init cq6 hq7) fun hq8 =>
      gc hq8 cq5 (.inl (3, 41)) <|
      gx x1 41 <|
      gc hq8 cq6 (.inr 10) <|
      lt (sR hq8 cq5 (ix x1) (some cq6)) fun hq12 =>
      lt (x1 + (1 : Int32)) fun xq13 =>
      f_Acts_init_l25 t n xq13 hq12
set_option maxHeartbeats 2000000 in
theorem o_Acts_init_l25 {G : AE}  {t : Nat}   : ∀ (n0 k : Nat) (hk2 : k ≤ 41) (x1 : Int32) (hk : x1 = nI k) (h : AH), AR G ST y_Acts_init (rmM (3) 288 1927) (qM G ST 288 1927) φV (1 + 7 * k, 41 + 46 * k) 25 [some (.ref t), some (.int x1)] [] h (f_Acts_init_l25 t n0 x1 h) := by
  intro n0
  induction n0 with
  | zero => intros; exact r_none
  | succ n0 ih =>
    intro k hk2 x1 hk h
    rw [f_Acts_init_l25]
    refine r_iload_n (pc := 25) (i := 1) d_Acts_init_25 rfl rfl ?_
    refine r_aload_n (pc := 26) (i := 0) d_Acts_init_26 rfl rfl ?_
    refine r_gc (fun gq1 => ?_)
    refine r_gq (fun cq2 rcq2 => ?_)
    refine r_getf (pc := 27) (ci := 0) (k := 0) (C := "CricketHay$Acts") (T := F_0) (N := 3) (v := .ref cq2) (fun _ => gq1) rfl (Nat.le_of_ble_eq_true rfl) rfl w_283 (fun _ => vr rfl rcq2) d_Acts_init_27 ?_
    refine r_gc (fun gq3 => ?_)
    refine r_alen (pc := 30) (n := 41) (fun _ => gq3) d_Acts_init_30 ?_
    refine r_icmp_geH (pc := 31) (tgt := 53) d_Acts_init_31 (by rfl) (fun q => ?_) (fun q => ?_)
    · refine r_wid (kn1 := (288, 1927)) (by show 1 + 7 * k ≤ 288; omega) (by show 41 + 46 * k ≤ 1927; omega) ?_
      exact r_vret (pc := 53) rfl d_Acts_init_53
    · have hk3 : k < 41 := Nat.lt_of_not_le fun z => q (by rw [hk]; exact nI_le z (by omega))
      refine r_aload_n (pc := 34) (i := 0) d_Acts_init_34 rfl rfl ?_
      refine r_gc (fun gq4 => ?_)
      refine r_gq (fun cq5 rcq5 => ?_)
      refine r_getf (pc := 35) (ci := 0) (k := 0) (C := "CricketHay$Acts") (T := F_0) (N := 3) (v := .ref cq5) (fun _ => gq4) rfl (Nat.le_of_ble_eq_true rfl) rfl w_283 (fun _ => vr rfl rcq5) d_Acts_init_35 ?_
      refine r_iload_n (pc := 38) (i := 1) d_Acts_init_38 rfl rfl ?_
      refine r_new (pc := 39) (ci := 10) (N := 10) (kn1 := (1 + 7 * k + 1, 41 + 46 * k + 10)) rfl w_280 w_205 w_5 rfl ⟨by show 1 + 7 * k + 1 ≤ 288; omega, by show 41 + 46 * k + 10 ≤ 1927; omega⟩ (fun _ => trivial) d_Acts_init_39 ?_
      refine r_ltR (fun cq6 => ?_)
      refine r_ltH (fun hq7 => ?_)
      refine r_dup (pc := 42) d_Acts_init_42 rfl ?_
      refine r_kIN (pc := 43) (kn1 := (1 + 7 * k + 7, 41 + 46 * k + 46)) (st := [.ref cq6, .int x1, .ref cq5]) (ok_Yard_init cq6 hq7) w_208 w_5 (host := "CricketHay") (by decide +kernel) w_207 rfl rfl hy_Yard_init ⟨Nat.le_of_ble_eq_true rfl, Nat.le_of_ble_eq_true rfl⟩ ⟨by show 1 + 7 * k + 1 + 6 ≤ 288; omega, by show 41 + 46 * k + 10 + 36 ≤ 1927; omega⟩ rfl rfl (Nat.le_of_ble_eq_true rfl) d_Acts_init_43 (fun hq8 => ?_)
      refine r_gc (fun gq9 => ?_)
      refine r_gx (fun zq10 => ?_)
      refine r_gc (fun gq11 => ?_)
      refine r_aast (pc := 46) (n := 41) (i0 := (ix x1)) (fun _ => gq9) zq10 rfl (fun _ => gq11) (fun _ => trivial) d_Acts_init_46 ?_
      refine r_ltH (fun hq12 => ?_)
      refine r_ltE (fun xq13 exq13 => ?_)
      refine r_iinc (pc := 47) (v := xq13) (lv1 := [some (.ref t), some (.int xq13)]) d_Acts_init_47 rfl exq13.symm (Nat.le_of_ble_eq_true rfl) rfl ?_
      refine r_goto (pc := 50) (tgt := 25) d_Acts_init_50 (by rfl) ?_
      exact r_wid (kn1 := (1 + 7 * (k + 1), 41 + 46 * (k + 1))) (by show 1 + 7 * k + 7 ≤ 1 + 7 * (k + 1); omega) (by show 41 + 46 * k + 46 ≤ 41 + 46 * (k + 1); omega) (r_wk (ih (k + 1) (by omega) xq13 (by rw [exq13, hk]; exact nI_1 k) hq12) ⟨rfl, ⟨rfl, trivial⟩⟩)
def f_Acts_init  (t : Nat) (h : AH) : Option AH :=
  lt (hN h) fun cq1 =>
  lt (nC h (.inl (3, 41))) fun hq2 =>
  gc hq2 t (.inr 0) <|
  lt (sR hq2 t 0 (some cq1)) fun hq4 =>
  gc hq4 t (.inr 0) <|
  lt (sI hq4 t 1 (0 : Int32)) fun hq6 =>
  gc hq6 t (.inr 0) <|
  lt (sI hq6 t 2 (0 : Int32)) fun hq8 =>
  f_Acts_init_l25 t FU (0 : Int32) hq8
set_option maxHeartbeats 2000000 in
theorem ok_Acts_init {G : AE}  (t : Nat) (h : AH) : Ok G ST y_Acts_init (3) 288 1927 φV [.ref t] h (f_Acts_init t h) := by
  refine ok_of (y := y_Acts_init) (lv0 := [some (.ref t), none]) (by decide +kernel) (Nat.le_of_ble_eq_true rfl) ⟨rfl, trivial⟩ ?_
  rw [f_Acts_init]
  refine r_aload_n (pc := 0) (i := 0) d_Acts_init_0 rfl rfl ?_
  refine r_objInit (pc := 1) w_279 w_28 wo_code (Nat.le_of_ble_eq_true rfl) (Nat.le_of_ble_eq_true rfl) d_Acts_init_1 ?_
  refine r_aload_n (pc := 4) (i := 0) d_Acts_init_4 rfl rfl ?_
  refine r_bipush (pc := 5) (v := 41) d_Acts_init_5 (by rfl) ?_
  refine r_anew (pc := 7) (N := 41) (kn1 := (1, 41)) w_280 rfl (Nat.le_of_ble_eq_true rfl) rfl ⟨Nat.le_of_ble_eq_true rfl, Nat.le_of_ble_eq_true rfl⟩ (fun _ => trivial) d_Acts_init_7 ?_
  refine r_ltR (fun cq1 => ?_)
  refine r_ltH (fun hq2 => ?_)
  refine r_gc (fun gq3 => ?_)
  refine r_putRF (pc := 10) (ci := 0) (k := 0) (C := "CricketHay$Acts") (T := F_0) (N := 3) (fun _ => gq3) rfl (Nat.le_of_ble_eq_true rfl) rfl rfl rfl rfl w_283 (fun _ _ => rfl) (fun _ => rfl) (fun _ => rfl) (fun _ => trivial) d_Acts_init_10 ?_
  refine r_ltH (fun hq4 => ?_)
  refine r_aload_n (pc := 13) (i := 0) d_Acts_init_13 rfl rfl ?_
  refine r_iconst (pc := 14) (v := 0) d_Acts_init_14 (by rfl) ?_
  refine r_gc (fun gq5 => ?_)
  refine r_putI (pc := 15) (ci := 0) (k := 1) (C := "CricketHay$Acts") (T := F_0) (N := 3) (fun _ => gq5) rfl (Nat.le_of_ble_eq_true rfl) rfl rfl w_284 (fun _ _ => rfl) (fun _ => rfl) (fun _ => rfl) (fun _ => trivial) d_Acts_init_15 ?_
  refine r_ltH (fun hq6 => ?_)
  refine r_aload_n (pc := 18) (i := 0) d_Acts_init_18 rfl rfl ?_
  refine r_iconst (pc := 19) (v := 0) d_Acts_init_19 (by rfl) ?_
  refine r_gc (fun gq7 => ?_)
  refine r_putI (pc := 20) (ci := 0) (k := 2) (C := "CricketHay$Acts") (T := F_0) (N := 3) (fun _ => gq7) rfl (Nat.le_of_ble_eq_true rfl) rfl rfl w_286 (fun _ _ => rfl) (fun _ => rfl) (fun _ => rfl) (fun _ => trivial) d_Acts_init_20 ?_
  refine r_ltH (fun hq8 => ?_)
  refine r_iconst (pc := 23) (v := 0) d_Acts_init_23 (by rfl) ?_
  refine r_istore_n (pc := 24) (i := 1) (lv1 := [some (.ref t), some (.int (0 : Int32))]) d_Acts_init_24 rfl (Nat.le_of_ble_eq_true rfl) rfl ?_
  exact r_wk (o_Acts_init_l25 FU 0 (Nat.zero_le _) 0 rfl hq8) ⟨rfl, ⟨rfl, trivial⟩⟩

def f_Boxes_init_l21  (t : Nat)  : Nat → Int32 → AH → Option AH
  | 0, _, _ => none
  | n + 1, x1, h =>
    if (3 : Int32) ≤ x1 then
      some h
    else
      gc h t (.inr 1) <|
      gq h t 0 fun cq2 =>
      lt (hN h) fun cq3 =>
      lt (nC h (.inr 10)) fun hq4 =>
      bV (f_Yard_init cq3 hq4) fun hq5 =>
      gc hq5 cq2 (.inl (3, 3)) <|
      gx x1 3 <|
      gc hq5 cq3 (.inr 10) <|
      lt (sR hq5 cq2 (ix x1) (some cq3)) fun hq9 =>
      lt (x1 + (1 : Int32)) fun xq10 =>
      f_Boxes_init_l21 t n xq10 hq9
set_option maxHeartbeats 2000000 in
theorem o_Boxes_init_l21 {G : AE}  {t : Nat}   : ∀ (n0 k : Nat) (hk2 : k ≤ 3) (x1 : Int32) (hk : x1 = nI k) (h : AH), AR G ST y_Boxes_init (rmM (3) 23 144) (qM G ST 23 144) φV (2 + 7 * k, 6 + 46 * k) 21 [some (.ref t), some (.int x1)] [] h (f_Boxes_init_l21 t n0 x1 h) := by
  intro n0
  induction n0 with
  | zero => intros; exact r_none
  | succ n0 ih =>
    intro k hk2 x1 hk h
    rw [f_Boxes_init_l21]
    refine r_iload_n (pc := 21) (i := 1) d_Boxes_init_21 rfl rfl ?_
    refine r_iconst (pc := 22) (v := 3) d_Boxes_init_22 (by rfl) ?_
    refine r_icmp_geH (pc := 23) (tgt := 45) d_Boxes_init_23 (by rfl) (fun q => ?_) (fun q => ?_)
    · refine r_wid (kn1 := (23, 144)) (by show 2 + 7 * k ≤ 23; omega) (by show 6 + 46 * k ≤ 144; omega) ?_
      exact r_vret (pc := 45) rfl d_Boxes_init_45
    · have hk3 : k < 3 := Nat.lt_of_not_le fun z => q (by rw [hk]; exact nI_le z (by omega))
      refine r_aload_n (pc := 26) (i := 0) d_Boxes_init_26 rfl rfl ?_
      refine r_gc (fun gq1 => ?_)
      refine r_gq (fun cq2 rcq2 => ?_)
      refine r_getf (pc := 27) (ci := 1) (k := 0) (C := "CricketHay$Boxes") (T := F_1) (N := 2) (v := .ref cq2) (fun _ => gq1) rfl (Nat.le_of_ble_eq_true rfl) rfl w_303 (fun _ => vr rfl rcq2) d_Boxes_init_27 ?_
      refine r_iload_n (pc := 30) (i := 1) d_Boxes_init_30 rfl rfl ?_
      refine r_new (pc := 31) (ci := 10) (N := 10) (kn1 := (2 + 7 * k + 1, 6 + 46 * k + 10)) rfl w_301 w_205 w_5 rfl ⟨by show 2 + 7 * k + 1 ≤ 23; omega, by show 6 + 46 * k + 10 ≤ 144; omega⟩ (fun _ => trivial) d_Boxes_init_31 ?_
      refine r_ltR (fun cq3 => ?_)
      refine r_ltH (fun hq4 => ?_)
      refine r_dup (pc := 34) d_Boxes_init_34 rfl ?_
      refine r_kIN (pc := 35) (kn1 := (2 + 7 * k + 7, 6 + 46 * k + 46)) (st := [.ref cq3, .int x1, .ref cq2]) (ok_Yard_init cq3 hq4) w_208 w_5 (host := "CricketHay") (by decide +kernel) w_207 rfl rfl hy_Yard_init ⟨Nat.le_of_ble_eq_true rfl, Nat.le_of_ble_eq_true rfl⟩ ⟨by show 2 + 7 * k + 1 + 6 ≤ 23; omega, by show 6 + 46 * k + 10 + 36 ≤ 144; omega⟩ rfl rfl (Nat.le_of_ble_eq_true rfl) d_Boxes_init_35 (fun hq5 => ?_)
      refine r_gc (fun gq6 => ?_)
      refine r_gx (fun zq7 => ?_)
      refine r_gc (fun gq8 => ?_)
      refine r_aast (pc := 38) (n := 3) (i0 := (ix x1)) (fun _ => gq6) zq7 rfl (fun _ => gq8) (fun _ => trivial) d_Boxes_init_38 ?_
      refine r_ltH (fun hq9 => ?_)
      refine r_ltE (fun xq10 exq10 => ?_)
      refine r_iinc (pc := 39) (v := xq10) (lv1 := [some (.ref t), some (.int xq10)]) d_Boxes_init_39 rfl exq10.symm (Nat.le_of_ble_eq_true rfl) rfl ?_
      refine r_goto (pc := 42) (tgt := 21) d_Boxes_init_42 (by rfl) ?_
      exact r_wid (kn1 := (2 + 7 * (k + 1), 6 + 46 * (k + 1))) (by show 2 + 7 * k + 7 ≤ 2 + 7 * (k + 1); omega) (by show 6 + 46 * k + 46 ≤ 6 + 46 * (k + 1); omega) (r_wk (ih (k + 1) (by omega) xq10 (by rw [exq10, hk]; exact nI_1 k) hq9) ⟨rfl, ⟨rfl, trivial⟩⟩)
def f_Boxes_init  (t : Nat) (h : AH) : Option AH :=
  lt (hN h) fun cq1 =>
  lt (nC h (.inl (3, 3))) fun hq2 =>
  gc hq2 t (.inr 1) <|
  lt (sR hq2 t 0 (some cq1)) fun hq4 =>
  lt (hN hq4) fun cq5 =>
  lt (nC hq4 (.inl (1, 3))) fun hq6 =>
  gc hq6 t (.inr 1) <|
  lt (sR hq6 t 1 (some cq5)) fun hq8 =>
  f_Boxes_init_l21 t FU (0 : Int32) hq8
set_option maxHeartbeats 2000000 in
theorem ok_Boxes_init {G : AE}  (t : Nat) (h : AH) : Ok G ST y_Boxes_init (3) 23 144 φV [.ref t] h (f_Boxes_init t h) := by
  refine ok_of (y := y_Boxes_init) (lv0 := [some (.ref t), none]) (by decide +kernel) (Nat.le_of_ble_eq_true rfl) ⟨rfl, trivial⟩ ?_
  rw [f_Boxes_init]
  refine r_aload_n (pc := 0) (i := 0) d_Boxes_init_0 rfl rfl ?_
  refine r_objInit (pc := 1) w_300 w_28 wo_code (Nat.le_of_ble_eq_true rfl) (Nat.le_of_ble_eq_true rfl) d_Boxes_init_1 ?_
  refine r_aload_n (pc := 4) (i := 0) d_Boxes_init_4 rfl rfl ?_
  refine r_iconst (pc := 5) (v := 3) d_Boxes_init_5 (by rfl) ?_
  refine r_anew (pc := 6) (N := 3) (kn1 := (1, 3)) w_301 rfl (Nat.le_of_ble_eq_true rfl) rfl ⟨Nat.le_of_ble_eq_true rfl, Nat.le_of_ble_eq_true rfl⟩ (fun _ => trivial) d_Boxes_init_6 ?_
  refine r_ltR (fun cq1 => ?_)
  refine r_ltH (fun hq2 => ?_)
  refine r_gc (fun gq3 => ?_)
  refine r_putRF (pc := 9) (ci := 1) (k := 0) (C := "CricketHay$Boxes") (T := F_1) (N := 2) (fun _ => gq3) rfl (Nat.le_of_ble_eq_true rfl) rfl rfl rfl rfl w_303 (fun _ _ => rfl) (fun _ => rfl) (fun _ => rfl) (fun _ => trivial) d_Boxes_init_9 ?_
  refine r_ltH (fun hq4 => ?_)
  refine r_aload_n (pc := 12) (i := 0) d_Boxes_init_12 rfl rfl ?_
  refine r_iconst (pc := 13) (v := 3) d_Boxes_init_13 (by rfl) ?_
  refine r_newa (pc := 14) (t := 1) (N := 3) (kn1 := (2, 6)) (by decide) rfl wa_1 rfl (Nat.le_of_ble_eq_true rfl) rfl ⟨Nat.le_of_ble_eq_true rfl, Nat.le_of_ble_eq_true rfl⟩ (fun _ => trivial) d_Boxes_init_14 ?_
  refine r_ltR (fun cq5 => ?_)
  refine r_ltH (fun hq6 => ?_)
  refine r_gc (fun gq7 => ?_)
  refine r_putRF (pc := 16) (ci := 1) (k := 1) (C := "CricketHay$Boxes") (T := F_1) (N := 2) (fun _ => gq7) rfl (Nat.le_of_ble_eq_true rfl) rfl rfl rfl rfl w_304 (fun _ _ => rfl) (fun _ => rfl) (fun _ => rfl) (fun _ => trivial) d_Boxes_init_16 ?_
  refine r_ltH (fun hq8 => ?_)
  refine r_iconst (pc := 19) (v := 0) d_Boxes_init_19 (by rfl) ?_
  refine r_istore_n (pc := 20) (i := 1) (lv1 := [some (.ref t), some (.int (0 : Int32))]) d_Boxes_init_20 rfl (Nat.le_of_ble_eq_true rfl) rfl ?_
  exact r_wk (o_Boxes_init_l21 FU 0 (Nat.zero_le _) 0 rfl hq8) ⟨rfl, ⟨rfl, trivial⟩⟩

def f_Ears_init  (t : Nat) (h : AH) : Option AH :=
  lt (hN h) fun cq1 =>
  lt (nC h (.inl (0, 30))) fun hq2 =>
  gc hq2 t (.inr 4) <|
  lt (sR hq2 t 0 (some cq1)) fun hq4 =>
  lt (hN hq4) fun cq5 =>
  lt (nC hq4 (.inl (0, 30))) fun hq6 =>
  gc hq6 t (.inr 4) <|
  lt (sR hq6 t 1 (some cq5)) fun hq8 =>
  lt (hN hq8) fun cq9 =>
  lt (nC hq8 (.inl (1, 30))) fun hq10 =>
  gc hq10 t (.inr 4) <|
  lt (sR hq10 t 2 (some cq9)) fun hq12 =>
  lt (hN hq12) fun cq13 =>
  lt (nC hq12 (.inl (0, 30))) fun hq14 =>
  gc hq14 t (.inr 4) <|
  lt (sR hq14 t 3 (some cq13)) fun hq16 =>
  lt (hN hq16) fun cq17 =>
  lt (nC hq16 (.inl (0, 30))) fun hq18 =>
  gc hq18 t (.inr 4) <|
  lt (sR hq18 t 4 (some cq17)) fun hq20 =>
  lt (hN hq20) fun cq21 =>
  lt (nC hq20 (.inl (1, 100))) fun hq22 =>
  gc hq22 t (.inr 4) <|
  lt (sR hq22 t 5 (some cq21)) fun hq24 =>
  lt (hN hq24) fun cq25 =>
  lt (nC hq24 (.inl (0, 4100))) fun hq26 =>
  gc hq26 t (.inr 4) <|
  lt (sR hq26 t 6 (some cq25)) fun hq28 =>
  gc hq28 t (.inr 4) <|
  lt (sI hq28 t 7 (-1 : Int32)) fun hq30 =>
  gc hq30 t (.inr 4) <|
  lt (sI hq30 t 8 (-1 : Int32)) fun hq32 =>
  gc hq32 t (.inr 4) <|
  lt (sI hq32 t 9 (0 : Int32)) fun hq34 =>
  gc hq34 t (.inr 4) <|
  lt (sI hq34 t 10 (0 : Int32)) fun hq36 =>
  gc hq36 t (.inr 4) <|
  lt (sI hq36 t 11 (0 : Int32)) fun hq38 =>
  some hq38
set_option maxHeartbeats 2000000 in
theorem ok_Ears_init {G : AE}  (t : Nat) (h : AH) : Ok G ST y_Ears_init (2) 7 4350 φV [.ref t] h (f_Ears_init t h) := by
  refine ok_of (y := y_Ears_init) (lv0 := [some (.ref t)]) (by decide +kernel) (Nat.le_of_ble_eq_true rfl) ⟨rfl, trivial⟩ ?_
  rw [f_Ears_init]
  refine r_aload_n (pc := 0) (i := 0) d_Ears_init_0 rfl rfl ?_
  refine r_objInit (pc := 1) w_316 w_28 wo_code (Nat.le_of_ble_eq_true rfl) (Nat.le_of_ble_eq_true rfl) d_Ears_init_1 ?_
  refine r_aload_n (pc := 4) (i := 0) d_Ears_init_4 rfl rfl ?_
  refine r_bipush (pc := 5) (v := 30) d_Ears_init_5 (by rfl) ?_
  refine r_newa (pc := 7) (t := 0) (N := 30) (kn1 := (1, 30)) (by decide) rfl wa_0 rfl (Nat.le_of_ble_eq_true rfl) rfl ⟨Nat.le_of_ble_eq_true rfl, Nat.le_of_ble_eq_true rfl⟩ (fun _ => trivial) d_Ears_init_7 ?_
  refine r_ltR (fun cq1 => ?_)
  refine r_ltH (fun hq2 => ?_)
  refine r_gc (fun gq3 => ?_)
  refine r_putRF (pc := 9) (ci := 4) (k := 0) (C := "CricketHay$Ears") (T := F_4) (N := 12) (fun _ => gq3) rfl (Nat.le_of_ble_eq_true rfl) rfl rfl rfl rfl w_317 (fun _ _ => rfl) (fun _ => rfl) (fun _ => rfl) (fun _ => trivial) d_Ears_init_9 ?_
  refine r_ltH (fun hq4 => ?_)
  refine r_aload_n (pc := 12) (i := 0) d_Ears_init_12 rfl rfl ?_
  refine r_bipush (pc := 13) (v := 30) d_Ears_init_13 (by rfl) ?_
  refine r_newa (pc := 15) (t := 0) (N := 30) (kn1 := (2, 60)) (by decide) rfl wa_0 rfl (Nat.le_of_ble_eq_true rfl) rfl ⟨Nat.le_of_ble_eq_true rfl, Nat.le_of_ble_eq_true rfl⟩ (fun _ => trivial) d_Ears_init_15 ?_
  refine r_ltR (fun cq5 => ?_)
  refine r_ltH (fun hq6 => ?_)
  refine r_gc (fun gq7 => ?_)
  refine r_putRF (pc := 17) (ci := 4) (k := 1) (C := "CricketHay$Ears") (T := F_4) (N := 12) (fun _ => gq7) rfl (Nat.le_of_ble_eq_true rfl) rfl rfl rfl rfl w_318 (fun _ _ => rfl) (fun _ => rfl) (fun _ => rfl) (fun _ => trivial) d_Ears_init_17 ?_
  refine r_ltH (fun hq8 => ?_)
  refine r_aload_n (pc := 20) (i := 0) d_Ears_init_20 rfl rfl ?_
  refine r_bipush (pc := 21) (v := 30) d_Ears_init_21 (by rfl) ?_
  refine r_newa (pc := 23) (t := 1) (N := 30) (kn1 := (3, 90)) (by decide) rfl wa_1 rfl (Nat.le_of_ble_eq_true rfl) rfl ⟨Nat.le_of_ble_eq_true rfl, Nat.le_of_ble_eq_true rfl⟩ (fun _ => trivial) d_Ears_init_23 ?_
  refine r_ltR (fun cq9 => ?_)
  refine r_ltH (fun hq10 => ?_)
  refine r_gc (fun gq11 => ?_)
  refine r_putRF (pc := 25) (ci := 4) (k := 2) (C := "CricketHay$Ears") (T := F_4) (N := 12) (fun _ => gq11) rfl (Nat.le_of_ble_eq_true rfl) rfl rfl rfl rfl w_319 (fun _ _ => rfl) (fun _ => rfl) (fun _ => rfl) (fun _ => trivial) d_Ears_init_25 ?_
  refine r_ltH (fun hq12 => ?_)
  refine r_aload_n (pc := 28) (i := 0) d_Ears_init_28 rfl rfl ?_
  refine r_bipush (pc := 29) (v := 30) d_Ears_init_29 (by rfl) ?_
  refine r_newa (pc := 31) (t := 0) (N := 30) (kn1 := (4, 120)) (by decide) rfl wa_0 rfl (Nat.le_of_ble_eq_true rfl) rfl ⟨Nat.le_of_ble_eq_true rfl, Nat.le_of_ble_eq_true rfl⟩ (fun _ => trivial) d_Ears_init_31 ?_
  refine r_ltR (fun cq13 => ?_)
  refine r_ltH (fun hq14 => ?_)
  refine r_gc (fun gq15 => ?_)
  refine r_putRF (pc := 33) (ci := 4) (k := 3) (C := "CricketHay$Ears") (T := F_4) (N := 12) (fun _ => gq15) rfl (Nat.le_of_ble_eq_true rfl) rfl rfl rfl rfl w_320 (fun _ _ => rfl) (fun _ => rfl) (fun _ => rfl) (fun _ => trivial) d_Ears_init_33 ?_
  refine r_ltH (fun hq16 => ?_)
  refine r_aload_n (pc := 36) (i := 0) d_Ears_init_36 rfl rfl ?_
  refine r_bipush (pc := 37) (v := 30) d_Ears_init_37 (by rfl) ?_
  refine r_newa (pc := 39) (t := 0) (N := 30) (kn1 := (5, 150)) (by decide) rfl wa_0 rfl (Nat.le_of_ble_eq_true rfl) rfl ⟨Nat.le_of_ble_eq_true rfl, Nat.le_of_ble_eq_true rfl⟩ (fun _ => trivial) d_Ears_init_39 ?_
  refine r_ltR (fun cq17 => ?_)
  refine r_ltH (fun hq18 => ?_)
  refine r_gc (fun gq19 => ?_)
  refine r_putRF (pc := 41) (ci := 4) (k := 4) (C := "CricketHay$Ears") (T := F_4) (N := 12) (fun _ => gq19) rfl (Nat.le_of_ble_eq_true rfl) rfl rfl rfl rfl w_321 (fun _ _ => rfl) (fun _ => rfl) (fun _ => rfl) (fun _ => trivial) d_Ears_init_41 ?_
  refine r_ltH (fun hq20 => ?_)
  refine r_aload_n (pc := 44) (i := 0) d_Ears_init_44 rfl rfl ?_
  refine r_bipush (pc := 45) (v := 100) d_Ears_init_45 (by rfl) ?_
  refine r_newa (pc := 47) (t := 1) (N := 100) (kn1 := (6, 250)) (by decide) rfl wa_1 rfl (Nat.le_of_ble_eq_true rfl) rfl ⟨Nat.le_of_ble_eq_true rfl, Nat.le_of_ble_eq_true rfl⟩ (fun _ => trivial) d_Ears_init_47 ?_
  refine r_ltR (fun cq21 => ?_)
  refine r_ltH (fun hq22 => ?_)
  refine r_gc (fun gq23 => ?_)
  refine r_putRF (pc := 49) (ci := 4) (k := 5) (C := "CricketHay$Ears") (T := F_4) (N := 12) (fun _ => gq23) rfl (Nat.le_of_ble_eq_true rfl) rfl rfl rfl rfl w_322 (fun _ _ => rfl) (fun _ => rfl) (fun _ => rfl) (fun _ => trivial) d_Ears_init_49 ?_
  refine r_ltH (fun hq24 => ?_)
  refine r_aload_n (pc := 52) (i := 0) d_Ears_init_52 rfl rfl ?_
  refine r_sipush (pc := 53) (v := 4100) d_Ears_init_53 (by rfl) ?_
  refine r_newa (pc := 56) (t := 0) (N := 4100) (kn1 := (7, 4350)) (by decide) rfl wa_0 rfl (Nat.le_of_ble_eq_true rfl) rfl ⟨Nat.le_of_ble_eq_true rfl, Nat.le_of_ble_eq_true rfl⟩ (fun _ => trivial) d_Ears_init_56 ?_
  refine r_ltR (fun cq25 => ?_)
  refine r_ltH (fun hq26 => ?_)
  refine r_gc (fun gq27 => ?_)
  refine r_putRF (pc := 58) (ci := 4) (k := 6) (C := "CricketHay$Ears") (T := F_4) (N := 12) (fun _ => gq27) rfl (Nat.le_of_ble_eq_true rfl) rfl rfl rfl rfl w_323 (fun _ _ => rfl) (fun _ => rfl) (fun _ => rfl) (fun _ => trivial) d_Ears_init_58 ?_
  refine r_ltH (fun hq28 => ?_)
  refine r_aload_n (pc := 61) (i := 0) d_Ears_init_61 rfl rfl ?_
  refine r_iconst (pc := 62) (v := -1) d_Ears_init_62 (by rfl) ?_
  refine r_gc (fun gq29 => ?_)
  refine r_putI (pc := 63) (ci := 4) (k := 7) (C := "CricketHay$Ears") (T := F_4) (N := 12) (fun _ => gq29) rfl (Nat.le_of_ble_eq_true rfl) rfl rfl w_324 (fun _ _ => rfl) (fun _ => rfl) (fun _ => rfl) (fun _ => trivial) d_Ears_init_63 ?_
  refine r_ltH (fun hq30 => ?_)
  refine r_aload_n (pc := 66) (i := 0) d_Ears_init_66 rfl rfl ?_
  refine r_iconst (pc := 67) (v := -1) d_Ears_init_67 (by rfl) ?_
  refine r_gc (fun gq31 => ?_)
  refine r_putI (pc := 68) (ci := 4) (k := 8) (C := "CricketHay$Ears") (T := F_4) (N := 12) (fun _ => gq31) rfl (Nat.le_of_ble_eq_true rfl) rfl rfl w_325 (fun _ _ => rfl) (fun _ => rfl) (fun _ => rfl) (fun _ => trivial) d_Ears_init_68 ?_
  refine r_ltH (fun hq32 => ?_)
  refine r_aload_n (pc := 71) (i := 0) d_Ears_init_71 rfl rfl ?_
  refine r_iconst (pc := 72) (v := 0) d_Ears_init_72 (by rfl) ?_
  refine r_gc (fun gq33 => ?_)
  refine r_putI (pc := 73) (ci := 4) (k := 9) (C := "CricketHay$Ears") (T := F_4) (N := 12) (fun _ => gq33) rfl (Nat.le_of_ble_eq_true rfl) rfl rfl w_326 (fun _ _ => rfl) (fun _ => rfl) (fun _ => rfl) (fun _ => trivial) d_Ears_init_73 ?_
  refine r_ltH (fun hq34 => ?_)
  refine r_aload_n (pc := 76) (i := 0) d_Ears_init_76 rfl rfl ?_
  refine r_iconst (pc := 77) (v := 0) d_Ears_init_77 (by rfl) ?_
  refine r_gc (fun gq35 => ?_)
  refine r_putI (pc := 78) (ci := 4) (k := 10) (C := "CricketHay$Ears") (T := F_4) (N := 12) (fun _ => gq35) rfl (Nat.le_of_ble_eq_true rfl) rfl rfl w_327 (fun _ _ => rfl) (fun _ => rfl) (fun _ => rfl) (fun _ => trivial) d_Ears_init_78 ?_
  refine r_ltH (fun hq36 => ?_)
  refine r_aload_n (pc := 81) (i := 0) d_Ears_init_81 rfl rfl ?_
  refine r_iconst (pc := 82) (v := 0) d_Ears_init_82 (by rfl) ?_
  refine r_gc (fun gq37 => ?_)
  refine r_putI (pc := 83) (ci := 4) (k := 11) (C := "CricketHay$Ears") (T := F_4) (N := 12) (fun _ => gq37) rfl (Nat.le_of_ble_eq_true rfl) rfl rfl w_329 (fun _ _ => rfl) (fun _ => rfl) (fun _ => rfl) (fun _ => trivial) d_Ears_init_83 ?_
  refine r_ltH (fun hq38 => ?_)
  exact r_vret (pc := 86) rfl d_Ears_init_86

def f_Mating_init  (t : Nat) (h : AH) : Option AH :=
  lt (hN h) fun cq1 =>
  lt (nC h (.inl (0, 1024))) fun hq2 =>
  gc hq2 t (.inr 8) <|
  lt (sR hq2 t 0 (some cq1)) fun hq4 =>
  gc hq4 t (.inr 8) <|
  lt (sI hq4 t 1 (0 : Int32)) fun hq6 =>
  some hq6
set_option maxHeartbeats 2000000 in
theorem ok_Mating_init {G : AE}  (t : Nat) (h : AH) : Ok G ST y_Mating_init (2) 1 1024 φV [.ref t] h (f_Mating_init t h) := by
  refine ok_of (y := y_Mating_init) (lv0 := [some (.ref t)]) (by decide +kernel) (Nat.le_of_ble_eq_true rfl) ⟨rfl, trivial⟩ ?_
  rw [f_Mating_init]
  refine r_aload_n (pc := 0) (i := 0) d_Mating_init_0 rfl rfl ?_
  refine r_objInit (pc := 1) w_361 w_28 wo_code (Nat.le_of_ble_eq_true rfl) (Nat.le_of_ble_eq_true rfl) d_Mating_init_1 ?_
  refine r_aload_n (pc := 4) (i := 0) d_Mating_init_4 rfl rfl ?_
  refine r_sipush (pc := 5) (v := 1024) d_Mating_init_5 (by rfl) ?_
  refine r_newa (pc := 8) (t := 0) (N := 1024) (kn1 := (1, 1024)) (by decide) rfl wa_0 rfl (Nat.le_of_ble_eq_true rfl) rfl ⟨Nat.le_of_ble_eq_true rfl, Nat.le_of_ble_eq_true rfl⟩ (fun _ => trivial) d_Mating_init_8 ?_
  refine r_ltR (fun cq1 => ?_)
  refine r_ltH (fun hq2 => ?_)
  refine r_gc (fun gq3 => ?_)
  refine r_putRF (pc := 10) (ci := 8) (k := 0) (C := "CricketHay$Mating") (T := F_8) (N := 2) (fun _ => gq3) rfl (Nat.le_of_ble_eq_true rfl) rfl rfl rfl rfl w_362 (fun _ _ => rfl) (fun _ => rfl) (fun _ => rfl) (fun _ => trivial) d_Mating_init_10 ?_
  refine r_ltH (fun hq4 => ?_)
  refine r_aload_n (pc := 13) (i := 0) d_Mating_init_13 rfl rfl ?_
  refine r_iconst (pc := 14) (v := 0) d_Mating_init_14 (by rfl) ?_
  refine r_gc (fun gq5 => ?_)
  refine r_putI (pc := 15) (ci := 8) (k := 1) (C := "CricketHay$Mating") (T := F_8) (N := 2) (fun _ => gq5) rfl (Nat.le_of_ble_eq_true rfl) rfl rfl w_363 (fun _ _ => rfl) (fun _ => rfl) (fun _ => rfl) (fun _ => trivial) d_Mating_init_15 ?_
  refine r_ltH (fun hq6 => ?_)
  exact r_vret (pc := 18) rfl d_Mating_init_18

def f_Clearing_init  (t : Nat) (h : AH) : Option AH :=
  lt (hN h) fun cq1 =>
  lt (nC h (.inl (0, 6))) fun hq2 =>
  gc hq2 t (.inr 3) <|
  lt (sR hq2 t 0 (some cq1)) fun hq4 =>
  lt (hN hq4) fun cq5 =>
  lt (nC hq4 (.inl (0, 6))) fun hq6 =>
  gc hq6 t (.inr 3) <|
  lt (sR hq6 t 1 (some cq5)) fun hq8 =>
  lt (hN hq8) fun cq9 =>
  lt (nC hq8 (.inl (0, 6))) fun hq10 =>
  gc hq10 t (.inr 3) <|
  lt (sR hq10 t 2 (some cq9)) fun hq12 =>
  gc hq12 t (.inr 3) <|
  lt (sI hq12 t 6 (0 : Int32)) fun hq14 =>
  gc hq14 t (.inr 3) <|
  lt (sI hq14 t 7 (0 : Int32)) fun hq16 =>
  some hq16
set_option maxHeartbeats 2000000 in
theorem ok_Clearing_init {G : AE}  (t : Nat) (h : AH) : Ok G ST y_Clearing_init (2) 3 18 φV [.ref t] h (f_Clearing_init t h) := by
  refine ok_of (y := y_Clearing_init) (lv0 := [some (.ref t)]) (by decide +kernel) (Nat.le_of_ble_eq_true rfl) ⟨rfl, trivial⟩ ?_
  rw [f_Clearing_init]
  refine r_aload_n (pc := 0) (i := 0) d_Clearing_init_0 rfl rfl ?_
  refine r_objInit (pc := 1) w_374 w_28 wo_code (Nat.le_of_ble_eq_true rfl) (Nat.le_of_ble_eq_true rfl) d_Clearing_init_1 ?_
  refine r_aload_n (pc := 4) (i := 0) d_Clearing_init_4 rfl rfl ?_
  refine r_bipush (pc := 5) (v := 6) d_Clearing_init_5 (by rfl) ?_
  refine r_newa (pc := 7) (t := 0) (N := 6) (kn1 := (1, 6)) (by decide) rfl wa_0 rfl (Nat.le_of_ble_eq_true rfl) rfl ⟨Nat.le_of_ble_eq_true rfl, Nat.le_of_ble_eq_true rfl⟩ (fun _ => trivial) d_Clearing_init_7 ?_
  refine r_ltR (fun cq1 => ?_)
  refine r_ltH (fun hq2 => ?_)
  refine r_gc (fun gq3 => ?_)
  refine r_putRF (pc := 9) (ci := 3) (k := 0) (C := "CricketHay$Clearing") (T := F_3) (N := 8) (fun _ => gq3) rfl (Nat.le_of_ble_eq_true rfl) rfl rfl rfl rfl w_375 (fun _ _ => rfl) (fun _ => rfl) (fun _ => rfl) (fun _ => trivial) d_Clearing_init_9 ?_
  refine r_ltH (fun hq4 => ?_)
  refine r_aload_n (pc := 12) (i := 0) d_Clearing_init_12 rfl rfl ?_
  refine r_bipush (pc := 13) (v := 6) d_Clearing_init_13 (by rfl) ?_
  refine r_newa (pc := 15) (t := 0) (N := 6) (kn1 := (2, 12)) (by decide) rfl wa_0 rfl (Nat.le_of_ble_eq_true rfl) rfl ⟨Nat.le_of_ble_eq_true rfl, Nat.le_of_ble_eq_true rfl⟩ (fun _ => trivial) d_Clearing_init_15 ?_
  refine r_ltR (fun cq5 => ?_)
  refine r_ltH (fun hq6 => ?_)
  refine r_gc (fun gq7 => ?_)
  refine r_putRF (pc := 17) (ci := 3) (k := 1) (C := "CricketHay$Clearing") (T := F_3) (N := 8) (fun _ => gq7) rfl (Nat.le_of_ble_eq_true rfl) rfl rfl rfl rfl w_376 (fun _ _ => rfl) (fun _ => rfl) (fun _ => rfl) (fun _ => trivial) d_Clearing_init_17 ?_
  refine r_ltH (fun hq8 => ?_)
  refine r_aload_n (pc := 20) (i := 0) d_Clearing_init_20 rfl rfl ?_
  refine r_bipush (pc := 21) (v := 6) d_Clearing_init_21 (by rfl) ?_
  refine r_newa (pc := 23) (t := 0) (N := 6) (kn1 := (3, 18)) (by decide) rfl wa_0 rfl (Nat.le_of_ble_eq_true rfl) rfl ⟨Nat.le_of_ble_eq_true rfl, Nat.le_of_ble_eq_true rfl⟩ (fun _ => trivial) d_Clearing_init_23 ?_
  refine r_ltR (fun cq9 => ?_)
  refine r_ltH (fun hq10 => ?_)
  refine r_gc (fun gq11 => ?_)
  refine r_putRF (pc := 25) (ci := 3) (k := 2) (C := "CricketHay$Clearing") (T := F_3) (N := 8) (fun _ => gq11) rfl (Nat.le_of_ble_eq_true rfl) rfl rfl rfl rfl w_377 (fun _ _ => rfl) (fun _ => rfl) (fun _ => rfl) (fun _ => trivial) d_Clearing_init_25 ?_
  refine r_ltH (fun hq12 => ?_)
  refine r_aload_n (pc := 28) (i := 0) d_Clearing_init_28 rfl rfl ?_
  refine r_iconst (pc := 29) (v := 0) d_Clearing_init_29 (by rfl) ?_
  refine r_gc (fun gq13 => ?_)
  refine r_putI (pc := 30) (ci := 3) (k := 6) (C := "CricketHay$Clearing") (T := F_3) (N := 8) (fun _ => gq13) rfl (Nat.le_of_ble_eq_true rfl) rfl rfl w_382 (fun _ _ => rfl) (fun _ => rfl) (fun _ => rfl) (fun _ => trivial) d_Clearing_init_30 ?_
  refine r_ltH (fun hq14 => ?_)
  refine r_aload_n (pc := 33) (i := 0) d_Clearing_init_33 rfl rfl ?_
  refine r_iconst (pc := 34) (v := 0) d_Clearing_init_34 (by rfl) ?_
  refine r_gc (fun gq15 => ?_)
  refine r_putI (pc := 35) (ci := 3) (k := 7) (C := "CricketHay$Clearing") (T := F_3) (N := 8) (fun _ => gq15) rfl (Nat.le_of_ble_eq_true rfl) rfl rfl w_384 (fun _ _ => rfl) (fun _ => rfl) (fun _ => rfl) (fun _ => trivial) d_Clearing_init_35 ?_
  refine r_ltH (fun hq16 => ?_)
  exact r_vret (pc := 38) rfl d_Clearing_init_38

def f_Lie_init  (t : Nat) (h : AH) : Option AH :=
  lt (hN h) fun cq1 =>
  lt (nC h (.inl (0, 12))) fun hq2 =>
  gc hq2 t (.inr 6) <|
  lt (sR hq2 t 0 (some cq1)) fun hq4 =>
  gc hq4 t (.inr 6) <|
  lt (sI hq4 t 1 (0 : Int32)) fun hq6 =>
  some hq6
set_option maxHeartbeats 2000000 in
theorem ok_Lie_init {G : AE}  (t : Nat) (h : AH) : Ok G ST y_Lie_init (2) 1 12 φV [.ref t] h (f_Lie_init t h) := by
  refine ok_of (y := y_Lie_init) (lv0 := [some (.ref t)]) (by decide +kernel) (Nat.le_of_ble_eq_true rfl) ⟨rfl, trivial⟩ ?_
  rw [f_Lie_init]
  refine r_aload_n (pc := 0) (i := 0) d_Lie_init_0 rfl rfl ?_
  refine r_objInit (pc := 1) w_408 w_28 wo_code (Nat.le_of_ble_eq_true rfl) (Nat.le_of_ble_eq_true rfl) d_Lie_init_1 ?_
  refine r_aload_n (pc := 4) (i := 0) d_Lie_init_4 rfl rfl ?_
  refine r_bipush (pc := 5) (v := 12) d_Lie_init_5 (by rfl) ?_
  refine r_newa (pc := 7) (t := 0) (N := 12) (kn1 := (1, 12)) (by decide) rfl wa_0 rfl (Nat.le_of_ble_eq_true rfl) rfl ⟨Nat.le_of_ble_eq_true rfl, Nat.le_of_ble_eq_true rfl⟩ (fun _ => trivial) d_Lie_init_7 ?_
  refine r_ltR (fun cq1 => ?_)
  refine r_ltH (fun hq2 => ?_)
  refine r_gc (fun gq3 => ?_)
  refine r_putRF (pc := 9) (ci := 6) (k := 0) (C := "CricketHay$Lie") (T := F_6) (N := 2) (fun _ => gq3) rfl (Nat.le_of_ble_eq_true rfl) rfl rfl rfl rfl w_409 (fun _ _ => rfl) (fun _ => rfl) (fun _ => rfl) (fun _ => trivial) d_Lie_init_9 ?_
  refine r_ltH (fun hq4 => ?_)
  refine r_aload_n (pc := 12) (i := 0) d_Lie_init_12 rfl rfl ?_
  refine r_iconst (pc := 13) (v := 0) d_Lie_init_13 (by rfl) ?_
  refine r_gc (fun gq5 => ?_)
  refine r_putI (pc := 14) (ci := 6) (k := 1) (C := "CricketHay$Lie") (T := F_6) (N := 2) (fun _ => gq5) rfl (Nat.le_of_ble_eq_true rfl) rfl rfl w_411 (fun _ _ => rfl) (fun _ => rfl) (fun _ => rfl) (fun _ => trivial) d_Lie_init_14 ?_
  refine r_ltH (fun hq6 => ?_)
  exact r_vret (pc := 17) rfl d_Lie_init_17

def f_H_init  (t : Nat) (h : AH) : Option AH :=
  lt (hN h) fun cq1 =>
  lt (nC h (.inr 9)) fun hq2 =>
  bV (f_Reader_init cq1 hq2) fun hq3 =>
  gc hq3 t (.inr 11) <|
  lt (sR hq3 t 0 (some cq1)) fun hq5 =>
  lt (hN hq5) fun cq6 =>
  lt (nC hq5 (.inr 7)) fun hq7 =>
  bV (f_Market_init cq6 hq7) fun hq8 =>
  gc hq8 t (.inr 11) <|
  lt (sR hq8 t 1 (some cq6)) fun hq10 =>
  lt (hN hq10) fun cq11 =>
  lt (nC hq10 (.inr 7)) fun hq12 =>
  bV (f_Market_init cq11 hq12) fun hq13 =>
  gc hq13 t (.inr 11) <|
  lt (sR hq13 t 2 (some cq11)) fun hq15 =>
  lt (hN hq15) fun cq16 =>
  lt (nC hq15 (.inr 10)) fun hq17 =>
  bV (f_Yard_init cq16 hq17) fun hq18 =>
  gc hq18 t (.inr 11) <|
  lt (sR hq18 t 3 (some cq16)) fun hq20 =>
  lt (hN hq20) fun cq21 =>
  lt (nC hq20 (.inr 10)) fun hq22 =>
  bV (f_Yard_init cq21 hq22) fun hq23 =>
  gc hq23 t (.inr 11) <|
  lt (sR hq23 t 4 (some cq21)) fun hq25 =>
  lt (hN hq25) fun cq26 =>
  lt (nC hq25 (.inr 2)) fun hq27 =>
  bV (f_Choir_init cq26 hq27) fun hq28 =>
  gc hq28 t (.inr 11) <|
  lt (sR hq28 t 5 (some cq26)) fun hq30 =>
  lt (hN hq30) fun cq31 =>
  lt (nC hq30 (.inr 0)) fun hq32 =>
  bV (f_Acts_init cq31 hq32) fun hq33 =>
  gc hq33 t (.inr 11) <|
  lt (sR hq33 t 6 (some cq31)) fun hq35 =>
  lt (hN hq35) fun cq36 =>
  lt (nC hq35 (.inr 1)) fun hq37 =>
  bV (f_Boxes_init cq36 hq37) fun hq38 =>
  gc hq38 t (.inr 11) <|
  lt (sR hq38 t 7 (some cq36)) fun hq40 =>
  lt (hN hq40) fun cq41 =>
  lt (nC hq40 (.inr 4)) fun hq42 =>
  bV (f_Ears_init cq41 hq42) fun hq43 =>
  gc hq43 t (.inr 11) <|
  lt (sR hq43 t 8 (some cq41)) fun hq45 =>
  lt (hN hq45) fun cq46 =>
  lt (nC hq45 (.inr 8)) fun hq47 =>
  bV (f_Mating_init cq46 hq47) fun hq48 =>
  gc hq48 t (.inr 11) <|
  lt (sR hq48 t 9 (some cq46)) fun hq50 =>
  lt (hN hq50) fun cq51 =>
  lt (nC hq50 (.inr 3)) fun hq52 =>
  bV (f_Clearing_init cq51 hq52) fun hq53 =>
  gc hq53 t (.inr 11) <|
  lt (sR hq53 t 10 (some cq51)) fun hq55 =>
  lt (hN hq55) fun cq56 =>
  lt (nC hq55 (.inr 6)) fun hq57 =>
  bV (f_Lie_init cq56 hq57) fun hq58 =>
  gc hq58 t (.inr 11) <|
  lt (sR hq58 t 11 (some cq56)) fun hq60 =>
  lt (hN hq60) fun cq61 =>
  lt (nC hq60 (.inl (0, 25))) fun hq62 =>
  gc hq62 t (.inr 11) <|
  lt (sR hq62 t 12 (some cq61)) fun hq64 =>
  gc hq64 t (.inr 11) <|
  gq hq64 t 3 fun cq66 =>
  gc hq64 t (.inr 11) <|
  gq hq64 t 1 fun cq68 =>
  gp (stdB CM hq64) <|
  ge cq66 37 <|
  ge cq68 3 <|
  bV (f_Yard_open 37 3 hq64) fun hq69 =>
  some hq69
set_option maxHeartbeats 2000000 in
theorem ok_H_init {G : AE}  (t : Nat) (h : AH) : Ok G ST y_H_init (4) 382 11663 φV [.ref t] h (f_H_init t h) := by
  refine ok_of (y := y_H_init) (lv0 := [some (.ref t)]) (by decide +kernel) (Nat.le_of_ble_eq_true rfl) ⟨rfl, trivial⟩ ?_
  rw [f_H_init]
  refine r_aload_n (pc := 0) (i := 0) d_H_init_0 rfl rfl ?_
  refine r_objInit (pc := 1) w_27 w_28 wo_code (Nat.le_of_ble_eq_true rfl) (Nat.le_of_ble_eq_true rfl) d_H_init_1 ?_
  refine r_aload_n (pc := 4) (i := 0) d_H_init_4 rfl rfl ?_
  refine r_new (pc := 5) (ci := 9) (N := 12) (kn1 := (1, 12)) rfl w_30 w_31 w_2 rfl ⟨Nat.le_of_ble_eq_true rfl, Nat.le_of_ble_eq_true rfl⟩ (fun _ => trivial) d_H_init_5 ?_
  refine r_ltR (fun cq1 => ?_)
  refine r_ltH (fun hq2 => ?_)
  refine r_dup (pc := 8) d_H_init_8 rfl ?_
  refine r_kIN (pc := 9) (kn1 := (2, 1612)) (st := [.ref cq1, .ref t]) (ok_Reader_init cq1 hq2) w_34 w_2 (host := "CricketHay") (by decide +kernel) w_33 rfl rfl hy_Reader_init ⟨Nat.le_of_ble_eq_true rfl, Nat.le_of_ble_eq_true rfl⟩ ⟨Nat.le_of_ble_eq_true rfl, Nat.le_of_ble_eq_true rfl⟩ rfl rfl (Nat.le_of_ble_eq_true rfl) d_H_init_9 (fun hq3 => ?_)
  refine r_gc (fun gq4 => ?_)
  refine r_putRF (pc := 12) (ci := 11) (k := 0) (C := "CricketHay") (T := F_11) (N := 13) (fun _ => gq4) rfl (Nat.le_of_ble_eq_true rfl) rfl rfl rfl rfl w_422 (fun _ _ => rfl) (fun _ => rfl) (fun _ => rfl) (fun _ => trivial) d_H_init_12 ?_
  refine r_ltH (fun hq5 => ?_)
  refine r_aload_n (pc := 15) (i := 0) d_H_init_15 rfl rfl ?_
  refine r_new (pc := 16) (ci := 7) (N := 16) (kn1 := (3, 1628)) rfl w_77 w_78 w_3 rfl ⟨Nat.le_of_ble_eq_true rfl, Nat.le_of_ble_eq_true rfl⟩ (fun _ => trivial) d_H_init_16 ?_
  refine r_ltR (fun cq6 => ?_)
  refine r_ltH (fun hq7 => ?_)
  refine r_dup (pc := 19) d_H_init_19 rfl ?_
  refine r_kI (pc := 20) (kn1 := (19, 2823)) (st := [.ref cq6, .ref t]) (ok_Market_init cq6 hq7) w_81 w_3 w_79 w_80 rfl rfl hy_Market_init ⟨Nat.le_of_ble_eq_true rfl, Nat.le_of_ble_eq_true rfl⟩ ⟨Nat.le_of_ble_eq_true rfl, Nat.le_of_ble_eq_true rfl⟩ rfl rfl (Nat.le_of_ble_eq_true rfl) d_H_init_20 (fun hq8 => ?_)
  refine r_gc (fun gq9 => ?_)
  refine r_putR (pc := 23) (ci := 11) (k := 1) (C := "CricketHay") (T := F_11) (N := 13) (fun _ => gq9) rfl (Nat.le_of_ble_eq_true rfl) rfl rfl w_423 (fun _ _ => rfl) (fun _ => rfl) (fun _ => rfl) (fun _ => trivial) d_H_init_23 ?_
  refine r_ltH (fun hq10 => ?_)
  refine r_aload_n (pc := 26) (i := 0) d_H_init_26 rfl rfl ?_
  refine r_new (pc := 27) (ci := 7) (N := 16) (kn1 := (20, 2839)) rfl w_77 w_78 w_3 rfl ⟨Nat.le_of_ble_eq_true rfl, Nat.le_of_ble_eq_true rfl⟩ (fun _ => trivial) d_H_init_27 ?_
  refine r_ltR (fun cq11 => ?_)
  refine r_ltH (fun hq12 => ?_)
  refine r_dup (pc := 30) d_H_init_30 rfl ?_
  refine r_kI (pc := 31) (kn1 := (36, 4034)) (st := [.ref cq11, .ref t]) (ok_Market_init cq11 hq12) w_81 w_3 w_79 w_80 rfl rfl hy_Market_init ⟨Nat.le_of_ble_eq_true rfl, Nat.le_of_ble_eq_true rfl⟩ ⟨Nat.le_of_ble_eq_true rfl, Nat.le_of_ble_eq_true rfl⟩ rfl rfl (Nat.le_of_ble_eq_true rfl) d_H_init_31 (fun hq13 => ?_)
  refine r_gc (fun gq14 => ?_)
  refine r_putR (pc := 34) (ci := 11) (k := 2) (C := "CricketHay") (T := F_11) (N := 13) (fun _ => gq14) rfl (Nat.le_of_ble_eq_true rfl) rfl rfl w_424 (fun _ _ => rfl) (fun _ => rfl) (fun _ => rfl) (fun _ => trivial) d_H_init_34 ?_
  refine r_ltH (fun hq15 => ?_)
  refine r_aload_n (pc := 37) (i := 0) d_H_init_37 rfl rfl ?_
  refine r_new (pc := 38) (ci := 10) (N := 10) (kn1 := (37, 4044)) rfl w_204 w_205 w_5 rfl ⟨Nat.le_of_ble_eq_true rfl, Nat.le_of_ble_eq_true rfl⟩ (fun _ => trivial) d_H_init_38 ?_
  refine r_ltR (fun cq16 => ?_)
  refine r_ltH (fun hq17 => ?_)
  refine r_dup (pc := 41) d_H_init_41 rfl ?_
  refine r_kIN (pc := 42) (kn1 := (43, 4080)) (st := [.ref cq16, .ref t]) (ok_Yard_init cq16 hq17) w_208 w_5 (host := "CricketHay") (by decide +kernel) w_207 rfl rfl hy_Yard_init ⟨Nat.le_of_ble_eq_true rfl, Nat.le_of_ble_eq_true rfl⟩ ⟨Nat.le_of_ble_eq_true rfl, Nat.le_of_ble_eq_true rfl⟩ rfl rfl (Nat.le_of_ble_eq_true rfl) d_H_init_42 (fun hq18 => ?_)
  refine r_gc (fun gq19 => ?_)
  refine r_putRF (pc := 45) (ci := 11) (k := 3) (C := "CricketHay") (T := F_11) (N := 13) (fun _ => gq19) rfl (Nat.le_of_ble_eq_true rfl) rfl rfl rfl rfl w_425 (fun _ _ => rfl) (fun _ => rfl) (fun _ => rfl) (fun _ => trivial) d_H_init_45 ?_
  refine r_ltH (fun hq20 => ?_)
  refine r_aload_n (pc := 48) (i := 0) d_H_init_48 rfl rfl ?_
  refine r_new (pc := 49) (ci := 10) (N := 10) (kn1 := (44, 4090)) rfl w_204 w_205 w_5 rfl ⟨Nat.le_of_ble_eq_true rfl, Nat.le_of_ble_eq_true rfl⟩ (fun _ => trivial) d_H_init_49 ?_
  refine r_ltR (fun cq21 => ?_)
  refine r_ltH (fun hq22 => ?_)
  refine r_dup (pc := 52) d_H_init_52 rfl ?_
  refine r_kIN (pc := 53) (kn1 := (50, 4126)) (st := [.ref cq21, .ref t]) (ok_Yard_init cq21 hq22) w_208 w_5 (host := "CricketHay") (by decide +kernel) w_207 rfl rfl hy_Yard_init ⟨Nat.le_of_ble_eq_true rfl, Nat.le_of_ble_eq_true rfl⟩ ⟨Nat.le_of_ble_eq_true rfl, Nat.le_of_ble_eq_true rfl⟩ rfl rfl (Nat.le_of_ble_eq_true rfl) d_H_init_53 (fun hq23 => ?_)
  refine r_gc (fun gq24 => ?_)
  refine r_putRF (pc := 56) (ci := 11) (k := 4) (C := "CricketHay") (T := F_11) (N := 13) (fun _ => gq24) rfl (Nat.le_of_ble_eq_true rfl) rfl rfl rfl rfl w_426 (fun _ _ => rfl) (fun _ => rfl) (fun _ => rfl) (fun _ => trivial) d_H_init_56 ?_
  refine r_ltH (fun hq25 => ?_)
  refine r_aload_n (pc := 59) (i := 0) d_H_init_59 rfl rfl ?_
  refine r_new (pc := 60) (ci := 2) (N := 2) (kn1 := (51, 4128)) rfl w_260 w_261 w_6 rfl ⟨Nat.le_of_ble_eq_true rfl, Nat.le_of_ble_eq_true rfl⟩ (fun _ => trivial) d_H_init_60 ?_
  refine r_ltR (fun cq26 => ?_)
  refine r_ltH (fun hq27 => ?_)
  refine r_dup (pc := 63) d_H_init_63 rfl ?_
  refine r_kIN (pc := 64) (kn1 := (52, 4134)) (st := [.ref cq26, .ref t]) (ok_Choir_init cq26 hq27) w_264 w_6 (host := "CricketHay") (by decide +kernel) w_263 rfl rfl hy_Choir_init ⟨Nat.le_of_ble_eq_true rfl, Nat.le_of_ble_eq_true rfl⟩ ⟨Nat.le_of_ble_eq_true rfl, Nat.le_of_ble_eq_true rfl⟩ rfl rfl (Nat.le_of_ble_eq_true rfl) d_H_init_64 (fun hq28 => ?_)
  refine r_gc (fun gq29 => ?_)
  refine r_putRF (pc := 67) (ci := 11) (k := 5) (C := "CricketHay") (T := F_11) (N := 13) (fun _ => gq29) rfl (Nat.le_of_ble_eq_true rfl) rfl rfl rfl rfl w_427 (fun _ _ => rfl) (fun _ => rfl) (fun _ => rfl) (fun _ => trivial) d_H_init_67 ?_
  refine r_ltH (fun hq30 => ?_)
  refine r_aload_n (pc := 70) (i := 0) d_H_init_70 rfl rfl ?_
  refine r_new (pc := 71) (ci := 0) (N := 3) (kn1 := (53, 4137)) rfl w_274 w_275 w_7 rfl ⟨Nat.le_of_ble_eq_true rfl, Nat.le_of_ble_eq_true rfl⟩ (fun _ => trivial) d_H_init_71 ?_
  refine r_ltR (fun cq31 => ?_)
  refine r_ltH (fun hq32 => ?_)
  refine r_dup (pc := 74) d_H_init_74 rfl ?_
  refine r_kI (pc := 75) (kn1 := (341, 6064)) (st := [.ref cq31, .ref t]) (ok_Acts_init cq31 hq32) w_278 w_7 w_276 w_277 rfl rfl hy_Acts_init ⟨Nat.le_of_ble_eq_true rfl, Nat.le_of_ble_eq_true rfl⟩ ⟨Nat.le_of_ble_eq_true rfl, Nat.le_of_ble_eq_true rfl⟩ rfl rfl (Nat.le_of_ble_eq_true rfl) d_H_init_75 (fun hq33 => ?_)
  refine r_gc (fun gq34 => ?_)
  refine r_putRF (pc := 78) (ci := 11) (k := 6) (C := "CricketHay") (T := F_11) (N := 13) (fun _ => gq34) rfl (Nat.le_of_ble_eq_true rfl) rfl rfl rfl rfl w_428 (fun _ _ => rfl) (fun _ => rfl) (fun _ => rfl) (fun _ => trivial) d_H_init_78 ?_
  refine r_ltH (fun hq35 => ?_)
  refine r_aload_n (pc := 81) (i := 0) d_H_init_81 rfl rfl ?_
  refine r_new (pc := 82) (ci := 1) (N := 2) (kn1 := (342, 6066)) rfl w_295 w_296 w_8 rfl ⟨Nat.le_of_ble_eq_true rfl, Nat.le_of_ble_eq_true rfl⟩ (fun _ => trivial) d_H_init_82 ?_
  refine r_ltR (fun cq36 => ?_)
  refine r_ltH (fun hq37 => ?_)
  refine r_dup (pc := 85) d_H_init_85 rfl ?_
  refine r_kI (pc := 86) (kn1 := (365, 6210)) (st := [.ref cq36, .ref t]) (ok_Boxes_init cq36 hq37) w_299 w_8 w_297 w_298 rfl rfl hy_Boxes_init ⟨Nat.le_of_ble_eq_true rfl, Nat.le_of_ble_eq_true rfl⟩ ⟨Nat.le_of_ble_eq_true rfl, Nat.le_of_ble_eq_true rfl⟩ rfl rfl (Nat.le_of_ble_eq_true rfl) d_H_init_86 (fun hq38 => ?_)
  refine r_gc (fun gq39 => ?_)
  refine r_putRF (pc := 89) (ci := 11) (k := 7) (C := "CricketHay") (T := F_11) (N := 13) (fun _ => gq39) rfl (Nat.le_of_ble_eq_true rfl) rfl rfl rfl rfl w_429 (fun _ _ => rfl) (fun _ => rfl) (fun _ => rfl) (fun _ => trivial) d_H_init_89 ?_
  refine r_ltH (fun hq40 => ?_)
  refine r_aload_n (pc := 92) (i := 0) d_H_init_92 rfl rfl ?_
  refine r_new (pc := 93) (ci := 4) (N := 12) (kn1 := (366, 6222)) rfl w_311 w_312 w_9 rfl ⟨Nat.le_of_ble_eq_true rfl, Nat.le_of_ble_eq_true rfl⟩ (fun _ => trivial) d_H_init_93 ?_
  refine r_ltR (fun cq41 => ?_)
  refine r_ltH (fun hq42 => ?_)
  refine r_dup (pc := 96) d_H_init_96 rfl ?_
  refine r_kIN (pc := 97) (kn1 := (373, 10572)) (st := [.ref cq41, .ref t]) (ok_Ears_init cq41 hq42) w_315 w_9 (host := "CricketHay") (by decide +kernel) w_314 rfl rfl hy_Ears_init ⟨Nat.le_of_ble_eq_true rfl, Nat.le_of_ble_eq_true rfl⟩ ⟨Nat.le_of_ble_eq_true rfl, Nat.le_of_ble_eq_true rfl⟩ rfl rfl (Nat.le_of_ble_eq_true rfl) d_H_init_97 (fun hq43 => ?_)
  refine r_gc (fun gq44 => ?_)
  refine r_putRF (pc := 100) (ci := 11) (k := 8) (C := "CricketHay") (T := F_11) (N := 13) (fun _ => gq44) rfl (Nat.le_of_ble_eq_true rfl) rfl rfl rfl rfl w_430 (fun _ _ => rfl) (fun _ => rfl) (fun _ => rfl) (fun _ => trivial) d_H_init_100 ?_
  refine r_ltH (fun hq45 => ?_)
  refine r_aload_n (pc := 103) (i := 0) d_H_init_103 rfl rfl ?_
  refine r_new (pc := 104) (ci := 8) (N := 2) (kn1 := (374, 10574)) rfl w_356 w_357 w_10 rfl ⟨Nat.le_of_ble_eq_true rfl, Nat.le_of_ble_eq_true rfl⟩ (fun _ => trivial) d_H_init_104 ?_
  refine r_ltR (fun cq46 => ?_)
  refine r_ltH (fun hq47 => ?_)
  refine r_dup (pc := 107) d_H_init_107 rfl ?_
  refine r_kIN (pc := 108) (kn1 := (375, 11598)) (st := [.ref cq46, .ref t]) (ok_Mating_init cq46 hq47) w_360 w_10 (host := "CricketHay") (by decide +kernel) w_359 rfl rfl hy_Mating_init ⟨Nat.le_of_ble_eq_true rfl, Nat.le_of_ble_eq_true rfl⟩ ⟨Nat.le_of_ble_eq_true rfl, Nat.le_of_ble_eq_true rfl⟩ rfl rfl (Nat.le_of_ble_eq_true rfl) d_H_init_108 (fun hq48 => ?_)
  refine r_gc (fun gq49 => ?_)
  refine r_putRF (pc := 111) (ci := 11) (k := 9) (C := "CricketHay") (T := F_11) (N := 13) (fun _ => gq49) rfl (Nat.le_of_ble_eq_true rfl) rfl rfl rfl rfl w_431 (fun _ _ => rfl) (fun _ => rfl) (fun _ => rfl) (fun _ => trivial) d_H_init_111 ?_
  refine r_ltH (fun hq50 => ?_)
  refine r_aload_n (pc := 114) (i := 0) d_H_init_114 rfl rfl ?_
  refine r_new (pc := 115) (ci := 3) (N := 8) (kn1 := (376, 11606)) rfl w_369 w_370 w_11 rfl ⟨Nat.le_of_ble_eq_true rfl, Nat.le_of_ble_eq_true rfl⟩ (fun _ => trivial) d_H_init_115 ?_
  refine r_ltR (fun cq51 => ?_)
  refine r_ltH (fun hq52 => ?_)
  refine r_dup (pc := 118) d_H_init_118 rfl ?_
  refine r_kIN (pc := 119) (kn1 := (379, 11624)) (st := [.ref cq51, .ref t]) (ok_Clearing_init cq51 hq52) w_373 w_11 (host := "CricketHay") (by decide +kernel) w_372 rfl rfl hy_Clearing_init ⟨Nat.le_of_ble_eq_true rfl, Nat.le_of_ble_eq_true rfl⟩ ⟨Nat.le_of_ble_eq_true rfl, Nat.le_of_ble_eq_true rfl⟩ rfl rfl (Nat.le_of_ble_eq_true rfl) d_H_init_119 (fun hq53 => ?_)
  refine r_gc (fun gq54 => ?_)
  refine r_putRF (pc := 122) (ci := 11) (k := 10) (C := "CricketHay") (T := F_11) (N := 13) (fun _ => gq54) rfl (Nat.le_of_ble_eq_true rfl) rfl rfl rfl rfl w_432 (fun _ _ => rfl) (fun _ => rfl) (fun _ => rfl) (fun _ => trivial) d_H_init_122 ?_
  refine r_ltH (fun hq55 => ?_)
  refine r_aload_n (pc := 125) (i := 0) d_H_init_125 rfl rfl ?_
  refine r_new (pc := 126) (ci := 6) (N := 2) (kn1 := (380, 11626)) rfl w_403 w_404 w_12 rfl ⟨Nat.le_of_ble_eq_true rfl, Nat.le_of_ble_eq_true rfl⟩ (fun _ => trivial) d_H_init_126 ?_
  refine r_ltR (fun cq56 => ?_)
  refine r_ltH (fun hq57 => ?_)
  refine r_dup (pc := 129) d_H_init_129 rfl ?_
  refine r_kIN (pc := 130) (kn1 := (381, 11638)) (st := [.ref cq56, .ref t]) (ok_Lie_init cq56 hq57) w_407 w_12 (host := "CricketHay") (by decide +kernel) w_406 rfl rfl hy_Lie_init ⟨Nat.le_of_ble_eq_true rfl, Nat.le_of_ble_eq_true rfl⟩ ⟨Nat.le_of_ble_eq_true rfl, Nat.le_of_ble_eq_true rfl⟩ rfl rfl (Nat.le_of_ble_eq_true rfl) d_H_init_130 (fun hq58 => ?_)
  refine r_gc (fun gq59 => ?_)
  refine r_putRF (pc := 133) (ci := 11) (k := 11) (C := "CricketHay") (T := F_11) (N := 13) (fun _ => gq59) rfl (Nat.le_of_ble_eq_true rfl) rfl rfl rfl rfl w_433 (fun _ _ => rfl) (fun _ => rfl) (fun _ => rfl) (fun _ => trivial) d_H_init_133 ?_
  refine r_ltH (fun hq60 => ?_)
  refine r_aload_n (pc := 136) (i := 0) d_H_init_136 rfl rfl ?_
  refine r_bipush (pc := 137) (v := 25) d_H_init_137 (by rfl) ?_
  refine r_newa (pc := 139) (t := 0) (N := 25) (kn1 := (382, 11663)) (by decide) rfl wa_0 rfl (Nat.le_of_ble_eq_true rfl) rfl ⟨Nat.le_of_ble_eq_true rfl, Nat.le_of_ble_eq_true rfl⟩ (fun _ => trivial) d_H_init_139 ?_
  refine r_ltR (fun cq61 => ?_)
  refine r_ltH (fun hq62 => ?_)
  refine r_gc (fun gq63 => ?_)
  refine r_putRF (pc := 141) (ci := 11) (k := 12) (C := "CricketHay") (T := F_11) (N := 13) (fun _ => gq63) rfl (Nat.le_of_ble_eq_true rfl) rfl rfl rfl rfl w_434 (fun _ _ => rfl) (fun _ => rfl) (fun _ => rfl) (fun _ => trivial) d_H_init_141 ?_
  refine r_ltH (fun hq64 => ?_)
  refine r_aload_n (pc := 144) (i := 0) d_H_init_144 rfl rfl ?_
  refine r_gc (fun gq65 => ?_)
  refine r_gq (fun cq66 rcq66 => ?_)
  refine r_getf (pc := 145) (ci := 11) (k := 3) (C := "CricketHay") (T := F_11) (N := 13) (v := .ref cq66) (fun _ => gq65) rfl (Nat.le_of_ble_eq_true rfl) rfl w_425 (fun _ => vr rfl rcq66) d_H_init_145 ?_
  refine r_aload_n (pc := 148) (i := 0) d_H_init_148 rfl rfl ?_
  refine r_gc (fun gq67 => ?_)
  refine r_gq (fun cq68 rcq68 => ?_)
  refine r_getf (pc := 149) (ci := 11) (k := 1) (C := "CricketHay") (T := F_11) (N := 13) (v := .ref cq68) (fun _ => gq67) rfl (Nat.le_of_ble_eq_true rfl) rfl w_423 (fun _ => vr rfl rcq68) d_H_init_149 ?_
  refine r_gp (fun gq70 => ?_)
  refine r_ge (fun gq71 => ?_)
  subst gq71
  refine r_ge (fun gq72 => ?_)
  subst gq72
  refine r_callVv (pc := 152) (S2 := Std CM) (T := F_10) (N := 10) (st := []) (ok_Yard_open (Nat.le_refl CM) 37 kq_37 3 kq_3 hq64) (fun _ => Std.k (stdB_ok gq70) (lc (Nat.le_refl CM) rfl) kq_37) rfl w_421 w_5 w_418 w_419 w_420 hy_Yard_open ⟨Nat.le_of_ble_eq_true rfl, Nat.le_of_ble_eq_true rfl⟩ ⟨Nat.le_of_ble_eq_true rfl, Nat.le_of_ble_eq_true rfl⟩ rfl (Nat.le_of_ble_eq_true rfl) d_H_init_152 (fun _ => stdB_ok gq70) (fun _ _ _ => trivial) (fun hq69 _ => ?_)
  exact r_vret (pc := 155) rfl d_H_init_155

def f_M_init  (t : Nat) (h : AH) : Option AH :=
  lt (hN h) fun cq1 =>
  lt (nC h (.inl (0, 1600))) fun hq2 =>
  gc hq2 t (.inr 12) <|
  lt (sR hq2 t 0 (some cq1)) fun hq4 =>
  gc hq4 t (.inr 12) <|
  lt (sI hq4 t 3 (-1 : Int32)) fun hq6 =>
  lt (hN hq6) fun cq7 =>
  lt (nC hq6 (.inl (2, 9))) fun hq8 =>
  gc hq8 t (.inr 12) <|
  lt (sR hq8 t 10 (some cq7)) fun hq10 =>
  lt (hN hq10) fun cq11 =>
  lt (nC hq10 (.inl (0, 640))) fun hq12 =>
  gc hq12 t (.inr 12) <|
  lt (sR hq12 t 11 (some cq11)) fun hq14 =>
  lt (hN hq14) fun cq15 =>
  lt (nC hq14 (.inl (0, 640))) fun hq16 =>
  gc hq16 t (.inr 12) <|
  lt (sR hq16 t 12 (some cq15)) fun hq18 =>
  lt (hN hq18) fun cq19 =>
  lt (nC hq18 (.inl (0, 2))) fun hq20 =>
  gc hq20 t (.inr 12) <|
  lt (sR hq20 t 13 (some cq19)) fun hq22 =>
  lt (hN hq22) fun cq23 =>
  lt (nC hq22 (.inl (0, 640))) fun hq24 =>
  gc hq24 t (.inr 12) <|
  lt (sR hq24 t 14 (some cq23)) fun hq26 =>
  lt (hN hq26) fun cq27 =>
  lt (nC hq26 (.inl (0, 640))) fun hq28 =>
  gc hq28 t (.inr 12) <|
  lt (sR hq28 t 15 (some cq27)) fun hq30 =>
  lt (hN hq30) fun cq31 =>
  lt (nC hq30 (.inl (0, 2))) fun hq32 =>
  gc hq32 t (.inr 12) <|
  lt (sR hq32 t 16 (some cq31)) fun hq34 =>
  lt (hN hq34) fun cq35 =>
  lt (nC hq34 (.inl (0, 160))) fun hq36 =>
  gc hq36 t (.inr 12) <|
  lt (sR hq36 t 17 (some cq35)) fun hq38 =>
  lt (hN hq38) fun cq39 =>
  lt (nC hq38 (.inl (0, 64))) fun hq40 =>
  gc hq40 t (.inr 12) <|
  lt (sR hq40 t 18 (some cq39)) fun hq42 =>
  lt (hN hq42) fun cq43 =>
  lt (nC hq42 (.inl (1, 2))) fun hq44 =>
  gc hq44 t (.inr 12) <|
  lt (sR hq44 t 19 (some cq43)) fun hq46 =>
  lt (hN hq46) fun cq47 =>
  lt (nC hq46 (.inl (0, 6))) fun hq48 =>
  gc hq48 t (.inr 12) <|
  lt (sR hq48 t 26 (some cq47)) fun hq50 =>
  lt (hN hq50) fun cq51 =>
  lt (nC hq50 (.inl (0, 6))) fun hq52 =>
  gc hq52 t (.inr 12) <|
  lt (sR hq52 t 27 (some cq51)) fun hq54 =>
  lt (hN hq54) fun cq55 =>
  lt (nC hq54 (.inl (0, 6))) fun hq56 =>
  gc hq56 t (.inr 12) <|
  lt (sR hq56 t 28 (some cq55)) fun hq58 =>
  lt (hN hq58) fun cq59 =>
  lt (nC hq58 (.inl (0, 6))) fun hq60 =>
  gc hq60 t (.inr 12) <|
  lt (sR hq60 t 29 (some cq59)) fun hq62 =>
  lt (hN hq62) fun cq63 =>
  lt (nC hq62 (.inl (0, 6))) fun hq64 =>
  gc hq64 t (.inr 12) <|
  lt (sR hq64 t 30 (some cq63)) fun hq66 =>
  lt (hN hq66) fun cq67 =>
  lt (nC hq66 (.inl (0, 6))) fun hq68 =>
  gc hq68 t (.inr 12) <|
  lt (sR hq68 t 31 (some cq67)) fun hq70 =>
  lt (hN hq70) fun cq71 =>
  lt (nC hq70 (.inl (0, 6))) fun hq72 =>
  gc hq72 t (.inr 12) <|
  lt (sR hq72 t 32 (some cq71)) fun hq74 =>
  lt (hN hq74) fun cq75 =>
  lt (nC hq74 (.inl (0, 6))) fun hq76 =>
  gc hq76 t (.inr 12) <|
  lt (sR hq76 t 33 (some cq75)) fun hq78 =>
  lt (hN hq78) fun cq79 =>
  lt (nC hq78 (.inl (0, 6))) fun hq80 =>
  gc hq80 t (.inr 12) <|
  lt (sR hq80 t 34 (some cq79)) fun hq82 =>
  lt (hN hq82) fun cq83 =>
  lt (nC hq82 (.inl (0, 6))) fun hq84 =>
  gc hq84 t (.inr 12) <|
  lt (sR hq84 t 35 (some cq83)) fun hq86 =>
  gc hq86 t (.inr 12) <|
  lt (sI hq86 t 45 (1 : Int32)) fun hq88 =>
  gc hq88 t (.inr 12) <|
  lt (sI hq88 t 46 (3 : Int32)) fun hq90 =>
  lt (hN hq90) fun cq91 =>
  lt (nC hq90 (.inl (0, 35))) fun hq92 =>
  gc hq92 t (.inr 12) <|
  lt (sR hq92 t 50 (some cq91)) fun hq94 =>
  lt (hN hq94) fun cq95 =>
  lt (nC hq94 (.inl (0, 35))) fun hq96 =>
  gc hq96 t (.inr 12) <|
  lt (sR hq96 t 51 (some cq95)) fun hq98 =>
  lt (hN hq98) fun cq99 =>
  lt (nC hq98 (.inl (0, 1400))) fun hq100 =>
  gc hq100 t (.inr 12) <|
  lt (sR hq100 t 52 (some cq99)) fun hq102 =>
  lt (hN hq102) fun cq103 =>
  lt (nC hq102 (.inl (0, 12))) fun hq104 =>
  gc hq104 t (.inr 12) <|
  lt (sR hq104 t 55 (some cq103)) fun hq106 =>
  lt (hN hq106) fun cq107 =>
  lt (nC hq106 (.inl (0, 12))) fun hq108 =>
  gc hq108 t (.inr 12) <|
  lt (sR hq108 t 56 (some cq107)) fun hq110 =>
  lt (hN hq110) fun cq111 =>
  lt (nC hq110 (.inl (0, 6))) fun hq112 =>
  gc hq112 t (.inr 12) <|
  lt (sR hq112 t 58 (some cq111)) fun hq114 =>
  lt (hN hq114) fun cq115 =>
  lt (nC hq114 (.inl (0, 6))) fun hq116 =>
  gc hq116 t (.inr 12) <|
  lt (sR hq116 t 59 (some cq115)) fun hq118 =>
  lt (hN hq118) fun cq119 =>
  lt (nC hq118 (.inl (0, 1024))) fun hq120 =>
  gc hq120 t (.inr 12) <|
  lt (sR hq120 t 62 (some cq119)) fun hq122 =>
  lt (hN hq122) fun cq123 =>
  lt (nC hq122 (.inl (0, 30))) fun hq124 =>
  gc hq124 t (.inr 12) <|
  lt (sR hq124 t 63 (some cq123)) fun hq126 =>
  lt (hN hq126) fun cq127 =>
  lt (nC hq126 (.inl (0, 30))) fun hq128 =>
  gc hq128 t (.inr 12) <|
  lt (sR hq128 t 64 (some cq127)) fun hq130 =>
  lt (hN hq130) fun cq131 =>
  lt (nC hq130 (.inl (0, 30))) fun hq132 =>
  gc hq132 t (.inr 12) <|
  lt (sR hq132 t 65 (some cq131)) fun hq134 =>
  lt (hN hq134) fun cq135 =>
  lt (nC hq134 (.inl (0, 30))) fun hq136 =>
  gc hq136 t (.inr 12) <|
  lt (sR hq136 t 66 (some cq135)) fun hq138 =>
  lt (hN hq138) fun cq139 =>
  lt (nC hq138 (.inl (1, 30))) fun hq140 =>
  gc hq140 t (.inr 12) <|
  lt (sR hq140 t 67 (some cq139)) fun hq142 =>
  lt (hN hq142) fun cq143 =>
  lt (nC hq142 (.inl (1, 100))) fun hq144 =>
  gc hq144 t (.inr 12) <|
  lt (sR hq144 t 70 (some cq143)) fun hq146 =>
  lt (hN hq146) fun cq147 =>
  lt (nC hq146 (.inl (1, 3))) fun hq148 =>
  gc hq148 t (.inr 12) <|
  lt (sR hq148 t 71 (some cq147)) fun hq150 =>
  lt (hN hq150) fun cq151 =>
  lt (nC hq150 (.inl (0, 105))) fun hq152 =>
  gc hq152 t (.inr 12) <|
  lt (sR hq152 t 72 (some cq151)) fun hq154 =>
  some hq154
set_option maxHeartbeats 2000000 in
theorem ok_M_init {G : AE}  (t : Nat) (h : AH) : Ok G ST y_M_init (2) 37 7347 φV [.ref t] h (f_M_init t h) := by
  refine ok_of (y := y_M_init) (lv0 := [some (.ref t)]) (by decide +kernel) (Nat.le_of_ble_eq_true rfl) ⟨rfl, trivial⟩ ?_
  rw [f_M_init]
  refine r_aload_n (pc := 0) (i := 0) d_M_init_0 rfl rfl ?_
  refine r_objInit (pc := 1) w_1085 w_28 wo_code (Nat.le_of_ble_eq_true rfl) (Nat.le_of_ble_eq_true rfl) d_M_init_1 ?_
  refine r_aload_n (pc := 4) (i := 0) d_M_init_4 rfl rfl ?_
  refine r_sipush (pc := 5) (v := 1600) d_M_init_5 (by rfl) ?_
  refine r_newa (pc := 8) (t := 0) (N := 1600) (kn1 := (1, 1600)) (by decide) rfl wa_0 rfl (Nat.le_of_ble_eq_true rfl) rfl ⟨Nat.le_of_ble_eq_true rfl, Nat.le_of_ble_eq_true rfl⟩ (fun _ => trivial) d_M_init_8 ?_
  refine r_ltR (fun cq1 => ?_)
  refine r_ltH (fun hq2 => ?_)
  refine r_gc (fun gq3 => ?_)
  refine r_putRF (pc := 10) (ci := 12) (k := 0) (C := "CricketHayModel") (T := F_12) (N := 73) (fun _ => gq3) rfl (Nat.le_of_ble_eq_true rfl) rfl rfl rfl rfl w_1086 (fun _ _ => rfl) (fun _ => rfl) (fun _ => rfl) (fun _ => trivial) d_M_init_10 ?_
  refine r_ltH (fun hq4 => ?_)
  refine r_aload_n (pc := 13) (i := 0) d_M_init_13 rfl rfl ?_
  refine r_iconst (pc := 14) (v := -1) d_M_init_14 (by rfl) ?_
  refine r_gc (fun gq5 => ?_)
  refine r_putI (pc := 15) (ci := 12) (k := 3) (C := "CricketHayModel") (T := F_12) (N := 73) (fun _ => gq5) rfl (Nat.le_of_ble_eq_true rfl) rfl rfl w_1089 (fun _ _ => rfl) (fun _ => rfl) (fun _ => rfl) (fun _ => trivial) d_M_init_15 ?_
  refine r_ltH (fun hq6 => ?_)
  refine r_aload_n (pc := 18) (i := 0) d_M_init_18 rfl rfl ?_
  refine r_bipush (pc := 19) (v := 9) d_M_init_19 (by rfl) ?_
  refine r_newa (pc := 21) (t := 2) (N := 9) (kn1 := (2, 1609)) (by decide) rfl wa_2 rfl (Nat.le_of_ble_eq_true rfl) rfl ⟨Nat.le_of_ble_eq_true rfl, Nat.le_of_ble_eq_true rfl⟩ (fun _ => trivial) d_M_init_21 ?_
  refine r_ltR (fun cq7 => ?_)
  refine r_ltH (fun hq8 => ?_)
  refine r_gc (fun gq9 => ?_)
  refine r_putRF (pc := 23) (ci := 12) (k := 10) (C := "CricketHayModel") (T := F_12) (N := 73) (fun _ => gq9) rfl (Nat.le_of_ble_eq_true rfl) rfl rfl rfl rfl w_1096 (fun _ _ => rfl) (fun _ => rfl) (fun _ => rfl) (fun _ => trivial) d_M_init_23 ?_
  refine r_ltH (fun hq10 => ?_)
  refine r_aload_n (pc := 26) (i := 0) d_M_init_26 rfl rfl ?_
  refine r_sipush (pc := 27) (v := 640) d_M_init_27 (by rfl) ?_
  refine r_newa (pc := 30) (t := 0) (N := 640) (kn1 := (3, 2249)) (by decide) rfl wa_0 rfl (Nat.le_of_ble_eq_true rfl) rfl ⟨Nat.le_of_ble_eq_true rfl, Nat.le_of_ble_eq_true rfl⟩ (fun _ => trivial) d_M_init_30 ?_
  refine r_ltR (fun cq11 => ?_)
  refine r_ltH (fun hq12 => ?_)
  refine r_gc (fun gq13 => ?_)
  refine r_putRF (pc := 32) (ci := 12) (k := 11) (C := "CricketHayModel") (T := F_12) (N := 73) (fun _ => gq13) rfl (Nat.le_of_ble_eq_true rfl) rfl rfl rfl rfl w_1097 (fun _ _ => rfl) (fun _ => rfl) (fun _ => rfl) (fun _ => trivial) d_M_init_32 ?_
  refine r_ltH (fun hq14 => ?_)
  refine r_aload_n (pc := 35) (i := 0) d_M_init_35 rfl rfl ?_
  refine r_sipush (pc := 36) (v := 640) d_M_init_36 (by rfl) ?_
  refine r_newa (pc := 39) (t := 0) (N := 640) (kn1 := (4, 2889)) (by decide) rfl wa_0 rfl (Nat.le_of_ble_eq_true rfl) rfl ⟨Nat.le_of_ble_eq_true rfl, Nat.le_of_ble_eq_true rfl⟩ (fun _ => trivial) d_M_init_39 ?_
  refine r_ltR (fun cq15 => ?_)
  refine r_ltH (fun hq16 => ?_)
  refine r_gc (fun gq17 => ?_)
  refine r_putRF (pc := 41) (ci := 12) (k := 12) (C := "CricketHayModel") (T := F_12) (N := 73) (fun _ => gq17) rfl (Nat.le_of_ble_eq_true rfl) rfl rfl rfl rfl w_1098 (fun _ _ => rfl) (fun _ => rfl) (fun _ => rfl) (fun _ => trivial) d_M_init_41 ?_
  refine r_ltH (fun hq18 => ?_)
  refine r_aload_n (pc := 44) (i := 0) d_M_init_44 rfl rfl ?_
  refine r_iconst (pc := 45) (v := 2) d_M_init_45 (by rfl) ?_
  refine r_newa (pc := 46) (t := 0) (N := 2) (kn1 := (5, 2891)) (by decide) rfl wa_0 rfl (Nat.le_of_ble_eq_true rfl) rfl ⟨Nat.le_of_ble_eq_true rfl, Nat.le_of_ble_eq_true rfl⟩ (fun _ => trivial) d_M_init_46 ?_
  refine r_ltR (fun cq19 => ?_)
  refine r_ltH (fun hq20 => ?_)
  refine r_gc (fun gq21 => ?_)
  refine r_putRF (pc := 48) (ci := 12) (k := 13) (C := "CricketHayModel") (T := F_12) (N := 73) (fun _ => gq21) rfl (Nat.le_of_ble_eq_true rfl) rfl rfl rfl rfl w_1099 (fun _ _ => rfl) (fun _ => rfl) (fun _ => rfl) (fun _ => trivial) d_M_init_48 ?_
  refine r_ltH (fun hq22 => ?_)
  refine r_aload_n (pc := 51) (i := 0) d_M_init_51 rfl rfl ?_
  refine r_sipush (pc := 52) (v := 640) d_M_init_52 (by rfl) ?_
  refine r_newa (pc := 55) (t := 0) (N := 640) (kn1 := (6, 3531)) (by decide) rfl wa_0 rfl (Nat.le_of_ble_eq_true rfl) rfl ⟨Nat.le_of_ble_eq_true rfl, Nat.le_of_ble_eq_true rfl⟩ (fun _ => trivial) d_M_init_55 ?_
  refine r_ltR (fun cq23 => ?_)
  refine r_ltH (fun hq24 => ?_)
  refine r_gc (fun gq25 => ?_)
  refine r_putRF (pc := 57) (ci := 12) (k := 14) (C := "CricketHayModel") (T := F_12) (N := 73) (fun _ => gq25) rfl (Nat.le_of_ble_eq_true rfl) rfl rfl rfl rfl w_1100 (fun _ _ => rfl) (fun _ => rfl) (fun _ => rfl) (fun _ => trivial) d_M_init_57 ?_
  refine r_ltH (fun hq26 => ?_)
  refine r_aload_n (pc := 60) (i := 0) d_M_init_60 rfl rfl ?_
  refine r_sipush (pc := 61) (v := 640) d_M_init_61 (by rfl) ?_
  refine r_newa (pc := 64) (t := 0) (N := 640) (kn1 := (7, 4171)) (by decide) rfl wa_0 rfl (Nat.le_of_ble_eq_true rfl) rfl ⟨Nat.le_of_ble_eq_true rfl, Nat.le_of_ble_eq_true rfl⟩ (fun _ => trivial) d_M_init_64 ?_
  refine r_ltR (fun cq27 => ?_)
  refine r_ltH (fun hq28 => ?_)
  refine r_gc (fun gq29 => ?_)
  refine r_putRF (pc := 66) (ci := 12) (k := 15) (C := "CricketHayModel") (T := F_12) (N := 73) (fun _ => gq29) rfl (Nat.le_of_ble_eq_true rfl) rfl rfl rfl rfl w_1101 (fun _ _ => rfl) (fun _ => rfl) (fun _ => rfl) (fun _ => trivial) d_M_init_66 ?_
  refine r_ltH (fun hq30 => ?_)
  refine r_aload_n (pc := 69) (i := 0) d_M_init_69 rfl rfl ?_
  refine r_iconst (pc := 70) (v := 2) d_M_init_70 (by rfl) ?_
  refine r_newa (pc := 71) (t := 0) (N := 2) (kn1 := (8, 4173)) (by decide) rfl wa_0 rfl (Nat.le_of_ble_eq_true rfl) rfl ⟨Nat.le_of_ble_eq_true rfl, Nat.le_of_ble_eq_true rfl⟩ (fun _ => trivial) d_M_init_71 ?_
  refine r_ltR (fun cq31 => ?_)
  refine r_ltH (fun hq32 => ?_)
  refine r_gc (fun gq33 => ?_)
  refine r_putRF (pc := 73) (ci := 12) (k := 16) (C := "CricketHayModel") (T := F_12) (N := 73) (fun _ => gq33) rfl (Nat.le_of_ble_eq_true rfl) rfl rfl rfl rfl w_1102 (fun _ _ => rfl) (fun _ => rfl) (fun _ => rfl) (fun _ => trivial) d_M_init_73 ?_
  refine r_ltH (fun hq34 => ?_)
  refine r_aload_n (pc := 76) (i := 0) d_M_init_76 rfl rfl ?_
  refine r_sipush (pc := 77) (v := 160) d_M_init_77 (by rfl) ?_
  refine r_newa (pc := 80) (t := 0) (N := 160) (kn1 := (9, 4333)) (by decide) rfl wa_0 rfl (Nat.le_of_ble_eq_true rfl) rfl ⟨Nat.le_of_ble_eq_true rfl, Nat.le_of_ble_eq_true rfl⟩ (fun _ => trivial) d_M_init_80 ?_
  refine r_ltR (fun cq35 => ?_)
  refine r_ltH (fun hq36 => ?_)
  refine r_gc (fun gq37 => ?_)
  refine r_putRF (pc := 82) (ci := 12) (k := 17) (C := "CricketHayModel") (T := F_12) (N := 73) (fun _ => gq37) rfl (Nat.le_of_ble_eq_true rfl) rfl rfl rfl rfl w_1103 (fun _ _ => rfl) (fun _ => rfl) (fun _ => rfl) (fun _ => trivial) d_M_init_82 ?_
  refine r_ltH (fun hq38 => ?_)
  refine r_aload_n (pc := 85) (i := 0) d_M_init_85 rfl rfl ?_
  refine r_bipush (pc := 86) (v := 64) d_M_init_86 (by rfl) ?_
  refine r_newa (pc := 88) (t := 0) (N := 64) (kn1 := (10, 4397)) (by decide) rfl wa_0 rfl (Nat.le_of_ble_eq_true rfl) rfl ⟨Nat.le_of_ble_eq_true rfl, Nat.le_of_ble_eq_true rfl⟩ (fun _ => trivial) d_M_init_88 ?_
  refine r_ltR (fun cq39 => ?_)
  refine r_ltH (fun hq40 => ?_)
  refine r_gc (fun gq41 => ?_)
  refine r_putRF (pc := 90) (ci := 12) (k := 18) (C := "CricketHayModel") (T := F_12) (N := 73) (fun _ => gq41) rfl (Nat.le_of_ble_eq_true rfl) rfl rfl rfl rfl w_1104 (fun _ _ => rfl) (fun _ => rfl) (fun _ => rfl) (fun _ => trivial) d_M_init_90 ?_
  refine r_ltH (fun hq42 => ?_)
  refine r_aload_n (pc := 93) (i := 0) d_M_init_93 rfl rfl ?_
  refine r_iconst (pc := 94) (v := 2) d_M_init_94 (by rfl) ?_
  refine r_newa (pc := 95) (t := 1) (N := 2) (kn1 := (11, 4399)) (by decide) rfl wa_1 rfl (Nat.le_of_ble_eq_true rfl) rfl ⟨Nat.le_of_ble_eq_true rfl, Nat.le_of_ble_eq_true rfl⟩ (fun _ => trivial) d_M_init_95 ?_
  refine r_ltR (fun cq43 => ?_)
  refine r_ltH (fun hq44 => ?_)
  refine r_gc (fun gq45 => ?_)
  refine r_putRF (pc := 97) (ci := 12) (k := 19) (C := "CricketHayModel") (T := F_12) (N := 73) (fun _ => gq45) rfl (Nat.le_of_ble_eq_true rfl) rfl rfl rfl rfl w_1105 (fun _ _ => rfl) (fun _ => rfl) (fun _ => rfl) (fun _ => trivial) d_M_init_97 ?_
  refine r_ltH (fun hq46 => ?_)
  refine r_aload_n (pc := 100) (i := 0) d_M_init_100 rfl rfl ?_
  refine r_bipush (pc := 101) (v := 6) d_M_init_101 (by rfl) ?_
  refine r_newa (pc := 103) (t := 0) (N := 6) (kn1 := (12, 4405)) (by decide) rfl wa_0 rfl (Nat.le_of_ble_eq_true rfl) rfl ⟨Nat.le_of_ble_eq_true rfl, Nat.le_of_ble_eq_true rfl⟩ (fun _ => trivial) d_M_init_103 ?_
  refine r_ltR (fun cq47 => ?_)
  refine r_ltH (fun hq48 => ?_)
  refine r_gc (fun gq49 => ?_)
  refine r_putRF (pc := 105) (ci := 12) (k := 26) (C := "CricketHayModel") (T := F_12) (N := 73) (fun _ => gq49) rfl (Nat.le_of_ble_eq_true rfl) rfl rfl rfl rfl w_1112 (fun _ _ => rfl) (fun _ => rfl) (fun _ => rfl) (fun _ => trivial) d_M_init_105 ?_
  refine r_ltH (fun hq50 => ?_)
  refine r_aload_n (pc := 108) (i := 0) d_M_init_108 rfl rfl ?_
  refine r_bipush (pc := 109) (v := 6) d_M_init_109 (by rfl) ?_
  refine r_newa (pc := 111) (t := 0) (N := 6) (kn1 := (13, 4411)) (by decide) rfl wa_0 rfl (Nat.le_of_ble_eq_true rfl) rfl ⟨Nat.le_of_ble_eq_true rfl, Nat.le_of_ble_eq_true rfl⟩ (fun _ => trivial) d_M_init_111 ?_
  refine r_ltR (fun cq51 => ?_)
  refine r_ltH (fun hq52 => ?_)
  refine r_gc (fun gq53 => ?_)
  refine r_putRF (pc := 113) (ci := 12) (k := 27) (C := "CricketHayModel") (T := F_12) (N := 73) (fun _ => gq53) rfl (Nat.le_of_ble_eq_true rfl) rfl rfl rfl rfl w_1113 (fun _ _ => rfl) (fun _ => rfl) (fun _ => rfl) (fun _ => trivial) d_M_init_113 ?_
  refine r_ltH (fun hq54 => ?_)
  refine r_aload_n (pc := 116) (i := 0) d_M_init_116 rfl rfl ?_
  refine r_bipush (pc := 117) (v := 6) d_M_init_117 (by rfl) ?_
  refine r_newa (pc := 119) (t := 0) (N := 6) (kn1 := (14, 4417)) (by decide) rfl wa_0 rfl (Nat.le_of_ble_eq_true rfl) rfl ⟨Nat.le_of_ble_eq_true rfl, Nat.le_of_ble_eq_true rfl⟩ (fun _ => trivial) d_M_init_119 ?_
  refine r_ltR (fun cq55 => ?_)
  refine r_ltH (fun hq56 => ?_)
  refine r_gc (fun gq57 => ?_)
  refine r_putRF (pc := 121) (ci := 12) (k := 28) (C := "CricketHayModel") (T := F_12) (N := 73) (fun _ => gq57) rfl (Nat.le_of_ble_eq_true rfl) rfl rfl rfl rfl w_1114 (fun _ _ => rfl) (fun _ => rfl) (fun _ => rfl) (fun _ => trivial) d_M_init_121 ?_
  refine r_ltH (fun hq58 => ?_)
  refine r_aload_n (pc := 124) (i := 0) d_M_init_124 rfl rfl ?_
  refine r_bipush (pc := 125) (v := 6) d_M_init_125 (by rfl) ?_
  refine r_newa (pc := 127) (t := 0) (N := 6) (kn1 := (15, 4423)) (by decide) rfl wa_0 rfl (Nat.le_of_ble_eq_true rfl) rfl ⟨Nat.le_of_ble_eq_true rfl, Nat.le_of_ble_eq_true rfl⟩ (fun _ => trivial) d_M_init_127 ?_
  refine r_ltR (fun cq59 => ?_)
  refine r_ltH (fun hq60 => ?_)
  refine r_gc (fun gq61 => ?_)
  refine r_putRF (pc := 129) (ci := 12) (k := 29) (C := "CricketHayModel") (T := F_12) (N := 73) (fun _ => gq61) rfl (Nat.le_of_ble_eq_true rfl) rfl rfl rfl rfl w_1115 (fun _ _ => rfl) (fun _ => rfl) (fun _ => rfl) (fun _ => trivial) d_M_init_129 ?_
  refine r_ltH (fun hq62 => ?_)
  refine r_aload_n (pc := 132) (i := 0) d_M_init_132 rfl rfl ?_
  refine r_bipush (pc := 133) (v := 6) d_M_init_133 (by rfl) ?_
  refine r_newa (pc := 135) (t := 0) (N := 6) (kn1 := (16, 4429)) (by decide) rfl wa_0 rfl (Nat.le_of_ble_eq_true rfl) rfl ⟨Nat.le_of_ble_eq_true rfl, Nat.le_of_ble_eq_true rfl⟩ (fun _ => trivial) d_M_init_135 ?_
  refine r_ltR (fun cq63 => ?_)
  refine r_ltH (fun hq64 => ?_)
  refine r_gc (fun gq65 => ?_)
  refine r_putRF (pc := 137) (ci := 12) (k := 30) (C := "CricketHayModel") (T := F_12) (N := 73) (fun _ => gq65) rfl (Nat.le_of_ble_eq_true rfl) rfl rfl rfl rfl w_1116 (fun _ _ => rfl) (fun _ => rfl) (fun _ => rfl) (fun _ => trivial) d_M_init_137 ?_
  refine r_ltH (fun hq66 => ?_)
  refine r_aload_n (pc := 140) (i := 0) d_M_init_140 rfl rfl ?_
  refine r_bipush (pc := 141) (v := 6) d_M_init_141 (by rfl) ?_
  refine r_newa (pc := 143) (t := 0) (N := 6) (kn1 := (17, 4435)) (by decide) rfl wa_0 rfl (Nat.le_of_ble_eq_true rfl) rfl ⟨Nat.le_of_ble_eq_true rfl, Nat.le_of_ble_eq_true rfl⟩ (fun _ => trivial) d_M_init_143 ?_
  refine r_ltR (fun cq67 => ?_)
  refine r_ltH (fun hq68 => ?_)
  refine r_gc (fun gq69 => ?_)
  refine r_putRF (pc := 145) (ci := 12) (k := 31) (C := "CricketHayModel") (T := F_12) (N := 73) (fun _ => gq69) rfl (Nat.le_of_ble_eq_true rfl) rfl rfl rfl rfl w_1117 (fun _ _ => rfl) (fun _ => rfl) (fun _ => rfl) (fun _ => trivial) d_M_init_145 ?_
  refine r_ltH (fun hq70 => ?_)
  refine r_aload_n (pc := 148) (i := 0) d_M_init_148 rfl rfl ?_
  refine r_bipush (pc := 149) (v := 6) d_M_init_149 (by rfl) ?_
  refine r_newa (pc := 151) (t := 0) (N := 6) (kn1 := (18, 4441)) (by decide) rfl wa_0 rfl (Nat.le_of_ble_eq_true rfl) rfl ⟨Nat.le_of_ble_eq_true rfl, Nat.le_of_ble_eq_true rfl⟩ (fun _ => trivial) d_M_init_151 ?_
  refine r_ltR (fun cq71 => ?_)
  refine r_ltH (fun hq72 => ?_)
  refine r_gc (fun gq73 => ?_)
  refine r_putRF (pc := 153) (ci := 12) (k := 32) (C := "CricketHayModel") (T := F_12) (N := 73) (fun _ => gq73) rfl (Nat.le_of_ble_eq_true rfl) rfl rfl rfl rfl w_1118 (fun _ _ => rfl) (fun _ => rfl) (fun _ => rfl) (fun _ => trivial) d_M_init_153 ?_
  refine r_ltH (fun hq74 => ?_)
  refine r_aload_n (pc := 156) (i := 0) d_M_init_156 rfl rfl ?_
  refine r_bipush (pc := 157) (v := 6) d_M_init_157 (by rfl) ?_
  refine r_newa (pc := 159) (t := 0) (N := 6) (kn1 := (19, 4447)) (by decide) rfl wa_0 rfl (Nat.le_of_ble_eq_true rfl) rfl ⟨Nat.le_of_ble_eq_true rfl, Nat.le_of_ble_eq_true rfl⟩ (fun _ => trivial) d_M_init_159 ?_
  refine r_ltR (fun cq75 => ?_)
  refine r_ltH (fun hq76 => ?_)
  refine r_gc (fun gq77 => ?_)
  refine r_putRF (pc := 161) (ci := 12) (k := 33) (C := "CricketHayModel") (T := F_12) (N := 73) (fun _ => gq77) rfl (Nat.le_of_ble_eq_true rfl) rfl rfl rfl rfl w_1119 (fun _ _ => rfl) (fun _ => rfl) (fun _ => rfl) (fun _ => trivial) d_M_init_161 ?_
  refine r_ltH (fun hq78 => ?_)
  refine r_aload_n (pc := 164) (i := 0) d_M_init_164 rfl rfl ?_
  refine r_bipush (pc := 165) (v := 6) d_M_init_165 (by rfl) ?_
  refine r_newa (pc := 167) (t := 0) (N := 6) (kn1 := (20, 4453)) (by decide) rfl wa_0 rfl (Nat.le_of_ble_eq_true rfl) rfl ⟨Nat.le_of_ble_eq_true rfl, Nat.le_of_ble_eq_true rfl⟩ (fun _ => trivial) d_M_init_167 ?_
  refine r_ltR (fun cq79 => ?_)
  refine r_ltH (fun hq80 => ?_)
  refine r_gc (fun gq81 => ?_)
  refine r_putRF (pc := 169) (ci := 12) (k := 34) (C := "CricketHayModel") (T := F_12) (N := 73) (fun _ => gq81) rfl (Nat.le_of_ble_eq_true rfl) rfl rfl rfl rfl w_1120 (fun _ _ => rfl) (fun _ => rfl) (fun _ => rfl) (fun _ => trivial) d_M_init_169 ?_
  refine r_ltH (fun hq82 => ?_)
  refine r_aload_n (pc := 172) (i := 0) d_M_init_172 rfl rfl ?_
  refine r_bipush (pc := 173) (v := 6) d_M_init_173 (by rfl) ?_
  refine r_newa (pc := 175) (t := 0) (N := 6) (kn1 := (21, 4459)) (by decide) rfl wa_0 rfl (Nat.le_of_ble_eq_true rfl) rfl ⟨Nat.le_of_ble_eq_true rfl, Nat.le_of_ble_eq_true rfl⟩ (fun _ => trivial) d_M_init_175 ?_
  refine r_ltR (fun cq83 => ?_)
  refine r_ltH (fun hq84 => ?_)
  refine r_gc (fun gq85 => ?_)
  refine r_putRF (pc := 177) (ci := 12) (k := 35) (C := "CricketHayModel") (T := F_12) (N := 73) (fun _ => gq85) rfl (Nat.le_of_ble_eq_true rfl) rfl rfl rfl rfl w_1121 (fun _ _ => rfl) (fun _ => rfl) (fun _ => rfl) (fun _ => trivial) d_M_init_177 ?_
  refine r_ltH (fun hq86 => ?_)
  refine r_aload_n (pc := 180) (i := 0) d_M_init_180 rfl rfl ?_
  refine r_iconst (pc := 181) (v := 1) d_M_init_181 (by rfl) ?_
  refine r_gc (fun gq87 => ?_)
  refine r_putI (pc := 182) (ci := 12) (k := 45) (C := "CricketHayModel") (T := F_12) (N := 73) (fun _ => gq87) rfl (Nat.le_of_ble_eq_true rfl) rfl rfl w_1131 (fun _ _ => rfl) (fun _ => rfl) (fun _ => rfl) (fun _ => trivial) d_M_init_182 ?_
  refine r_ltH (fun hq88 => ?_)
  refine r_aload_n (pc := 185) (i := 0) d_M_init_185 rfl rfl ?_
  refine r_iconst (pc := 186) (v := 3) d_M_init_186 (by rfl) ?_
  refine r_gc (fun gq89 => ?_)
  refine r_putI (pc := 187) (ci := 12) (k := 46) (C := "CricketHayModel") (T := F_12) (N := 73) (fun _ => gq89) rfl (Nat.le_of_ble_eq_true rfl) rfl rfl w_1132 (fun _ _ => rfl) (fun _ => rfl) (fun _ => rfl) (fun _ => trivial) d_M_init_187 ?_
  refine r_ltH (fun hq90 => ?_)
  refine r_aload_n (pc := 190) (i := 0) d_M_init_190 rfl rfl ?_
  refine r_bipush (pc := 191) (v := 35) d_M_init_191 (by rfl) ?_
  refine r_newa (pc := 193) (t := 0) (N := 35) (kn1 := (22, 4494)) (by decide) rfl wa_0 rfl (Nat.le_of_ble_eq_true rfl) rfl ⟨Nat.le_of_ble_eq_true rfl, Nat.le_of_ble_eq_true rfl⟩ (fun _ => trivial) d_M_init_193 ?_
  refine r_ltR (fun cq91 => ?_)
  refine r_ltH (fun hq92 => ?_)
  refine r_gc (fun gq93 => ?_)
  refine r_putRF (pc := 195) (ci := 12) (k := 50) (C := "CricketHayModel") (T := F_12) (N := 73) (fun _ => gq93) rfl (Nat.le_of_ble_eq_true rfl) rfl rfl rfl rfl w_1136 (fun _ _ => rfl) (fun _ => rfl) (fun _ => rfl) (fun _ => trivial) d_M_init_195 ?_
  refine r_ltH (fun hq94 => ?_)
  refine r_aload_n (pc := 198) (i := 0) d_M_init_198 rfl rfl ?_
  refine r_bipush (pc := 199) (v := 35) d_M_init_199 (by rfl) ?_
  refine r_newa (pc := 201) (t := 0) (N := 35) (kn1 := (23, 4529)) (by decide) rfl wa_0 rfl (Nat.le_of_ble_eq_true rfl) rfl ⟨Nat.le_of_ble_eq_true rfl, Nat.le_of_ble_eq_true rfl⟩ (fun _ => trivial) d_M_init_201 ?_
  refine r_ltR (fun cq95 => ?_)
  refine r_ltH (fun hq96 => ?_)
  refine r_gc (fun gq97 => ?_)
  refine r_putRF (pc := 203) (ci := 12) (k := 51) (C := "CricketHayModel") (T := F_12) (N := 73) (fun _ => gq97) rfl (Nat.le_of_ble_eq_true rfl) rfl rfl rfl rfl w_1137 (fun _ _ => rfl) (fun _ => rfl) (fun _ => rfl) (fun _ => trivial) d_M_init_203 ?_
  refine r_ltH (fun hq98 => ?_)
  refine r_aload_n (pc := 206) (i := 0) d_M_init_206 rfl rfl ?_
  refine r_sipush (pc := 207) (v := 1400) d_M_init_207 (by rfl) ?_
  refine r_newa (pc := 210) (t := 0) (N := 1400) (kn1 := (24, 5929)) (by decide) rfl wa_0 rfl (Nat.le_of_ble_eq_true rfl) rfl ⟨Nat.le_of_ble_eq_true rfl, Nat.le_of_ble_eq_true rfl⟩ (fun _ => trivial) d_M_init_210 ?_
  refine r_ltR (fun cq99 => ?_)
  refine r_ltH (fun hq100 => ?_)
  refine r_gc (fun gq101 => ?_)
  refine r_putRF (pc := 212) (ci := 12) (k := 52) (C := "CricketHayModel") (T := F_12) (N := 73) (fun _ => gq101) rfl (Nat.le_of_ble_eq_true rfl) rfl rfl rfl rfl w_1138 (fun _ _ => rfl) (fun _ => rfl) (fun _ => rfl) (fun _ => trivial) d_M_init_212 ?_
  refine r_ltH (fun hq102 => ?_)
  refine r_aload_n (pc := 215) (i := 0) d_M_init_215 rfl rfl ?_
  refine r_bipush (pc := 216) (v := 12) d_M_init_216 (by rfl) ?_
  refine r_newa (pc := 218) (t := 0) (N := 12) (kn1 := (25, 5941)) (by decide) rfl wa_0 rfl (Nat.le_of_ble_eq_true rfl) rfl ⟨Nat.le_of_ble_eq_true rfl, Nat.le_of_ble_eq_true rfl⟩ (fun _ => trivial) d_M_init_218 ?_
  refine r_ltR (fun cq103 => ?_)
  refine r_ltH (fun hq104 => ?_)
  refine r_gc (fun gq105 => ?_)
  refine r_putRF (pc := 220) (ci := 12) (k := 55) (C := "CricketHayModel") (T := F_12) (N := 73) (fun _ => gq105) rfl (Nat.le_of_ble_eq_true rfl) rfl rfl rfl rfl w_1141 (fun _ _ => rfl) (fun _ => rfl) (fun _ => rfl) (fun _ => trivial) d_M_init_220 ?_
  refine r_ltH (fun hq106 => ?_)
  refine r_aload_n (pc := 223) (i := 0) d_M_init_223 rfl rfl ?_
  refine r_bipush (pc := 224) (v := 12) d_M_init_224 (by rfl) ?_
  refine r_newa (pc := 226) (t := 0) (N := 12) (kn1 := (26, 5953)) (by decide) rfl wa_0 rfl (Nat.le_of_ble_eq_true rfl) rfl ⟨Nat.le_of_ble_eq_true rfl, Nat.le_of_ble_eq_true rfl⟩ (fun _ => trivial) d_M_init_226 ?_
  refine r_ltR (fun cq107 => ?_)
  refine r_ltH (fun hq108 => ?_)
  refine r_gc (fun gq109 => ?_)
  refine r_putRF (pc := 228) (ci := 12) (k := 56) (C := "CricketHayModel") (T := F_12) (N := 73) (fun _ => gq109) rfl (Nat.le_of_ble_eq_true rfl) rfl rfl rfl rfl w_1142 (fun _ _ => rfl) (fun _ => rfl) (fun _ => rfl) (fun _ => trivial) d_M_init_228 ?_
  refine r_ltH (fun hq110 => ?_)
  refine r_aload_n (pc := 231) (i := 0) d_M_init_231 rfl rfl ?_
  refine r_bipush (pc := 232) (v := 6) d_M_init_232 (by rfl) ?_
  refine r_newa (pc := 234) (t := 0) (N := 6) (kn1 := (27, 5959)) (by decide) rfl wa_0 rfl (Nat.le_of_ble_eq_true rfl) rfl ⟨Nat.le_of_ble_eq_true rfl, Nat.le_of_ble_eq_true rfl⟩ (fun _ => trivial) d_M_init_234 ?_
  refine r_ltR (fun cq111 => ?_)
  refine r_ltH (fun hq112 => ?_)
  refine r_gc (fun gq113 => ?_)
  refine r_putRF (pc := 236) (ci := 12) (k := 58) (C := "CricketHayModel") (T := F_12) (N := 73) (fun _ => gq113) rfl (Nat.le_of_ble_eq_true rfl) rfl rfl rfl rfl w_1144 (fun _ _ => rfl) (fun _ => rfl) (fun _ => rfl) (fun _ => trivial) d_M_init_236 ?_
  refine r_ltH (fun hq114 => ?_)
  refine r_aload_n (pc := 239) (i := 0) d_M_init_239 rfl rfl ?_
  refine r_bipush (pc := 240) (v := 6) d_M_init_240 (by rfl) ?_
  refine r_newa (pc := 242) (t := 0) (N := 6) (kn1 := (28, 5965)) (by decide) rfl wa_0 rfl (Nat.le_of_ble_eq_true rfl) rfl ⟨Nat.le_of_ble_eq_true rfl, Nat.le_of_ble_eq_true rfl⟩ (fun _ => trivial) d_M_init_242 ?_
  refine r_ltR (fun cq115 => ?_)
  refine r_ltH (fun hq116 => ?_)
  refine r_gc (fun gq117 => ?_)
  refine r_putRF (pc := 244) (ci := 12) (k := 59) (C := "CricketHayModel") (T := F_12) (N := 73) (fun _ => gq117) rfl (Nat.le_of_ble_eq_true rfl) rfl rfl rfl rfl w_1145 (fun _ _ => rfl) (fun _ => rfl) (fun _ => rfl) (fun _ => trivial) d_M_init_244 ?_
  refine r_ltH (fun hq118 => ?_)
  refine r_aload_n (pc := 247) (i := 0) d_M_init_247 rfl rfl ?_
  refine r_sipush (pc := 248) (v := 1024) d_M_init_248 (by rfl) ?_
  refine r_newa (pc := 251) (t := 0) (N := 1024) (kn1 := (29, 6989)) (by decide) rfl wa_0 rfl (Nat.le_of_ble_eq_true rfl) rfl ⟨Nat.le_of_ble_eq_true rfl, Nat.le_of_ble_eq_true rfl⟩ (fun _ => trivial) d_M_init_251 ?_
  refine r_ltR (fun cq119 => ?_)
  refine r_ltH (fun hq120 => ?_)
  refine r_gc (fun gq121 => ?_)
  refine r_putRF (pc := 253) (ci := 12) (k := 62) (C := "CricketHayModel") (T := F_12) (N := 73) (fun _ => gq121) rfl (Nat.le_of_ble_eq_true rfl) rfl rfl rfl rfl w_1148 (fun _ _ => rfl) (fun _ => rfl) (fun _ => rfl) (fun _ => trivial) d_M_init_253 ?_
  refine r_ltH (fun hq122 => ?_)
  refine r_aload_n (pc := 256) (i := 0) d_M_init_256 rfl rfl ?_
  refine r_bipush (pc := 257) (v := 30) d_M_init_257 (by rfl) ?_
  refine r_newa (pc := 259) (t := 0) (N := 30) (kn1 := (30, 7019)) (by decide) rfl wa_0 rfl (Nat.le_of_ble_eq_true rfl) rfl ⟨Nat.le_of_ble_eq_true rfl, Nat.le_of_ble_eq_true rfl⟩ (fun _ => trivial) d_M_init_259 ?_
  refine r_ltR (fun cq123 => ?_)
  refine r_ltH (fun hq124 => ?_)
  refine r_gc (fun gq125 => ?_)
  refine r_putRF (pc := 261) (ci := 12) (k := 63) (C := "CricketHayModel") (T := F_12) (N := 73) (fun _ => gq125) rfl (Nat.le_of_ble_eq_true rfl) rfl rfl rfl rfl w_1149 (fun _ _ => rfl) (fun _ => rfl) (fun _ => rfl) (fun _ => trivial) d_M_init_261 ?_
  refine r_ltH (fun hq126 => ?_)
  refine r_aload_n (pc := 264) (i := 0) d_M_init_264 rfl rfl ?_
  refine r_bipush (pc := 265) (v := 30) d_M_init_265 (by rfl) ?_
  refine r_newa (pc := 267) (t := 0) (N := 30) (kn1 := (31, 7049)) (by decide) rfl wa_0 rfl (Nat.le_of_ble_eq_true rfl) rfl ⟨Nat.le_of_ble_eq_true rfl, Nat.le_of_ble_eq_true rfl⟩ (fun _ => trivial) d_M_init_267 ?_
  refine r_ltR (fun cq127 => ?_)
  refine r_ltH (fun hq128 => ?_)
  refine r_gc (fun gq129 => ?_)
  refine r_putRF (pc := 269) (ci := 12) (k := 64) (C := "CricketHayModel") (T := F_12) (N := 73) (fun _ => gq129) rfl (Nat.le_of_ble_eq_true rfl) rfl rfl rfl rfl w_1150 (fun _ _ => rfl) (fun _ => rfl) (fun _ => rfl) (fun _ => trivial) d_M_init_269 ?_
  refine r_ltH (fun hq130 => ?_)
  refine r_aload_n (pc := 272) (i := 0) d_M_init_272 rfl rfl ?_
  refine r_bipush (pc := 273) (v := 30) d_M_init_273 (by rfl) ?_
  refine r_newa (pc := 275) (t := 0) (N := 30) (kn1 := (32, 7079)) (by decide) rfl wa_0 rfl (Nat.le_of_ble_eq_true rfl) rfl ⟨Nat.le_of_ble_eq_true rfl, Nat.le_of_ble_eq_true rfl⟩ (fun _ => trivial) d_M_init_275 ?_
  refine r_ltR (fun cq131 => ?_)
  refine r_ltH (fun hq132 => ?_)
  refine r_gc (fun gq133 => ?_)
  refine r_putRF (pc := 277) (ci := 12) (k := 65) (C := "CricketHayModel") (T := F_12) (N := 73) (fun _ => gq133) rfl (Nat.le_of_ble_eq_true rfl) rfl rfl rfl rfl w_1151 (fun _ _ => rfl) (fun _ => rfl) (fun _ => rfl) (fun _ => trivial) d_M_init_277 ?_
  refine r_ltH (fun hq134 => ?_)
  refine r_aload_n (pc := 280) (i := 0) d_M_init_280 rfl rfl ?_
  refine r_bipush (pc := 281) (v := 30) d_M_init_281 (by rfl) ?_
  refine r_newa (pc := 283) (t := 0) (N := 30) (kn1 := (33, 7109)) (by decide) rfl wa_0 rfl (Nat.le_of_ble_eq_true rfl) rfl ⟨Nat.le_of_ble_eq_true rfl, Nat.le_of_ble_eq_true rfl⟩ (fun _ => trivial) d_M_init_283 ?_
  refine r_ltR (fun cq135 => ?_)
  refine r_ltH (fun hq136 => ?_)
  refine r_gc (fun gq137 => ?_)
  refine r_putRF (pc := 285) (ci := 12) (k := 66) (C := "CricketHayModel") (T := F_12) (N := 73) (fun _ => gq137) rfl (Nat.le_of_ble_eq_true rfl) rfl rfl rfl rfl w_1152 (fun _ _ => rfl) (fun _ => rfl) (fun _ => rfl) (fun _ => trivial) d_M_init_285 ?_
  refine r_ltH (fun hq138 => ?_)
  refine r_aload_n (pc := 288) (i := 0) d_M_init_288 rfl rfl ?_
  refine r_bipush (pc := 289) (v := 30) d_M_init_289 (by rfl) ?_
  refine r_newa (pc := 291) (t := 1) (N := 30) (kn1 := (34, 7139)) (by decide) rfl wa_1 rfl (Nat.le_of_ble_eq_true rfl) rfl ⟨Nat.le_of_ble_eq_true rfl, Nat.le_of_ble_eq_true rfl⟩ (fun _ => trivial) d_M_init_291 ?_
  refine r_ltR (fun cq139 => ?_)
  refine r_ltH (fun hq140 => ?_)
  refine r_gc (fun gq141 => ?_)
  refine r_putRF (pc := 293) (ci := 12) (k := 67) (C := "CricketHayModel") (T := F_12) (N := 73) (fun _ => gq141) rfl (Nat.le_of_ble_eq_true rfl) rfl rfl rfl rfl w_1153 (fun _ _ => rfl) (fun _ => rfl) (fun _ => rfl) (fun _ => trivial) d_M_init_293 ?_
  refine r_ltH (fun hq142 => ?_)
  refine r_aload_n (pc := 296) (i := 0) d_M_init_296 rfl rfl ?_
  refine r_bipush (pc := 297) (v := 100) d_M_init_297 (by rfl) ?_
  refine r_newa (pc := 299) (t := 1) (N := 100) (kn1 := (35, 7239)) (by decide) rfl wa_1 rfl (Nat.le_of_ble_eq_true rfl) rfl ⟨Nat.le_of_ble_eq_true rfl, Nat.le_of_ble_eq_true rfl⟩ (fun _ => trivial) d_M_init_299 ?_
  refine r_ltR (fun cq143 => ?_)
  refine r_ltH (fun hq144 => ?_)
  refine r_gc (fun gq145 => ?_)
  refine r_putRF (pc := 301) (ci := 12) (k := 70) (C := "CricketHayModel") (T := F_12) (N := 73) (fun _ => gq145) rfl (Nat.le_of_ble_eq_true rfl) rfl rfl rfl rfl w_1156 (fun _ _ => rfl) (fun _ => rfl) (fun _ => rfl) (fun _ => trivial) d_M_init_301 ?_
  refine r_ltH (fun hq146 => ?_)
  refine r_aload_n (pc := 304) (i := 0) d_M_init_304 rfl rfl ?_
  refine r_iconst (pc := 305) (v := 3) d_M_init_305 (by rfl) ?_
  refine r_newa (pc := 306) (t := 1) (N := 3) (kn1 := (36, 7242)) (by decide) rfl wa_1 rfl (Nat.le_of_ble_eq_true rfl) rfl ⟨Nat.le_of_ble_eq_true rfl, Nat.le_of_ble_eq_true rfl⟩ (fun _ => trivial) d_M_init_306 ?_
  refine r_ltR (fun cq147 => ?_)
  refine r_ltH (fun hq148 => ?_)
  refine r_gc (fun gq149 => ?_)
  refine r_putRF (pc := 308) (ci := 12) (k := 71) (C := "CricketHayModel") (T := F_12) (N := 73) (fun _ => gq149) rfl (Nat.le_of_ble_eq_true rfl) rfl rfl rfl rfl w_1157 (fun _ _ => rfl) (fun _ => rfl) (fun _ => rfl) (fun _ => trivial) d_M_init_308 ?_
  refine r_ltH (fun hq150 => ?_)
  refine r_aload_n (pc := 311) (i := 0) d_M_init_311 rfl rfl ?_
  refine r_bipush (pc := 312) (v := 105) d_M_init_312 (by rfl) ?_
  refine r_newa (pc := 314) (t := 0) (N := 105) (kn1 := (37, 7347)) (by decide) rfl wa_0 rfl (Nat.le_of_ble_eq_true rfl) rfl ⟨Nat.le_of_ble_eq_true rfl, Nat.le_of_ble_eq_true rfl⟩ (fun _ => trivial) d_M_init_314 ?_
  refine r_ltR (fun cq151 => ?_)
  refine r_ltH (fun hq152 => ?_)
  refine r_gc (fun gq153 => ?_)
  refine r_putRF (pc := 316) (ci := 12) (k := 72) (C := "CricketHayModel") (T := F_12) (N := 73) (fun _ => gq153) rfl (Nat.le_of_ble_eq_true rfl) rfl rfl rfl rfl w_1158 (fun _ _ => rfl) (fun _ => rfl) (fun _ => rfl) (fun _ => trivial) d_M_init_316 ?_
  refine r_ltH (fun hq154 => ?_)
  exact r_vret (pc := 319) rfl d_M_init_319
