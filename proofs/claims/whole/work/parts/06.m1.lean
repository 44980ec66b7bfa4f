theorem w_13 : Cond.initialized "CricketHayModel" ∈ lw_good := q_t 13 (by decide +kernel) rfl
theorem w_1090 : Cond.fieldLink "CricketHayModel" 7 "CricketHayModel" "tape" "[I" ∈ lw_good := q_t 1090 (by decide +kernel) rfl
theorem w_1091 : Cond.fieldLink "CricketHayModel" 133 "CricketHayModel" "taped" "I" ∈ lw_good := q_t 1091 (by decide +kernel) rfl
theorem w_1092 : Cond.fieldLink "CricketHayModel" 173 "CricketHayModel" "fault" "I" ∈ lw_good := q_t 1092 (by decide +kernel) rfl
theorem w_1093 : Cond.fieldLink "CricketHayModel" 13 "CricketHayModel" "faultPlace" "I" ∈ lw_good := q_t 1093 (by decide +kernel) rfl
theorem w_1094 : Cond.fieldLink "CricketHayModel" 140 "CricketHayModel" "at" "I" ∈ lw_good := q_t 1094 (by decide +kernel) rfl
theorem w_1095 : Cond.fieldLink "CricketHayModel" 143 "CricketHayModel" "size" "I" ∈ lw_good := q_t 1095 (by decide +kernel) rfl
theorem w_1096 : Cond.fieldLink "CricketHayModel" 160 "CricketHayModel" "sort" "I" ∈ lw_good := q_t 1096 (by decide +kernel) rfl
theorem w_1097 : Cond.fieldLink "CricketHayModel" 150 "CricketHayModel" "place" "I" ∈ lw_good := q_t 1097 (by decide +kernel) rfl
theorem w_1098 : Cond.fieldLink "CricketHayModel" 157 "CricketHayModel" "number" "I" ∈ lw_good := q_t 1098 (by decide +kernel) rfl
theorem w_1099 : Cond.fieldLink "CricketHayModel" 153 "CricketHayModel" "word" "J" ∈ lw_good := q_t 1099 (by decide +kernel) rfl
theorem w_1314 : Cond.methodLink "CricketHayModel" 136 ⟨"CricketHayModel", "four", "(I)V"⟩ ∈ lw_good := q_t 1314 (by decide +kernel) rfl
theorem w_1316 : Cond.instanceMethod ⟨"CricketHayModel", "four", "(I)V"⟩ ∈ lw_good := q_t 1316 (by decide +kernel) rfl
theorem w_1317 : Cond.code ⟨"CricketHayModel", "four", "(I)V"⟩ prog_14_method_3_code 3 none ∈ lw_good := q_t 1317 (by decide +kernel) rfl
theorem w_1334 : Cond.methodLink "CricketHayModel" 146 ⟨"CricketHayModel", "here", "(I)I"⟩ ∈ lw_good := q_t 1334 (by decide +kernel) rfl
theorem w_1336 : Cond.instanceMethod ⟨"CricketHayModel", "here", "(I)I"⟩ ∈ lw_good := q_t 1336 (by decide +kernel) rfl
theorem w_1337 : Cond.code ⟨"CricketHayModel", "here", "(I)I"⟩ prog_14_method_5_code 2 (some .int) ∈ lw_good := q_t 1337 (by decide +kernel) rfl
theorem w_1338 : Cond.methodLink "CricketHayModel" 163 ⟨"CricketHayModel", "isLetter", "(I)Z"⟩ ∈ lw_good := q_t 1338 (by decide +kernel) rfl
theorem w_1339 : Cond.static ⟨"CricketHayModel", "isLetter", "(I)Z"⟩ ∈ lw_good := q_t 1339 (by decide +kernel) rfl
theorem w_1340 : Cond.code ⟨"CricketHayModel", "isLetter", "(I)Z"⟩ prog_14_method_6_code 1 (some .boolean) ∈ lw_good := q_t 1340 (by decide +kernel) rfl
theorem w_1341 : Cond.methodLink "CricketHayModel" 167 ⟨"CricketHayModel", "isDigit", "(I)Z"⟩ ∈ lw_good := q_t 1341 (by decide +kernel) rfl
theorem w_1342 : Cond.static ⟨"CricketHayModel", "isDigit", "(I)Z"⟩ ∈ lw_good := q_t 1342 (by decide +kernel) rfl
theorem w_1343 : Cond.code ⟨"CricketHayModel", "isDigit", "(I)Z"⟩ prog_14_method_7_code 1 (some .boolean) ∈ lw_good := q_t 1343 (by decide +kernel) rfl
theorem w_1344 : Cond.methodLink "CricketHayModel" 170 ⟨"CricketHayModel", "isSign", "(I)Z"⟩ ∈ lw_good := q_t 1344 (by decide +kernel) rfl
theorem w_1345 : Cond.static ⟨"CricketHayModel", "isSign", "(I)Z"⟩ ∈ lw_good := q_t 1345 (by decide +kernel) rfl
theorem w_1346 : Cond.code ⟨"CricketHayModel", "isSign", "(I)Z"⟩ prog_14_method_8_code 1 (some .boolean) ∈ lw_good := q_t 1346 (by decide +kernel) rfl
theorem ws_47 : Cond.selects "CricketHayModel" ⟨"CricketHayModel", "four", "(I)V"⟩ ⟨"CricketHayModel", "four", "(I)V"⟩ ∈ lw_good := q_s 47 (by decide +kernel) rfl
theorem ws_50 : Cond.selects "CricketHayModel" ⟨"CricketHayModel", "here", "(I)I"⟩ ⟨"CricketHayModel", "here", "(I)I"⟩ ∈ lw_good := q_s 50 (by decide +kernel) rfl
abbrev y_M_four : MI := (⟨"CricketHayModel", "four", "(I)V"⟩, prog_14_method_3_code, 3, none)
theorem hy_M_four : y_M_four.1.cls ≠ "java/lang/invoke/MethodHandle" ∧ y_M_four.1.cls ≠ "java/lang/invoke/VarHandle" ∧ (parseMethodDescriptor y_M_four.1.desc).map (fun d => d.parameters.length) = some 1 := by decide +kernel
theorem d_M_four_0 : decode y_M_four.2.1 0 = .ok (.bipush 24, 2) := by decide +kernel
theorem d_M_four_2 : decode y_M_four.2.1 2 = .ok (.istore_n 2, 1) := by decide +kernel
theorem d_M_four_3 : decode y_M_four.2.1 3 = .ok (.iload_n 2, 1) := by decide +kernel
theorem d_M_four_4 : decode y_M_four.2.1 4 = .ok (.ifCond .lt 35, 3) := by decide +kernel
theorem d_M_four_7 : decode y_M_four.2.1 7 = .ok (.aload_n 0, 1) := by decide +kernel
theorem d_M_four_8 : decode y_M_four.2.1 8 = .ok (.getfield 7, 3) := by decide +kernel
theorem d_M_four_11 : decode y_M_four.2.1 11 = .ok (.aload_n 0, 1) := by decide +kernel
theorem d_M_four_12 : decode y_M_four.2.1 12 = .ok (.getfield 133, 3) := by decide +kernel
theorem d_M_four_15 : decode y_M_four.2.1 15 = .ok (.iload_n 1, 1) := by decide +kernel
theorem d_M_four_16 : decode y_M_four.2.1 16 = .ok (.iload_n 2, 1) := by decide +kernel
theorem d_M_four_17 : decode y_M_four.2.1 17 = .ok (.ishr, 1) := by decide +kernel
theorem d_M_four_18 : decode y_M_four.2.1 18 = .ok (.sipush 255, 3) := by decide +kernel
theorem d_M_four_21 : decode y_M_four.2.1 21 = .ok (.iand, 1) := by decide +kernel
theorem d_M_four_22 : decode y_M_four.2.1 22 = .ok (.iastore, 1) := by decide +kernel
theorem d_M_four_23 : decode y_M_four.2.1 23 = .ok (.aload_n 0, 1) := by decide +kernel
theorem d_M_four_24 : decode y_M_four.2.1 24 = .ok (.dup, 1) := by decide +kernel
theorem d_M_four_25 : decode y_M_four.2.1 25 = .ok (.getfield 133, 3) := by decide +kernel
theorem d_M_four_28 : decode y_M_four.2.1 28 = .ok (.iconst 1, 1) := by decide +kernel
theorem d_M_four_29 : decode y_M_four.2.1 29 = .ok (.iadd, 1) := by decide +kernel
theorem d_M_four_30 : decode y_M_four.2.1 30 = .ok (.putfield 133, 3) := by decide +kernel
theorem d_M_four_33 : decode y_M_four.2.1 33 = .ok (.iinc 2 (-8), 3) := by decide +kernel
theorem d_M_four_36 : decode y_M_four.2.1 36 = .ok (.goto (-33), 3) := by decide +kernel
theorem d_M_four_39 : decode y_M_four.2.1 39 = .ok (.return_, 1) := by decide +kernel

abbrev y_M_feed : MI := (⟨"CricketHayModel", "feed", "(IIIII)I"⟩, prog_14_method_2_code, 6, (some .int))
theorem hy_M_feed : y_M_feed.1.cls ≠ "java/lang/invoke/MethodHandle" ∧ y_M_feed.1.cls ≠ "java/lang/invoke/VarHandle" ∧ (parseMethodDescriptor y_M_feed.1.desc).map (fun d => d.parameters.length) = some 5 := by decide +kernel
theorem d_M_feed_0 : decode y_M_feed.2.1 0 = .ok (.aload_n 0, 1) := by decide +kernel
theorem d_M_feed_1 : decode y_M_feed.2.1 1 = .ok (.getfield 133, 3) := by decide +kernel
theorem d_M_feed_4 : decode y_M_feed.2.1 4 = .ok (.bipush 20, 2) := by decide +kernel
theorem d_M_feed_6 : decode y_M_feed.2.1 6 = .ok (.iadd, 1) := by decide +kernel
theorem d_M_feed_7 : decode y_M_feed.2.1 7 = .ok (.sipush 1600, 3) := by decide +kernel
theorem d_M_feed_10 : decode y_M_feed.2.1 10 = .ok (.if_icmp .le 5, 3) := by decide +kernel
theorem d_M_feed_13 : decode y_M_feed.2.1 13 = .ok (.iconst (-1), 1) := by decide +kernel
theorem d_M_feed_14 : decode y_M_feed.2.1 14 = .ok (.ireturn, 1) := by decide +kernel
theorem d_M_feed_15 : decode y_M_feed.2.1 15 = .ok (.aload_n 0, 1) := by decide +kernel
theorem d_M_feed_16 : decode y_M_feed.2.1 16 = .ok (.iload_n 1, 1) := by decide +kernel
theorem d_M_feed_17 : decode y_M_feed.2.1 17 = .ok (.invokevirtual 136, 3) := by decide +kernel
theorem d_M_feed_20 : decode y_M_feed.2.1 20 = .ok (.aload_n 0, 1) := by decide +kernel
theorem d_M_feed_21 : decode y_M_feed.2.1 21 = .ok (.iload_n 2, 1) := by decide +kernel
theorem d_M_feed_22 : decode y_M_feed.2.1 22 = .ok (.invokevirtual 136, 3) := by decide +kernel
theorem d_M_feed_25 : decode y_M_feed.2.1 25 = .ok (.aload_n 0, 1) := by decide +kernel
theorem d_M_feed_26 : decode y_M_feed.2.1 26 = .ok (.iload_n 3, 1) := by decide +kernel
theorem d_M_feed_27 : decode y_M_feed.2.1 27 = .ok (.invokevirtual 136, 3) := by decide +kernel
theorem d_M_feed_30 : decode y_M_feed.2.1 30 = .ok (.aload_n 0, 1) := by decide +kernel
theorem d_M_feed_31 : decode y_M_feed.2.1 31 = .ok (.iload 4, 2) := by decide +kernel
theorem d_M_feed_33 : decode y_M_feed.2.1 33 = .ok (.invokevirtual 136, 3) := by decide +kernel
theorem d_M_feed_36 : decode y_M_feed.2.1 36 = .ok (.aload_n 0, 1) := by decide +kernel
theorem d_M_feed_37 : decode y_M_feed.2.1 37 = .ok (.iload 5, 2) := by decide +kernel
theorem d_M_feed_39 : decode y_M_feed.2.1 39 = .ok (.invokevirtual 136, 3) := by decide +kernel
theorem d_M_feed_42 : decode y_M_feed.2.1 42 = .ok (.aload_n 0, 1) := by decide +kernel
theorem d_M_feed_43 : decode y_M_feed.2.1 43 = .ok (.getfield 133, 3) := by decide +kernel
theorem d_M_feed_46 : decode y_M_feed.2.1 46 = .ok (.ireturn, 1) := by decide +kernel

abbrev y_M_end : MI := (⟨"CricketHayModel", "end", "(I)I"⟩, prog_14_method_4_code, 2, (some .int))
theorem hy_M_end : y_M_end.1.cls ≠ "java/lang/invoke/MethodHandle" ∧ y_M_end.1.cls ≠ "java/lang/invoke/VarHandle" ∧ (parseMethodDescriptor y_M_end.1.desc).map (fun d => d.parameters.length) = some 1 := by decide +kernel
theorem d_M_end_0 : decode y_M_end.2.1 0 = .ok (.iload_n 1, 1) := by decide +kernel
theorem d_M_end_1 : decode y_M_end.2.1 1 = .ok (.ifCond .lt 11, 3) := by decide +kernel
theorem d_M_end_4 : decode y_M_end.2.1 4 = .ok (.iload_n 1, 1) := by decide +kernel
theorem d_M_end_5 : decode y_M_end.2.1 5 = .ok (.aload_n 0, 1) := by decide +kernel
theorem d_M_end_6 : decode y_M_end.2.1 6 = .ok (.getfield 133, 3) := by decide +kernel
theorem d_M_end_9 : decode y_M_end.2.1 9 = .ok (.if_icmp .le 5, 3) := by decide +kernel
theorem d_M_end_12 : decode y_M_end.2.1 12 = .ok (.iconst (-1), 1) := by decide +kernel
theorem d_M_end_13 : decode y_M_end.2.1 13 = .ok (.ireturn, 1) := by decide +kernel
theorem d_M_end_14 : decode y_M_end.2.1 14 = .ok (.aload_n 0, 1) := by decide +kernel
theorem d_M_end_15 : decode y_M_end.2.1 15 = .ok (.iload_n 1, 1) := by decide +kernel
theorem d_M_end_16 : decode y_M_end.2.1 16 = .ok (.putfield 133, 3) := by decide +kernel
theorem d_M_end_19 : decode y_M_end.2.1 19 = .ok (.iload_n 1, 1) := by decide +kernel
theorem d_M_end_20 : decode y_M_end.2.1 20 = .ok (.ireturn, 1) := by decide +kernel

abbrev y_M_here : MI := (⟨"CricketHayModel", "here", "(I)I"⟩, prog_14_method_5_code, 2, (some .int))
theorem hy_M_here : y_M_here.1.cls ≠ "java/lang/invoke/MethodHandle" ∧ y_M_here.1.cls ≠ "java/lang/invoke/VarHandle" ∧ (parseMethodDescriptor y_M_here.1.desc).map (fun d => d.parameters.length) = some 1 := by decide +kernel
theorem d_M_here_0 : decode y_M_here.2.1 0 = .ok (.aload_n 0, 1) := by decide +kernel
theorem d_M_here_1 : decode y_M_here.2.1 1 = .ok (.getfield 140, 3) := by decide +kernel
theorem d_M_here_4 : decode y_M_here.2.1 4 = .ok (.iload_n 1, 1) := by decide +kernel
theorem d_M_here_5 : decode y_M_here.2.1 5 = .ok (.iadd, 1) := by decide +kernel
theorem d_M_here_6 : decode y_M_here.2.1 6 = .ok (.aload_n 0, 1) := by decide +kernel
theorem d_M_here_7 : decode y_M_here.2.1 7 = .ok (.getfield 143, 3) := by decide +kernel
theorem d_M_here_10 : decode y_M_here.2.1 10 = .ok (.if_icmp .ge 17, 3) := by decide +kernel
theorem d_M_here_13 : decode y_M_here.2.1 13 = .ok (.aload_n 0, 1) := by decide +kernel
theorem d_M_here_14 : decode y_M_here.2.1 14 = .ok (.getfield 7, 3) := by decide +kernel
theorem d_M_here_17 : decode y_M_here.2.1 17 = .ok (.aload_n 0, 1) := by decide +kernel
theorem d_M_here_18 : decode y_M_here.2.1 18 = .ok (.getfield 140, 3) := by decide +kernel
theorem d_M_here_21 : decode y_M_here.2.1 21 = .ok (.iload_n 1, 1) := by decide +kernel
theorem d_M_here_22 : decode y_M_here.2.1 22 = .ok (.iadd, 1) := by decide +kernel
theorem d_M_here_23 : decode y_M_here.2.1 23 = .ok (.iaload, 1) := by decide +kernel
theorem d_M_here_24 : decode y_M_here.2.1 24 = .ok (.goto 4, 3) := by decide +kernel
theorem d_M_here_27 : decode y_M_here.2.1 27 = .ok (.iconst (-1), 1) := by decide +kernel
theorem d_M_here_28 : decode y_M_here.2.1 28 = .ok (.ireturn, 1) := by decide +kernel

abbrev y_M_isLetter : MI := (⟨"CricketHayModel", "isLetter", "(I)Z"⟩, prog_14_method_6_code, 1, (some .boolean))
theorem hy_M_isLetter : y_M_isLetter.1.cls ≠ "java/lang/invoke/MethodHandle" ∧ y_M_isLetter.1.cls ≠ "java/lang/invoke/VarHandle" ∧ (parseMethodDescriptor y_M_isLetter.1.desc).map (fun d => d.parameters.length) = some 1 := by decide +kernel
theorem d_M_isLetter_0 : decode y_M_isLetter.2.1 0 = .ok (.iload_n 0, 1) := by decide +kernel
theorem d_M_isLetter_1 : decode y_M_isLetter.2.1 1 = .ok (.bipush 97, 2) := by decide +kernel
theorem d_M_isLetter_3 : decode y_M_isLetter.2.1 3 = .ok (.if_icmp .lt 13, 3) := by decide +kernel
theorem d_M_isLetter_6 : decode y_M_isLetter.2.1 6 = .ok (.iload_n 0, 1) := by decide +kernel
theorem d_M_isLetter_7 : decode y_M_isLetter.2.1 7 = .ok (.bipush 122, 2) := by decide +kernel
theorem d_M_isLetter_9 : decode y_M_isLetter.2.1 9 = .ok (.if_icmp .gt 7, 3) := by decide +kernel
theorem d_M_isLetter_12 : decode y_M_isLetter.2.1 12 = .ok (.iconst 1, 1) := by decide +kernel
theorem d_M_isLetter_13 : decode y_M_isLetter.2.1 13 = .ok (.goto 4, 3) := by decide +kernel
theorem d_M_isLetter_16 : decode y_M_isLetter.2.1 16 = .ok (.iconst 0, 1) := by decide +kernel
theorem d_M_isLetter_17 : decode y_M_isLetter.2.1 17 = .ok (.ireturn, 1) := by decide +kernel

abbrev y_M_isDigit : MI := (⟨"CricketHayModel", "isDigit", "(I)Z"⟩, prog_14_method_7_code, 1, (some .boolean))
theorem hy_M_isDigit : y_M_isDigit.1.cls ≠ "java/lang/invoke/MethodHandle" ∧ y_M_isDigit.1.cls ≠ "java/lang/invoke/VarHandle" ∧ (parseMethodDescriptor y_M_isDigit.1.desc).map (fun d => d.parameters.length) = some 1 := by decide +kernel
theorem d_M_isDigit_0 : decode y_M_isDigit.2.1 0 = .ok (.iload_n 0, 1) := by decide +kernel
theorem d_M_isDigit_1 : decode y_M_isDigit.2.1 1 = .ok (.bipush 48, 2) := by decide +kernel
theorem d_M_isDigit_3 : decode y_M_isDigit.2.1 3 = .ok (.if_icmp .lt 13, 3) := by decide +kernel
theorem d_M_isDigit_6 : decode y_M_isDigit.2.1 6 = .ok (.iload_n 0, 1) := by decide +kernel
theorem d_M_isDigit_7 : decode y_M_isDigit.2.1 7 = .ok (.bipush 57, 2) := by decide +kernel
theorem d_M_isDigit_9 : decode y_M_isDigit.2.1 9 = .ok (.if_icmp .gt 7, 3) := by decide +kernel
theorem d_M_isDigit_12 : decode y_M_isDigit.2.1 12 = .ok (.iconst 1, 1) := by decide +kernel
theorem d_M_isDigit_13 : decode y_M_isDigit.2.1 13 = .ok (.goto 4, 3) := by decide +kernel
theorem d_M_isDigit_16 : decode y_M_isDigit.2.1 16 = .ok (.iconst 0, 1) := by decide +kernel
theorem d_M_isDigit_17 : decode y_M_isDigit.2.1 17 = .ok (.ireturn, 1) := by decide +kernel

abbrev y_M_isSign : MI := (⟨"CricketHayModel", "isSign", "(I)Z"⟩, prog_14_method_8_code, 1, (some .boolean))
theorem hy_M_isSign : y_M_isSign.1.cls ≠ "java/lang/invoke/MethodHandle" ∧ y_M_isSign.1.cls ≠ "java/lang/invoke/VarHandle" ∧ (parseMethodDescriptor y_M_isSign.1.desc).map (fun d => d.parameters.length) = some 1 := by decide +kernel
theorem d_M_isSign_0 : decode y_M_isSign.2.1 0 = .ok (.iload_n 0, 1) := by decide +kernel
theorem d_M_isSign_1 : decode y_M_isSign.2.1 1 = .ok (.bipush 59, 2) := by decide +kernel
theorem d_M_isSign_3 : decode y_M_isSign.2.1 3 = .ok (.if_icmp .eq 63, 3) := by decide +kernel
theorem d_M_isSign_6 : decode y_M_isSign.2.1 6 = .ok (.iload_n 0, 1) := by decide +kernel
theorem d_M_isSign_7 : decode y_M_isSign.2.1 7 = .ok (.bipush 40, 2) := by decide +kernel
theorem d_M_isSign_9 : decode y_M_isSign.2.1 9 = .ok (.if_icmp .eq 57, 3) := by decide +kernel
theorem d_M_isSign_12 : decode y_M_isSign.2.1 12 = .ok (.iload_n 0, 1) := by decide +kernel
theorem d_M_isSign_13 : decode y_M_isSign.2.1 13 = .ok (.bipush 41, 2) := by decide +kernel
theorem d_M_isSign_15 : decode y_M_isSign.2.1 15 = .ok (.if_icmp .eq 51, 3) := by decide +kernel
theorem d_M_isSign_18 : decode y_M_isSign.2.1 18 = .ok (.iload_n 0, 1) := by decide +kernel
theorem d_M_isSign_19 : decode y_M_isSign.2.1 19 = .ok (.bipush 60, 2) := by decide +kernel
theorem d_M_isSign_21 : decode y_M_isSign.2.1 21 = .ok (.if_icmp .eq 45, 3) := by decide +kernel
theorem d_M_isSign_24 : decode y_M_isSign.2.1 24 = .ok (.iload_n 0, 1) := by decide +kernel
theorem d_M_isSign_25 : decode y_M_isSign.2.1 25 = .ok (.bipush 62, 2) := by decide +kernel
theorem d_M_isSign_27 : decode y_M_isSign.2.1 27 = .ok (.if_icmp .eq 39, 3) := by decide +kernel
theorem d_M_isSign_30 : decode y_M_isSign.2.1 30 = .ok (.iload_n 0, 1) := by decide +kernel
theorem d_M_isSign_31 : decode y_M_isSign.2.1 31 = .ok (.bipush 61, 2) := by decide +kernel
theorem d_M_isSign_33 : decode y_M_isSign.2.1 33 = .ok (.if_icmp .eq 33, 3) := by decide +kernel
theorem d_M_isSign_36 : decode y_M_isSign.2.1 36 = .ok (.iload_n 0, 1) := by decide +kernel
theorem d_M_isSign_37 : decode y_M_isSign.2.1 37 = .ok (.bipush 43, 2) := by decide +kernel
theorem d_M_isSign_39 : decode y_M_isSign.2.1 39 = .ok (.if_icmp .eq 27, 3) := by decide +kernel
theorem d_M_isSign_42 : decode y_M_isSign.2.1 42 = .ok (.iload_n 0, 1) := by decide +kernel
theorem d_M_isSign_43 : decode y_M_isSign.2.1 43 = .ok (.bipush 45, 2) := by decide +kernel
theorem d_M_isSign_45 : decode y_M_isSign.2.1 45 = .ok (.if_icmp .eq 21, 3) := by decide +kernel
theorem d_M_isSign_48 : decode y_M_isSign.2.1 48 = .ok (.iload_n 0, 1) := by decide +kernel
theorem d_M_isSign_49 : decode y_M_isSign.2.1 49 = .ok (.bipush 42, 2) := by decide +kernel
theorem d_M_isSign_51 : decode y_M_isSign.2.1 51 = .ok (.if_icmp .eq 15, 3) := by decide +kernel
theorem d_M_isSign_54 : decode y_M_isSign.2.1 54 = .ok (.iload_n 0, 1) := by decide +kernel
theorem d_M_isSign_55 : decode y_M_isSign.2.1 55 = .ok (.bipush 47, 2) := by decide +kernel
theorem d_M_isSign_57 : decode y_M_isSign.2.1 57 = .ok (.if_icmp .eq 9, 3) := by decide +kernel
theorem d_M_isSign_60 : decode y_M_isSign.2.1 60 = .ok (.iload_n 0, 1) := by decide +kernel
theorem d_M_isSign_61 : decode y_M_isSign.2.1 61 = .ok (.bipush 37, 2) := by decide +kernel
theorem d_M_isSign_63 : decode y_M_isSign.2.1 63 = .ok (.if_icmp .ne 7, 3) := by decide +kernel
theorem d_M_isSign_66 : decode y_M_isSign.2.1 66 = .ok (.iconst 1, 1) := by decide +kernel
theorem d_M_isSign_67 : decode y_M_isSign.2.1 67 = .ok (.goto 4, 3) := by decide +kernel
theorem d_M_isSign_70 : decode y_M_isSign.2.1 70 = .ok (.iconst 0, 1) := by decide +kernel
theorem d_M_isSign_71 : decode y_M_isSign.2.1 71 = .ok (.ireturn, 1) := by decide +kernel

abbrev y_M_token : MI := (⟨"CricketHayModel", "token", "()V"⟩, prog_14_method_9_code, 3, none)
theorem hy_M_token : y_M_token.1.cls ≠ "java/lang/invoke/MethodHandle" ∧ y_M_token.1.cls ≠ "java/lang/invoke/VarHandle" ∧ (parseMethodDescriptor y_M_token.1.desc).map (fun d => d.parameters.length) = some 0 := by decide +kernel
theorem d_M_token_0 : decode y_M_token.2.1 0 = .ok (.aload_n 0, 1) := by decide +kernel
theorem d_M_token_1 : decode y_M_token.2.1 1 = .ok (.iconst 0, 1) := by decide +kernel
theorem d_M_token_2 : decode y_M_token.2.1 2 = .ok (.invokevirtual 146, 3) := by decide +kernel
theorem d_M_token_5 : decode y_M_token.2.1 5 = .ok (.bipush 32, 2) := by decide +kernel
theorem d_M_token_7 : decode y_M_token.2.1 7 = .ok (.if_icmp .eq 13, 3) := by decide +kernel
theorem d_M_token_10 : decode y_M_token.2.1 10 = .ok (.aload_n 0, 1) := by decide +kernel
theorem d_M_token_11 : decode y_M_token.2.1 11 = .ok (.iconst 0, 1) := by decide +kernel
theorem d_M_token_12 : decode y_M_token.2.1 12 = .ok (.invokevirtual 146, 3) := by decide +kernel
theorem d_M_token_15 : decode y_M_token.2.1 15 = .ok (.bipush 10, 2) := by decide +kernel
theorem d_M_token_17 : decode y_M_token.2.1 17 = .ok (.if_icmp .ne 16, 3) := by decide +kernel
theorem d_M_token_20 : decode y_M_token.2.1 20 = .ok (.aload_n 0, 1) := by decide +kernel
theorem d_M_token_21 : decode y_M_token.2.1 21 = .ok (.dup, 1) := by decide +kernel
theorem d_M_token_22 : decode y_M_token.2.1 22 = .ok (.getfield 140, 3) := by decide +kernel
theorem d_M_token_25 : decode y_M_token.2.1 25 = .ok (.iconst 1, 1) := by decide +kernel
theorem d_M_token_26 : decode y_M_token.2.1 26 = .ok (.iadd, 1) := by decide +kernel
theorem d_M_token_27 : decode y_M_token.2.1 27 = .ok (.putfield 140, 3) := by decide +kernel
theorem d_M_token_30 : decode y_M_token.2.1 30 = .ok (.goto (-30), 3) := by decide +kernel
theorem d_M_token_33 : decode y_M_token.2.1 33 = .ok (.aload_n 0, 1) := by decide +kernel
theorem d_M_token_34 : decode y_M_token.2.1 34 = .ok (.aload_n 0, 1) := by decide +kernel
theorem d_M_token_35 : decode y_M_token.2.1 35 = .ok (.getfield 140, 3) := by decide +kernel
theorem d_M_token_38 : decode y_M_token.2.1 38 = .ok (.putfield 150, 3) := by decide +kernel
theorem d_M_token_41 : decode y_M_token.2.1 41 = .ok (.aload_n 0, 1) := by decide +kernel
theorem d_M_token_42 : decode y_M_token.2.1 42 = .ok (.iconst 0, 1) := by decide +kernel
theorem d_M_token_43 : decode y_M_token.2.1 43 = .ok (.invokevirtual 146, 3) := by decide +kernel
theorem d_M_token_46 : decode y_M_token.2.1 46 = .ok (.istore_n 1, 1) := by decide +kernel
theorem d_M_token_47 : decode y_M_token.2.1 47 = .ok (.iconst 0, 1) := by decide +kernel
theorem d_M_token_48 : decode y_M_token.2.1 48 = .ok (.istore_n 2, 1) := by decide +kernel
theorem d_M_token_49 : decode y_M_token.2.1 49 = .ok (.aload_n 0, 1) := by decide +kernel
theorem d_M_token_50 : decode y_M_token.2.1 50 = .ok (.lconst 0, 1) := by decide +kernel
theorem d_M_token_51 : decode y_M_token.2.1 51 = .ok (.putfield 153, 3) := by decide +kernel
theorem d_M_token_54 : decode y_M_token.2.1 54 = .ok (.aload_n 0, 1) := by decide +kernel
theorem d_M_token_55 : decode y_M_token.2.1 55 = .ok (.iconst 0, 1) := by decide +kernel
theorem d_M_token_56 : decode y_M_token.2.1 56 = .ok (.putfield 157, 3) := by decide +kernel
theorem d_M_token_59 : decode y_M_token.2.1 59 = .ok (.iload_n 1, 1) := by decide +kernel
theorem d_M_token_60 : decode y_M_token.2.1 60 = .ok (.ifCond .ge 11, 3) := by decide +kernel
theorem d_M_token_63 : decode y_M_token.2.1 63 = .ok (.aload_n 0, 1) := by decide +kernel
theorem d_M_token_64 : decode y_M_token.2.1 64 = .ok (.iconst 0, 1) := by decide +kernel
theorem d_M_token_65 : decode y_M_token.2.1 65 = .ok (.putfield 160, 3) := by decide +kernel
theorem d_M_token_68 : decode y_M_token.2.1 68 = .ok (.goto 164, 3) := by decide +kernel
theorem d_M_token_71 : decode y_M_token.2.1 71 = .ok (.iload_n 1, 1) := by decide +kernel
theorem d_M_token_72 : decode y_M_token.2.1 72 = .ok (.invokestatic 163, 3) := by decide +kernel
theorem d_M_token_75 : decode y_M_token.2.1 75 = .ok (.ifCond .eq 62, 3) := by decide +kernel
theorem d_M_token_78 : decode y_M_token.2.1 78 = .ok (.aload_n 0, 1) := by decide +kernel
theorem d_M_token_79 : decode y_M_token.2.1 79 = .ok (.iload_n 2, 1) := by decide +kernel
theorem d_M_token_80 : decode y_M_token.2.1 80 = .ok (.invokevirtual 146, 3) := by decide +kernel
theorem d_M_token_83 : decode y_M_token.2.1 83 = .ok (.invokestatic 163, 3) := by decide +kernel
theorem d_M_token_86 : decode y_M_token.2.1 86 = .ok (.ifCond .eq 33, 3) := by decide +kernel
theorem d_M_token_89 : decode y_M_token.2.1 89 = .ok (.iload_n 2, 1) := by decide +kernel
theorem d_M_token_90 : decode y_M_token.2.1 90 = .ok (.bipush 8, 2) := by decide +kernel
theorem d_M_token_92 : decode y_M_token.2.1 92 = .ok (.if_icmp .ge 21, 3) := by decide +kernel
theorem d_M_token_95 : decode y_M_token.2.1 95 = .ok (.aload_n 0, 1) := by decide +kernel
theorem d_M_token_96 : decode y_M_token.2.1 96 = .ok (.aload_n 0, 1) := by decide +kernel
theorem d_M_token_97 : decode y_M_token.2.1 97 = .ok (.getfield 153, 3) := by decide +kernel
theorem d_M_token_100 : decode y_M_token.2.1 100 = .ok (.bipush 8, 2) := by decide +kernel
theorem d_M_token_102 : decode y_M_token.2.1 102 = .ok (.lshl, 1) := by decide +kernel
theorem d_M_token_103 : decode y_M_token.2.1 103 = .ok (.aload_n 0, 1) := by decide +kernel
theorem d_M_token_104 : decode y_M_token.2.1 104 = .ok (.iload_n 2, 1) := by decide +kernel
theorem d_M_token_105 : decode y_M_token.2.1 105 = .ok (.invokevirtual 146, 3) := by decide +kernel
theorem d_M_token_108 : decode y_M_token.2.1 108 = .ok (.i2l, 1) := by decide +kernel
theorem d_M_token_109 : decode y_M_token.2.1 109 = .ok (.lor, 1) := by decide +kernel
theorem d_M_token_110 : decode y_M_token.2.1 110 = .ok (.putfield 153, 3) := by decide +kernel
theorem d_M_token_113 : decode y_M_token.2.1 113 = .ok (.iinc 2 1, 3) := by decide +kernel
theorem d_M_token_116 : decode y_M_token.2.1 116 = .ok (.goto (-38), 3) := by decide +kernel
theorem d_M_token_119 : decode y_M_token.2.1 119 = .ok (.aload_n 0, 1) := by decide +kernel
theorem d_M_token_120 : decode y_M_token.2.1 120 = .ok (.iload_n 2, 1) := by decide +kernel
theorem d_M_token_121 : decode y_M_token.2.1 121 = .ok (.bipush 8, 2) := by decide +kernel
theorem d_M_token_123 : decode y_M_token.2.1 123 = .ok (.if_icmp .le 7, 3) := by decide +kernel
theorem d_M_token_126 : decode y_M_token.2.1 126 = .ok (.iconst 3, 1) := by decide +kernel
theorem d_M_token_127 : decode y_M_token.2.1 127 = .ok (.goto 4, 3) := by decide +kernel
theorem d_M_token_130 : decode y_M_token.2.1 130 = .ok (.iconst 1, 1) := by decide +kernel
theorem d_M_token_131 : decode y_M_token.2.1 131 = .ok (.putfield 160, 3) := by decide +kernel
theorem d_M_token_134 : decode y_M_token.2.1 134 = .ok (.goto 98, 3) := by decide +kernel
theorem d_M_token_137 : decode y_M_token.2.1 137 = .ok (.iload_n 1, 1) := by decide +kernel
theorem d_M_token_138 : decode y_M_token.2.1 138 = .ok (.invokestatic 167, 3) := by decide +kernel
theorem d_M_token_141 : decode y_M_token.2.1 141 = .ok (.ifCond .eq 73, 3) := by decide +kernel
theorem d_M_token_144 : decode y_M_token.2.1 144 = .ok (.aload_n 0, 1) := by decide +kernel
theorem d_M_token_145 : decode y_M_token.2.1 145 = .ok (.iload_n 2, 1) := by decide +kernel
theorem d_M_token_146 : decode y_M_token.2.1 146 = .ok (.invokevirtual 146, 3) := by decide +kernel
theorem d_M_token_149 : decode y_M_token.2.1 149 = .ok (.invokestatic 167, 3) := by decide +kernel
theorem d_M_token_152 : decode y_M_token.2.1 152 = .ok (.ifCond .eq 34, 3) := by decide +kernel
theorem d_M_token_155 : decode y_M_token.2.1 155 = .ok (.iload_n 2, 1) := by decide +kernel
theorem d_M_token_156 : decode y_M_token.2.1 156 = .ok (.iconst 4, 1) := by decide +kernel
theorem d_M_token_157 : decode y_M_token.2.1 157 = .ok (.if_icmp .ge 23, 3) := by decide +kernel
theorem d_M_token_160 : decode y_M_token.2.1 160 = .ok (.aload_n 0, 1) := by decide +kernel
theorem d_M_token_161 : decode y_M_token.2.1 161 = .ok (.bipush 10, 2) := by decide +kernel
theorem d_M_token_163 : decode y_M_token.2.1 163 = .ok (.aload_n 0, 1) := by decide +kernel
theorem d_M_token_164 : decode y_M_token.2.1 164 = .ok (.getfield 157, 3) := by decide +kernel
theorem d_M_token_167 : decode y_M_token.2.1 167 = .ok (.imul, 1) := by decide +kernel
theorem d_M_token_168 : decode y_M_token.2.1 168 = .ok (.aload_n 0, 1) := by decide +kernel
theorem d_M_token_169 : decode y_M_token.2.1 169 = .ok (.iload_n 2, 1) := by decide +kernel
theorem d_M_token_170 : decode y_M_token.2.1 170 = .ok (.invokevirtual 146, 3) := by decide +kernel
theorem d_M_token_173 : decode y_M_token.2.1 173 = .ok (.iadd, 1) := by decide +kernel
theorem d_M_token_174 : decode y_M_token.2.1 174 = .ok (.bipush 48, 2) := by decide +kernel
theorem d_M_token_176 : decode y_M_token.2.1 176 = .ok (.isub, 1) := by decide +kernel
theorem d_M_token_177 : decode y_M_token.2.1 177 = .ok (.putfield 157, 3) := by decide +kernel
theorem d_M_token_180 : decode y_M_token.2.1 180 = .ok (.iinc 2 1, 3) := by decide +kernel
theorem d_M_token_183 : decode y_M_token.2.1 183 = .ok (.goto (-39), 3) := by decide +kernel
theorem d_M_token_186 : decode y_M_token.2.1 186 = .ok (.aload_n 0, 1) := by decide +kernel
theorem d_M_token_187 : decode y_M_token.2.1 187 = .ok (.iload_n 2, 1) := by decide +kernel
theorem d_M_token_188 : decode y_M_token.2.1 188 = .ok (.iconst 4, 1) := by decide +kernel
theorem d_M_token_189 : decode y_M_token.2.1 189 = .ok (.if_icmp .gt 14, 3) := by decide +kernel
theorem d_M_token_192 : decode y_M_token.2.1 192 = .ok (.aload_n 0, 1) := by decide +kernel
theorem d_M_token_193 : decode y_M_token.2.1 193 = .ok (.iload_n 2, 1) := by decide +kernel
theorem d_M_token_194 : decode y_M_token.2.1 194 = .ok (.invokevirtual 146, 3) := by decide +kernel
theorem d_M_token_197 : decode y_M_token.2.1 197 = .ok (.invokestatic 163, 3) := by decide +kernel
theorem d_M_token_200 : decode y_M_token.2.1 200 = .ok (.ifCond .eq 7, 3) := by decide +kernel
theorem d_M_token_203 : decode y_M_token.2.1 203 = .ok (.iconst 3, 1) := by decide +kernel
theorem d_M_token_204 : decode y_M_token.2.1 204 = .ok (.goto 4, 3) := by decide +kernel
theorem d_M_token_207 : decode y_M_token.2.1 207 = .ok (.iconst 2, 1) := by decide +kernel
theorem d_M_token_208 : decode y_M_token.2.1 208 = .ok (.putfield 160, 3) := by decide +kernel
theorem d_M_token_211 : decode y_M_token.2.1 211 = .ok (.goto 21, 3) := by decide +kernel
theorem d_M_token_214 : decode y_M_token.2.1 214 = .ok (.iconst 1, 1) := by decide +kernel
theorem d_M_token_215 : decode y_M_token.2.1 215 = .ok (.istore_n 2, 1) := by decide +kernel
theorem d_M_token_216 : decode y_M_token.2.1 216 = .ok (.aload_n 0, 1) := by decide +kernel
theorem d_M_token_217 : decode y_M_token.2.1 217 = .ok (.iload_n 1, 1) := by decide +kernel
theorem d_M_token_218 : decode y_M_token.2.1 218 = .ok (.invokestatic 170, 3) := by decide +kernel
theorem d_M_token_221 : decode y_M_token.2.1 221 = .ok (.ifCond .eq 7, 3) := by decide +kernel
theorem d_M_token_224 : decode y_M_token.2.1 224 = .ok (.iload_n 1, 1) := by decide +kernel
theorem d_M_token_225 : decode y_M_token.2.1 225 = .ok (.goto 4, 3) := by decide +kernel
theorem d_M_token_228 : decode y_M_token.2.1 228 = .ok (.iconst 3, 1) := by decide +kernel
theorem d_M_token_229 : decode y_M_token.2.1 229 = .ok (.putfield 160, 3) := by decide +kernel
theorem d_M_token_232 : decode y_M_token.2.1 232 = .ok (.aload_n 0, 1) := by decide +kernel
theorem d_M_token_233 : decode y_M_token.2.1 233 = .ok (.getfield 160, 3) := by decide +kernel
theorem d_M_token_236 : decode y_M_token.2.1 236 = .ok (.iconst 3, 1) := by decide +kernel
theorem d_M_token_237 : decode y_M_token.2.1 237 = .ok (.if_icmp .eq 13, 3) := by decide +kernel
theorem d_M_token_240 : decode y_M_token.2.1 240 = .ok (.aload_n 0, 1) := by decide +kernel
theorem d_M_token_241 : decode y_M_token.2.1 241 = .ok (.dup, 1) := by decide +kernel
theorem d_M_token_242 : decode y_M_token.2.1 242 = .ok (.getfield 140, 3) := by decide +kernel
theorem d_M_token_245 : decode y_M_token.2.1 245 = .ok (.iload_n 2, 1) := by decide +kernel
theorem d_M_token_246 : decode y_M_token.2.1 246 = .ok (.iadd, 1) := by decide +kernel
theorem d_M_token_247 : decode y_M_token.2.1 247 = .ok (.putfield 140, 3) := by decide +kernel
theorem d_M_token_250 : decode y_M_token.2.1 250 = .ok (.return_, 1) := by decide +kernel

abbrev y_M_wrong : MI := (⟨"CricketHayModel", "wrong", "(I)V"⟩, prog_14_method_10_code, 2, none)
theorem hy_M_wrong : y_M_wrong.1.cls ≠ "java/lang/invoke/MethodHandle" ∧ y_M_wrong.1.cls ≠ "java/lang/invoke/VarHandle" ∧ (parseMethodDescriptor y_M_wrong.1.desc).map (fun d => d.parameters.length) = some 1 := by decide +kernel
theorem d_M_wrong_0 : decode y_M_wrong.2.1 0 = .ok (.aload_n 0, 1) := by decide +kernel
theorem d_M_wrong_1 : decode y_M_wrong.2.1 1 = .ok (.getfield 173, 3) := by decide +kernel
theorem d_M_wrong_4 : decode y_M_wrong.2.1 4 = .ok (.ifCond .le 4, 3) := by decide +kernel
theorem d_M_wrong_7 : decode y_M_wrong.2.1 7 = .ok (.return_, 1) := by decide +kernel
theorem d_M_wrong_8 : decode y_M_wrong.2.1 8 = .ok (.aload_n 0, 1) := by decide +kernel
theorem d_M_wrong_9 : decode y_M_wrong.2.1 9 = .ok (.aload_n 0, 1) := by decide +kernel
theorem d_M_wrong_10 : decode y_M_wrong.2.1 10 = .ok (.getfield 160, 3) := by decide +kernel
theorem d_M_wrong_13 : decode y_M_wrong.2.1 13 = .ok (.iconst 3, 1) := by decide +kernel
theorem d_M_wrong_14 : decode y_M_wrong.2.1 14 = .ok (.if_icmp .ne 7, 3) := by decide +kernel
theorem d_M_wrong_17 : decode y_M_wrong.2.1 17 = .ok (.iconst 1, 1) := by decide +kernel
theorem d_M_wrong_18 : decode y_M_wrong.2.1 18 = .ok (.goto 4, 3) := by decide +kernel
theorem d_M_wrong_21 : decode y_M_wrong.2.1 21 = .ok (.iload_n 1, 1) := by decide +kernel
theorem d_M_wrong_22 : decode y_M_wrong.2.1 22 = .ok (.putfield 173, 3) := by decide +kernel
theorem d_M_wrong_25 : decode y_M_wrong.2.1 25 = .ok (.aload_n 0, 1) := by decide +kernel
theorem d_M_wrong_26 : decode y_M_wrong.2.1 26 = .ok (.aload_n 0, 1) := by decide +kernel
theorem d_M_wrong_27 : decode y_M_wrong.2.1 27 = .ok (.getfield 150, 3) := by decide +kernel
theorem d_M_wrong_30 : decode y_M_wrong.2.1 30 = .ok (.putfield 13, 3) := by decide +kernel
theorem d_M_wrong_33 : decode y_M_wrong.2.1 33 = .ok (.return_, 1) := by decide +kernel
def f_M_four_l3  (a1 : Int32)  : Nat → Int32 → AH → Option AH
  | 0, _, _ => none
  | n + 1, x2, h =>
    if x2 < 0 then
      some h
    else
      gx (hI h 383 1) 1600 <|
      lt (sI h 384 (ix (hI h 383 1)) ((a1 >>> (x2 &&& 31)) &&& (255 : Int32))) fun hq2 =>
      lt (sI hq2 383 1 ((hI hq2 383 1) + (1 : Int32))) fun hq3 =>
      lt (x2 + (-8 : Int32)) fun xq4 =>
      f_M_four_l3 a1 n xq4 hq3
set_option maxHeartbeats 2000000 in
theorem o_M_four_l3 {G : AE} {n : Nat} (hn : NN ≤ n)  {a1 : Int32}   : ∀ (n0 : Nat) (x2 : Int32) (h : AH), AJ G n y_M_four (1) φV 3 [some (.ref 383), some (.int a1), some (.int x2)] [] h (f_M_four_l3 a1 n0 x2 h) := by
  intro n0
  induction n0 with
  | zero => intros; exact r_none
  | succ n0 ih =>
    intro x2 h
    rw [f_M_four_l3]
    refine r_iload_n (pc := 3) (i := 2) d_M_four_3 rfl rfl ?_
    refine r_if_lt (pc := 4) (tgt := 39) d_M_four_4 (by rfl) ?_ ?_
    · exact r_vret (pc := 39) rfl d_M_four_39
    · refine r_aload_n (pc := 7) (i := 0) d_M_four_7 rfl rfl ?_
      refine r_getf (pc := 8) (ci := 12) (k := 0) (C := "CricketHayModel") (T := F_12) (N := 73) (v := .ref 384) (fun s => Std.k s (lc hn rfl) kq_383) rfl (Nat.le_of_ble_eq_true rfl) rfl w_1090 (fun s => vr rfl (Std.r s (lc hn rfl) rq_383_0)) d_M_four_8 ?_
      refine r_aload_n (pc := 11) (i := 0) d_M_four_11 rfl rfl ?_
      refine r_getf (pc := 12) (ci := 12) (k := 1) (C := "CricketHayModel") (T := F_12) (N := 73) (v := .int (hI h 383 1)) (fun s => Std.k s (lc hn rfl) kq_383) rfl (Nat.le_of_ble_eq_true rfl) rfl w_1091 (fun _ => rfl) d_M_four_12 ?_
      refine r_iload_n (pc := 15) (i := 1) d_M_four_15 rfl rfl ?_
      refine r_iload_n (pc := 16) (i := 2) d_M_four_16 rfl rfl ?_
      refine r_ishr (pc := 17) d_M_four_17 ?_
      refine r_sipush (pc := 18) (v := 255) d_M_four_18 (by rfl) ?_
      refine r_iand (pc := 21) d_M_four_21 ?_
      refine r_gx (fun zq1 => ?_)
      refine r_iast (pc := 22) (n := 1600) (i0 := (ix (hI h 383 1))) (fun s => Std.k s (lc hn rfl) kq_384) zq1 rfl (fun s => Std.sI s _ _ _) d_M_four_22 ?_
      refine r_ltH (fun hq2 => ?_)
      refine r_aload_n (pc := 23) (i := 0) d_M_four_23 rfl rfl ?_
      refine r_dup (pc := 24) d_M_four_24 rfl ?_
      refine r_getf (pc := 25) (ci := 12) (k := 1) (C := "CricketHayModel") (T := F_12) (N := 73) (v := .int (hI hq2 383 1)) (fun s => Std.k s (lc hn rfl) kq_383) rfl (Nat.le_of_ble_eq_true rfl) rfl w_1091 (fun _ => rfl) d_M_four_25 ?_
      refine r_iconst (pc := 28) (v := 1) d_M_four_28 (by rfl) ?_
      refine r_iadd (pc := 29) d_M_four_29 ?_
      refine r_putI (pc := 30) (ci := 12) (k := 1) (C := "CricketHayModel") (T := F_12) (N := 73) (fun s => Std.k s (lc hn rfl) kq_383) rfl (Nat.le_of_ble_eq_true rfl) rfl rfl w_1091 (fun _ _ => rfl) (fun _ => rfl) (fun _ => rfl) (fun s => Std.sI s _ _ _) d_M_four_30 ?_
      refine r_ltH (fun hq3 => ?_)
      refine r_ltE (fun xq4 exq4 => ?_)
      refine r_iinc (pc := 33) (v := xq4) (lv1 := [some (.ref 383), some (.int a1), some (.int xq4)]) d_M_four_33 rfl exq4.symm (Nat.le_of_ble_eq_true rfl) rfl ?_
      refine r_goto (pc := 36) (tgt := 3) d_M_four_36 (by rfl) ?_
      exact r_wk (ih xq4 hq3) ⟨rfl, ⟨rfl, ⟨rfl, trivial⟩⟩⟩
def f_M_four  (a1 : Int32) (h : AH) : Option AH :=
  f_M_four_l3 a1 FU (24 : Int32) h
set_option maxHeartbeats 2000000 in
theorem ok_M_four {G : AE} {n : Nat} (hn : NN ≤ n)  (a1 : Int32) (h : AH) : OK G n y_M_four (1) φV [.ref 383, .int a1] h (f_M_four a1 h) := by
  refine ok_of (y := y_M_four) (lv0 := [some (.ref 383), some (.int a1), none]) (by decide +kernel) (Nat.le_of_ble_eq_true rfl) ⟨rfl, ⟨rfl, trivial⟩⟩ ?_
  rw [f_M_four]
  refine r_bipush (pc := 0) (v := 24) d_M_four_0 (by rfl) ?_
  refine r_istore_n (pc := 2) (i := 2) (lv1 := [some (.ref 383), some (.int a1), some (.int (24 : Int32))]) d_M_four_2 rfl (Nat.le_of_ble_eq_true rfl) rfl ?_
  exact r_wk (o_M_four_l3 hn FU (24 : Int32) h) ⟨rfl, ⟨rfl, ⟨rfl, trivial⟩⟩⟩

def f_M_feed  (a1 : Int32) (a2 : Int32) (a3 : Int32) (a4 : Int32) (a5 : Int32) (h : AH) : Option (Int32 × AH) :=
  if ((hI h 383 1) + (20 : Int32)) ≤ (1600 : Int32) then
    bV (f_M_four a1 h) fun hq1 =>
    bV (f_M_four a2 hq1) fun hq2 =>
    bV (f_M_four a3 hq2) fun hq3 =>
    bV (f_M_four a4 hq3) fun hq4 =>
    bV (f_M_four a5 hq4) fun hq5 =>
    some ((hI hq5 383 1), hq5)
  else
    some ((-1 : Int32), h)
set_option maxHeartbeats 2000000 in
theorem ok_M_feed {G : AE} {n : Nat} (hn : NN ≤ n)  (a1 : Int32) (a2 : Int32) (a3 : Int32) (a4 : Int32) (a5 : Int32) (h : AH) : OK G n y_M_feed (2) φI [.ref 383, .int a1, .int a2, .int a3, .int a4, .int a5] h (f_M_feed a1 a2 a3 a4 a5 h) := by
  refine ok_of (y := y_M_feed) (lv0 := [some (.ref 383), some (.int a1), some (.int a2), some (.int a3), some (.int a4), some (.int a5)]) (by decide +kernel) (Nat.le_of_ble_eq_true rfl) ⟨rfl, ⟨rfl, ⟨rfl, ⟨rfl, ⟨rfl, ⟨rfl, trivial⟩⟩⟩⟩⟩⟩ ?_
  rw [f_M_feed]
  refine r_aload_n (pc := 0) (i := 0) d_M_feed_0 rfl rfl ?_
  refine r_getf (pc := 1) (ci := 12) (k := 1) (C := "CricketHayModel") (T := F_12) (N := 73) (v := .int (hI h 383 1)) (fun s => Std.k s (lc hn rfl) kq_383) rfl (Nat.le_of_ble_eq_true rfl) rfl w_1091 (fun _ => rfl) d_M_feed_1 ?_
  refine r_bipush (pc := 4) (v := 20) d_M_feed_4 (by rfl) ?_
  refine r_iadd (pc := 6) d_M_feed_6 ?_
  refine r_sipush (pc := 7) (v := 1600) d_M_feed_7 (by rfl) ?_
  refine r_icmp_le (pc := 10) (tgt := 15) d_M_feed_10 (by rfl) ?_ ?_
  · refine r_aload_n (pc := 15) (i := 0) d_M_feed_15 rfl rfl ?_
    refine r_iload_n (pc := 16) (i := 1) d_M_feed_16 rfl rfl ?_
    refine r_cVv (pc := 17) (T := F_12) (N := 73) (st := []) (ok_M_four hn a1 h) (fun s => Std.k s (lc hn rfl) kq_383) rfl w_1317 w_13 w_1314 w_1316 ws_47 hy_M_four ⟨Nat.le_of_ble_eq_true rfl, Nat.le_of_ble_eq_true rfl⟩ ⟨Nat.le_of_ble_eq_true rfl, Nat.le_of_ble_eq_true rfl⟩ rfl (Nat.le_of_ble_eq_true rfl) d_M_feed_17 (fun hq1 => ?_)
    refine r_aload_n (pc := 20) (i := 0) d_M_feed_20 rfl rfl ?_
    refine r_iload_n (pc := 21) (i := 2) d_M_feed_21 rfl rfl ?_
    refine r_cVv (pc := 22) (T := F_12) (N := 73) (st := []) (ok_M_four hn a2 hq1) (fun s => Std.k s (lc hn rfl) kq_383) rfl w_1317 w_13 w_1314 w_1316 ws_47 hy_M_four ⟨Nat.le_of_ble_eq_true rfl, Nat.le_of_ble_eq_true rfl⟩ ⟨Nat.le_of_ble_eq_true rfl, Nat.le_of_ble_eq_true rfl⟩ rfl (Nat.le_of_ble_eq_true rfl) d_M_feed_22 (fun hq2 => ?_)
    refine r_aload_n (pc := 25) (i := 0) d_M_feed_25 rfl rfl ?_
    refine r_iload_n (pc := 26) (i := 3) d_M_feed_26 rfl rfl ?_
    refine r_cVv (pc := 27) (T := F_12) (N := 73) (st := []) (ok_M_four hn a3 hq2) (fun s => Std.k s (lc hn rfl) kq_383) rfl w_1317 w_13 w_1314 w_1316 ws_47 hy_M_four ⟨Nat.le_of_ble_eq_true rfl, Nat.le_of_ble_eq_true rfl⟩ ⟨Nat.le_of_ble_eq_true rfl, Nat.le_of_ble_eq_true rfl⟩ rfl (Nat.le_of_ble_eq_true rfl) d_M_feed_27 (fun hq3 => ?_)
    refine r_aload_n (pc := 30) (i := 0) d_M_feed_30 rfl rfl ?_
    refine r_iload (pc := 31) d_M_feed_31 rfl ?_
    refine r_cVv (pc := 33) (T := F_12) (N := 73) (st := []) (ok_M_four hn a4 hq3) (fun s => Std.k s (lc hn rfl) kq_383) rfl w_1317 w_13 w_1314 w_1316 ws_47 hy_M_four ⟨Nat.le_of_ble_eq_true rfl, Nat.le_of_ble_eq_true rfl⟩ ⟨Nat.le_of_ble_eq_true rfl, Nat.le_of_ble_eq_true rfl⟩ rfl (Nat.le_of_ble_eq_true rfl) d_M_feed_33 (fun hq4 => ?_)
    refine r_aload_n (pc := 36) (i := 0) d_M_feed_36 rfl rfl ?_
    refine r_iload (pc := 37) d_M_feed_37 rfl ?_
    refine r_cVv (pc := 39) (T := F_12) (N := 73) (st := []) (ok_M_four hn a5 hq4) (fun s => Std.k s (lc hn rfl) kq_383) rfl w_1317 w_13 w_1314 w_1316 ws_47 hy_M_four ⟨Nat.le_of_ble_eq_true rfl, Nat.le_of_ble_eq_true rfl⟩ ⟨Nat.le_of_ble_eq_true rfl, Nat.le_of_ble_eq_true rfl⟩ rfl (Nat.le_of_ble_eq_true rfl) d_M_feed_39 (fun hq5 => ?_)
    refine r_aload_n (pc := 42) (i := 0) d_M_feed_42 rfl rfl ?_
    refine r_getf (pc := 43) (ci := 12) (k := 1) (C := "CricketHayModel") (T := F_12) (N := 73) (v := .int (hI hq5 383 1)) (fun s => Std.k s (lc hn rfl) kq_383) rfl (Nat.le_of_ble_eq_true rfl) rfl w_1091 (fun _ => rfl) d_M_feed_43 ?_
    exact r_iret (pc := 46) rfl d_M_feed_46
  · refine r_iconst (pc := 13) (v := -1) d_M_feed_13 (by rfl) ?_
    exact r_iret (pc := 14) rfl d_M_feed_14

def f_M_end  (a1 : Int32) (h : AH) : Option (Int32 × AH) :=
  if a1 < 0 then
    some ((-1 : Int32), h)
  else
    if a1 ≤ (hI h 383 1) then
      lt (sI h 383 1 a1) fun hq1 =>
      some (a1, hq1)
    else
      some ((-1 : Int32), h)
set_option maxHeartbeats 2000000 in
theorem ok_M_end {G : AE} {n : Nat} (hn : NN ≤ n)  (a1 : Int32) (h : AH) : OK G n y_M_end (1) φI [.ref 383, .int a1] h (f_M_end a1 h) := by
  refine ok_of (y := y_M_end) (lv0 := [some (.ref 383), some (.int a1)]) (by decide +kernel) (Nat.le_of_ble_eq_true rfl) ⟨rfl, ⟨rfl, trivial⟩⟩ ?_
  rw [f_M_end]
  refine r_iload_n (pc := 0) (i := 1) d_M_end_0 rfl rfl ?_
  refine r_if_lt (pc := 1) (tgt := 12) d_M_end_1 (by rfl) ?_ ?_
  · refine r_iconst (pc := 12) (v := -1) d_M_end_12 (by rfl) ?_
    exact r_iret (pc := 13) rfl d_M_end_13
  · refine r_iload_n (pc := 4) (i := 1) d_M_end_4 rfl rfl ?_
    refine r_aload_n (pc := 5) (i := 0) d_M_end_5 rfl rfl ?_
    refine r_getf (pc := 6) (ci := 12) (k := 1) (C := "CricketHayModel") (T := F_12) (N := 73) (v := .int (hI h 383 1)) (fun s => Std.k s (lc hn rfl) kq_383) rfl (Nat.le_of_ble_eq_true rfl) rfl w_1091 (fun _ => rfl) d_M_end_6 ?_
    refine r_icmp_le (pc := 9) (tgt := 14) d_M_end_9 (by rfl) ?_ ?_
    · refine r_aload_n (pc := 14) (i := 0) d_M_end_14 rfl rfl ?_
      refine r_iload_n (pc := 15) (i := 1) d_M_end_15 rfl rfl ?_
      refine r_putI (pc := 16) (ci := 12) (k := 1) (C := "CricketHayModel") (T := F_12) (N := 73) (fun s => Std.k s (lc hn rfl) kq_383) rfl (Nat.le_of_ble_eq_true rfl) rfl rfl w_1091 (fun _ _ => rfl) (fun _ => rfl) (fun _ => rfl) (fun s => Std.sI s _ _ _) d_M_end_16 ?_
      refine r_ltH (fun hq1 => ?_)
      refine r_iload_n (pc := 19) (i := 1) d_M_end_19 rfl rfl ?_
      exact r_iret (pc := 20) rfl d_M_end_20
    · refine r_iconst (pc := 12) (v := -1) d_M_end_12 (by rfl) ?_
      exact r_iret (pc := 13) rfl d_M_end_13

def f_M_here  (a1 : Int32) (h : AH) : Option (Int32 × AH) :=
  if (hI h 383 5) ≤ ((hI h 383 4) + a1) then
    some ((-1 : Int32), h)
  else
    gx ((hI h 383 4) + a1) 1600 <|
    some ((hI h 384 (ix ((hI h 383 4) + a1))), h)
set_option maxHeartbeats 2000000 in
theorem ok_M_here {G : AE} {n : Nat} (hn : NN ≤ n)  (a1 : Int32) (h : AH) : OK G n y_M_here (1) φI [.ref 383, .int a1] h (f_M_here a1 h) := by
  refine ok_of (y := y_M_here) (lv0 := [some (.ref 383), some (.int a1)]) (by decide +kernel) (Nat.le_of_ble_eq_true rfl) ⟨rfl, ⟨rfl, trivial⟩⟩ ?_
  rw [f_M_here]
  refine r_aload_n (pc := 0) (i := 0) d_M_here_0 rfl rfl ?_
  refine r_getf (pc := 1) (ci := 12) (k := 4) (C := "CricketHayModel") (T := F_12) (N := 73) (v := .int (hI h 383 4)) (fun s => Std.k s (lc hn rfl) kq_383) rfl (Nat.le_of_ble_eq_true rfl) rfl w_1094 (fun _ => rfl) d_M_here_1 ?_
  refine r_iload_n (pc := 4) (i := 1) d_M_here_4 rfl rfl ?_
  refine r_iadd (pc := 5) d_M_here_5 ?_
  refine r_aload_n (pc := 6) (i := 0) d_M_here_6 rfl rfl ?_
  refine r_getf (pc := 7) (ci := 12) (k := 5) (C := "CricketHayModel") (T := F_12) (N := 73) (v := .int (hI h 383 5)) (fun s => Std.k s (lc hn rfl) kq_383) rfl (Nat.le_of_ble_eq_true rfl) rfl w_1095 (fun _ => rfl) d_M_here_7 ?_
  refine r_icmp_ge (pc := 10) (tgt := 27) d_M_here_10 (by rfl) ?_ ?_
  · refine r_iconst (pc := 27) (v := -1) d_M_here_27 (by rfl) ?_
    exact r_iret (pc := 28) rfl d_M_here_28
  · refine r_aload_n (pc := 13) (i := 0) d_M_here_13 rfl rfl ?_
    refine r_getf (pc := 14) (ci := 12) (k := 0) (C := "CricketHayModel") (T := F_12) (N := 73) (v := .ref 384) (fun s => Std.k s (lc hn rfl) kq_383) rfl (Nat.le_of_ble_eq_true rfl) rfl w_1090 (fun s => vr rfl (Std.r s (lc hn rfl) rq_383_0)) d_M_here_14 ?_
    refine r_aload_n (pc := 17) (i := 0) d_M_here_17 rfl rfl ?_
    refine r_getf (pc := 18) (ci := 12) (k := 4) (C := "CricketHayModel") (T := F_12) (N := 73) (v := .int (hI h 383 4)) (fun s => Std.k s (lc hn rfl) kq_383) rfl (Nat.le_of_ble_eq_true rfl) rfl w_1094 (fun _ => rfl) d_M_here_18 ?_
    refine r_iload_n (pc := 21) (i := 1) d_M_here_21 rfl rfl ?_
    refine r_iadd (pc := 22) d_M_here_22 ?_
    refine r_gx (fun zq1 => ?_)
    refine r_iald (pc := 23) (n := 1600) (i0 := (ix ((hI h 383 4) + a1))) (fun s => Std.k s (lc hn rfl) kq_384) zq1 rfl d_M_here_23 ?_
    refine r_goto (pc := 24) (tgt := 28) d_M_here_24 (by rfl) ?_
    exact r_iret (pc := 28) rfl d_M_here_28

def f_M_isLetter  (a0 : Int32) (h : AH) : Option (Int32 × AH) :=
  if a0 < (97 : Int32) then
    some ((0 : Int32), h)
  else
    if (122 : Int32) < a0 then
      some ((0 : Int32), h)
    else
      some ((1 : Int32), h)
set_option maxHeartbeats 2000000 in
theorem ok_M_isLetter {G : AE} {n : Nat} (hn : NN ≤ n)  (a0 : Int32) (h : AH) : OK G n y_M_isLetter (1) φI [.int a0] h (f_M_isLetter a0 h) := by
  refine ok_of (y := y_M_isLetter) (lv0 := [some (.int a0)]) (by decide +kernel) (Nat.le_of_ble_eq_true rfl) ⟨rfl, trivial⟩ ?_
  rw [f_M_isLetter]
  refine r_iload_n (pc := 0) (i := 0) d_M_isLetter_0 rfl rfl ?_
  refine r_bipush (pc := 1) (v := 97) d_M_isLetter_1 (by rfl) ?_
  refine r_icmp_lt (pc := 3) (tgt := 16) d_M_isLetter_3 (by rfl) ?_ ?_
  · refine r_iconst (pc := 16) (v := 0) d_M_isLetter_16 (by rfl) ?_
    exact r_zret (pc := 17) rfl rfl d_M_isLetter_17
  · refine r_iload_n (pc := 6) (i := 0) d_M_isLetter_6 rfl rfl ?_
    refine r_bipush (pc := 7) (v := 122) d_M_isLetter_7 (by rfl) ?_
    refine r_icmp_gt (pc := 9) (tgt := 16) d_M_isLetter_9 (by rfl) ?_ ?_
    · refine r_iconst (pc := 16) (v := 0) d_M_isLetter_16 (by rfl) ?_
      exact r_zret (pc := 17) rfl rfl d_M_isLetter_17
    · refine r_iconst (pc := 12) (v := 1) d_M_isLetter_12 (by rfl) ?_
      refine r_goto (pc := 13) (tgt := 17) d_M_isLetter_13 (by rfl) ?_
      exact r_zret (pc := 17) rfl rfl d_M_isLetter_17

def f_M_isDigit  (a0 : Int32) (h : AH) : Option (Int32 × AH) :=
  if a0 < (48 : Int32) then
    some ((0 : Int32), h)
  else
    if (57 : Int32) < a0 then
      some ((0 : Int32), h)
    else
      some ((1 : Int32), h)
set_option maxHeartbeats 2000000 in
theorem ok_M_isDigit {G : AE} {n : Nat} (hn : NN ≤ n)  (a0 : Int32) (h : AH) : OK G n y_M_isDigit (1) φI [.int a0] h (f_M_isDigit a0 h) := by
  refine ok_of (y := y_M_isDigit) (lv0 := [some (.int a0)]) (by decide +kernel) (Nat.le_of_ble_eq_true rfl) ⟨rfl, trivial⟩ ?_
  rw [f_M_isDigit]
  refine r_iload_n (pc := 0) (i := 0) d_M_isDigit_0 rfl rfl ?_
  refine r_bipush (pc := 1) (v := 48) d_M_isDigit_1 (by rfl) ?_
  refine r_icmp_lt (pc := 3) (tgt := 16) d_M_isDigit_3 (by rfl) ?_ ?_
  · refine r_iconst (pc := 16) (v := 0) d_M_isDigit_16 (by rfl) ?_
    exact r_zret (pc := 17) rfl rfl d_M_isDigit_17
  · refine r_iload_n (pc := 6) (i := 0) d_M_isDigit_6 rfl rfl ?_
    refine r_bipush (pc := 7) (v := 57) d_M_isDigit_7 (by rfl) ?_
    refine r_icmp_gt (pc := 9) (tgt := 16) d_M_isDigit_9 (by rfl) ?_ ?_
    · refine r_iconst (pc := 16) (v := 0) d_M_isDigit_16 (by rfl) ?_
      exact r_zret (pc := 17) rfl rfl d_M_isDigit_17
    · refine r_iconst (pc := 12) (v := 1) d_M_isDigit_12 (by rfl) ?_
      refine r_goto (pc := 13) (tgt := 17) d_M_isDigit_13 (by rfl) ?_
      exact r_zret (pc := 17) rfl rfl d_M_isDigit_17

def f_M_isSign  (a0 : Int32) (h : AH) : Option (Int32 × AH) :=
  if a0 = (59 : Int32) then
    some ((1 : Int32), h)
  else
    if a0 = (40 : Int32) then
      some ((1 : Int32), h)
    else
      if a0 = (41 : Int32) then
        some ((1 : Int32), h)
      else
        if a0 = (60 : Int32) then
          some ((1 : Int32), h)
        else
          if a0 = (62 : Int32) then
            some ((1 : Int32), h)
          else
            if a0 = (61 : Int32) then
              some ((1 : Int32), h)
            else
              if a0 = (43 : Int32) then
                some ((1 : Int32), h)
              else
                if a0 = (45 : Int32) then
                  some ((1 : Int32), h)
                else
                  if a0 = (42 : Int32) then
                    some ((1 : Int32), h)
                  else
                    if a0 = (47 : Int32) then
                      some ((1 : Int32), h)
                    else
                      if ¬ a0 = (37 : Int32) then
                        some ((0 : Int32), h)
                      else
                        some ((1 : Int32), h)
set_option maxHeartbeats 2000000 in
theorem ok_M_isSign {G : AE} {n : Nat} (hn : NN ≤ n)  (a0 : Int32) (h : AH) : OK G n y_M_isSign (1) φI [.int a0] h (f_M_isSign a0 h) := by
  refine ok_of (y := y_M_isSign) (lv0 := [some (.int a0)]) (by decide +kernel) (Nat.le_of_ble_eq_true rfl) ⟨rfl, trivial⟩ ?_
  rw [f_M_isSign]
  refine r_iload_n (pc := 0) (i := 0) d_M_isSign_0 rfl rfl ?_
  refine r_bipush (pc := 1) (v := 59) d_M_isSign_1 (by rfl) ?_
  refine r_icmp_eq (pc := 3) (tgt := 66) d_M_isSign_3 (by rfl) ?_ ?_
  · refine r_iconst (pc := 66) (v := 1) d_M_isSign_66 (by rfl) ?_
    refine r_goto (pc := 67) (tgt := 71) d_M_isSign_67 (by rfl) ?_
    exact r_zret (pc := 71) rfl rfl d_M_isSign_71
  · refine r_iload_n (pc := 6) (i := 0) d_M_isSign_6 rfl rfl ?_
    refine r_bipush (pc := 7) (v := 40) d_M_isSign_7 (by rfl) ?_
    refine r_icmp_eq (pc := 9) (tgt := 66) d_M_isSign_9 (by rfl) ?_ ?_
    · refine r_iconst (pc := 66) (v := 1) d_M_isSign_66 (by rfl) ?_
      refine r_goto (pc := 67) (tgt := 71) d_M_isSign_67 (by rfl) ?_
      exact r_zret (pc := 71) rfl rfl d_M_isSign_71
    · refine r_iload_n (pc := 12) (i := 0) d_M_isSign_12 rfl rfl ?_
      refine r_bipush (pc := 13) (v := 41) d_M_isSign_13 (by rfl) ?_
      refine r_icmp_eq (pc := 15) (tgt := 66) d_M_isSign_15 (by rfl) ?_ ?_
      · refine r_iconst (pc := 66) (v := 1) d_M_isSign_66 (by rfl) ?_
        refine r_goto (pc := 67) (tgt := 71) d_M_isSign_67 (by rfl) ?_
        exact r_zret (pc := 71) rfl rfl d_M_isSign_71
      · refine r_iload_n (pc := 18) (i := 0) d_M_isSign_18 rfl rfl ?_
        refine r_bipush (pc := 19) (v := 60) d_M_isSign_19 (by rfl) ?_
        refine r_icmp_eq (pc := 21) (tgt := 66) d_M_isSign_21 (by rfl) ?_ ?_
        · refine r_iconst (pc := 66) (v := 1) d_M_isSign_66 (by rfl) ?_
          refine r_goto (pc := 67) (tgt := 71) d_M_isSign_67 (by rfl) ?_
          exact r_zret (pc := 71) rfl rfl d_M_isSign_71
        · refine r_iload_n (pc := 24) (i := 0) d_M_isSign_24 rfl rfl ?_
          refine r_bipush (pc := 25) (v := 62) d_M_isSign_25 (by rfl) ?_
          refine r_icmp_eq (pc := 27) (tgt := 66) d_M_isSign_27 (by rfl) ?_ ?_
          · refine r_iconst (pc := 66) (v := 1) d_M_isSign_66 (by rfl) ?_
            refine r_goto (pc := 67) (tgt := 71) d_M_isSign_67 (by rfl) ?_
            exact r_zret (pc := 71) rfl rfl d_M_isSign_71
          · refine r_iload_n (pc := 30) (i := 0) d_M_isSign_30 rfl rfl ?_
            refine r_bipush (pc := 31) (v := 61) d_M_isSign_31 (by rfl) ?_
            refine r_icmp_eq (pc := 33) (tgt := 66) d_M_isSign_33 (by rfl) ?_ ?_
            · refine r_iconst (pc := 66) (v := 1) d_M_isSign_66 (by rfl) ?_
              refine r_goto (pc := 67) (tgt := 71) d_M_isSign_67 (by rfl) ?_
              exact r_zret (pc := 71) rfl rfl d_M_isSign_71
            · refine r_iload_n (pc := 36) (i := 0) d_M_isSign_36 rfl rfl ?_
              refine r_bipush (pc := 37) (v := 43) d_M_isSign_37 (by rfl) ?_
              refine r_icmp_eq (pc := 39) (tgt := 66) d_M_isSign_39 (by rfl) ?_ ?_
              · refine r_iconst (pc := 66) (v := 1) d_M_isSign_66 (by rfl) ?_
                refine r_goto (pc := 67) (tgt := 71) d_M_isSign_67 (by rfl) ?_
                exact r_zret (pc := 71) rfl rfl d_M_isSign_71
              · refine r_iload_n (pc := 42) (i := 0) d_M_isSign_42 rfl rfl ?_
                refine r_bipush (pc := 43) (v := 45) d_M_isSign_43 (by rfl) ?_
                refine r_icmp_eq (pc := 45) (tgt := 66) d_M_isSign_45 (by rfl) ?_ ?_
                · refine r_iconst (pc := 66) (v := 1) d_M_isSign_66 (by rfl) ?_
                  refine r_goto (pc := 67) (tgt := 71) d_M_isSign_67 (by rfl) ?_
                  exact r_zret (pc := 71) rfl rfl d_M_isSign_71
                · refine r_iload_n (pc := 48) (i := 0) d_M_isSign_48 rfl rfl ?_
                  refine r_bipush (pc := 49) (v := 42) d_M_isSign_49 (by rfl) ?_
                  refine r_icmp_eq (pc := 51) (tgt := 66) d_M_isSign_51 (by rfl) ?_ ?_
                  · refine r_iconst (pc := 66) (v := 1) d_M_isSign_66 (by rfl) ?_
                    refine r_goto (pc := 67) (tgt := 71) d_M_isSign_67 (by rfl) ?_
                    exact r_zret (pc := 71) rfl rfl d_M_isSign_71
                  · refine r_iload_n (pc := 54) (i := 0) d_M_isSign_54 rfl rfl ?_
                    refine r_bipush (pc := 55) (v := 47) d_M_isSign_55 (by rfl) ?_
                    refine r_icmp_eq (pc := 57) (tgt := 66) d_M_isSign_57 (by rfl) ?_ ?_
                    · refine r_iconst (pc := 66) (v := 1) d_M_isSign_66 (by rfl) ?_
                      refine r_goto (pc := 67) (tgt := 71) d_M_isSign_67 (by rfl) ?_
                      exact r_zret (pc := 71) rfl rfl d_M_isSign_71
                    · refine r_iload_n (pc := 60) (i := 0) d_M_isSign_60 rfl rfl ?_
                      refine r_bipush (pc := 61) (v := 37) d_M_isSign_61 (by rfl) ?_
                      refine r_icmp_ne (pc := 63) (tgt := 70) d_M_isSign_63 (by rfl) ?_ ?_
                      · refine r_iconst (pc := 70) (v := 0) d_M_isSign_70 (by rfl) ?_
                        exact r_zret (pc := 71) rfl rfl d_M_isSign_71
                      · refine r_iconst (pc := 66) (v := 1) d_M_isSign_66 (by rfl) ?_
                        refine r_goto (pc := 67) (tgt := 71) d_M_isSign_67 (by rfl) ?_
                        exact r_zret (pc := 71) rfl rfl d_M_isSign_71

def f_M_token_b232    (x2 : Int32) (h : AH) : Option AH :=
  if (hI h 383 6) = (3 : Int32) then
    some h
  else
    lt (sI h 383 4 ((hI h 383 4) + x2)) fun hq1 =>
    some hq1
set_option maxHeartbeats 2000000 in
theorem o_M_token_b232 {G : AE} {n : Nat} (hn : NN ≤ n)     : ∀ (x2 : Int32) (h : AH), AJ G n y_M_token (2) φV 232 [some (.ref 383), none, some (.int x2)] [] h (f_M_token_b232 x2 h) := by
  intro x2 h
  rw [f_M_token_b232]
  refine r_aload_n (pc := 232) (i := 0) d_M_token_232 rfl rfl ?_
  refine r_getf (pc := 233) (ci := 12) (k := 6) (C := "CricketHayModel") (T := F_12) (N := 73) (v := .int (hI h 383 6)) (fun s => Std.k s (lc hn rfl) kq_383) rfl (Nat.le_of_ble_eq_true rfl) rfl w_1096 (fun _ => rfl) d_M_token_233 ?_
  refine r_iconst (pc := 236) (v := 3) d_M_token_236 (by rfl) ?_
  refine r_icmp_eq (pc := 237) (tgt := 250) d_M_token_237 (by rfl) ?_ ?_
  · exact r_vret (pc := 250) rfl d_M_token_250
  · refine r_aload_n (pc := 240) (i := 0) d_M_token_240 rfl rfl ?_
    refine r_dup (pc := 241) d_M_token_241 rfl ?_
    refine r_getf (pc := 242) (ci := 12) (k := 4) (C := "CricketHayModel") (T := F_12) (N := 73) (v := .int (hI h 383 4)) (fun s => Std.k s (lc hn rfl) kq_383) rfl (Nat.le_of_ble_eq_true rfl) rfl w_1094 (fun _ => rfl) d_M_token_242 ?_
    refine r_iload_n (pc := 245) (i := 2) d_M_token_245 rfl rfl ?_
    refine r_iadd (pc := 246) d_M_token_246 ?_
    refine r_putI (pc := 247) (ci := 12) (k := 4) (C := "CricketHayModel") (T := F_12) (N := 73) (fun s => Std.k s (lc hn rfl) kq_383) rfl (Nat.le_of_ble_eq_true rfl) rfl rfl w_1094 (fun _ _ => rfl) (fun _ => rfl) (fun _ => rfl) (fun s => Std.sI s _ _ _) d_M_token_247 ?_
    refine r_ltH (fun hq1 => ?_)
    exact r_vret (pc := 250) rfl d_M_token_250
def f_M_token_b229    (x2 : Int32) (v1 : Int32) (h : AH) : Option AH :=
  lt (sI h 383 6 v1) fun hq1 =>
  f_M_token_b232 x2 hq1
set_option maxHeartbeats 2000000 in
theorem o_M_token_b229 {G : AE} {n : Nat} (hn : NN ≤ n)     : ∀ (x2 : Int32) (v1 : Int32) (h : AH), AJ G n y_M_token (2) φV 229 [some (.ref 383), none, some (.int x2)] [.int v1, .ref 383] h (f_M_token_b229 x2 v1 h) := by
  intro x2 v1 h
  rw [f_M_token_b229]
  refine r_putI (pc := 229) (ci := 12) (k := 6) (C := "CricketHayModel") (T := F_12) (N := 73) (fun s => Std.k s (lc hn rfl) kq_383) rfl (Nat.le_of_ble_eq_true rfl) rfl rfl w_1096 (fun _ _ => rfl) (fun _ => rfl) (fun _ => rfl) (fun s => Std.sI s _ _ _) d_M_token_229 ?_
  refine r_ltH (fun hq1 => ?_)
  exact r_wk (o_M_token_b232 hn x2 hq1) ⟨rfl, ⟨rfl, trivial⟩⟩
def f_M_token_b208    (x2 : Int32) (v1 : Int32) (h : AH) : Option AH :=
  lt (sI h 383 6 v1) fun hq1 =>
  f_M_token_b232 x2 hq1
set_option maxHeartbeats 2000000 in
theorem o_M_token_b208 {G : AE} {n : Nat} (hn : NN ≤ n)     : ∀ (x2 : Int32) (v1 : Int32) (h : AH), AJ G n y_M_token (2) φV 208 [some (.ref 383), none, some (.int x2)] [.int v1, .ref 383] h (f_M_token_b208 x2 v1 h) := by
  intro x2 v1 h
  rw [f_M_token_b208]
  refine r_putI (pc := 208) (ci := 12) (k := 6) (C := "CricketHayModel") (T := F_12) (N := 73) (fun s => Std.k s (lc hn rfl) kq_383) rfl (Nat.le_of_ble_eq_true rfl) rfl rfl w_1096 (fun _ _ => rfl) (fun _ => rfl) (fun _ => rfl) (fun s => Std.sI s _ _ _) d_M_token_208 ?_
  refine r_ltH (fun hq1 => ?_)
  refine r_goto (pc := 211) (tgt := 232) d_M_token_211 (by rfl) ?_
  exact r_wk (o_M_token_b232 hn x2 hq1) ⟨rfl, ⟨rfl, trivial⟩⟩
def f_M_token_b203    (x2 : Int32) (h : AH) : Option AH :=
  f_M_token_b208 x2 (3 : Int32) h
set_option maxHeartbeats 2000000 in
theorem o_M_token_b203 {G : AE} {n : Nat} (hn : NN ≤ n)     : ∀ (x2 : Int32) (h : AH), AJ G n y_M_token (2) φV 203 [some (.ref 383), none, some (.int x2)] [.ref 383] h (f_M_token_b203 x2 h) := by
  intro x2 h
  rw [f_M_token_b203]
  refine r_iconst (pc := 203) (v := 3) d_M_token_203 (by rfl) ?_
  refine r_goto (pc := 204) (tgt := 208) d_M_token_204 (by rfl) ?_
  exact r_wk (o_M_token_b208 hn x2 (3 : Int32) h) ⟨rfl, ⟨rfl, trivial⟩⟩
def f_M_token_l144    : Nat → Int32 → AH → Option AH
  | 0, _, _ => none
  | n + 1, x2, h =>
    bI (f_M_here x2 h) fun rq1 hq2 =>
    bI (f_M_isDigit rq1 hq2) fun rq3 hq4 =>
    if rq3 = 0 then
      if (4 : Int32) < x2 then
        f_M_token_b203 x2 hq4
      else
        bI (f_M_here x2 hq4) fun rq5 hq6 =>
        bI (f_M_isLetter rq5 hq6) fun rq7 hq8 =>
        if rq7 = 0 then
          f_M_token_b208 x2 (2 : Int32) hq8
        else
          f_M_token_b203 x2 hq8
    else
      if (4 : Int32) ≤ x2 then
        lt (x2 + (1 : Int32)) fun xq9 =>
        f_M_token_l144 n xq9 hq4
      else
        bI (f_M_here x2 hq4) fun rq10 hq11 =>
        lt (sI hq11 383 8 ((((10 : Int32) * (hI hq4 383 8)) + rq10) - (48 : Int32))) fun hq12 =>
        lt (x2 + (1 : Int32)) fun xq13 =>
        f_M_token_l144 n xq13 hq12
set_option maxHeartbeats 2000000 in
theorem o_M_token_l144 {G : AE} {n : Nat} (hn : NN ≤ n)     : ∀ (n0 : Nat) (x2 : Int32) (h : AH), AJ G n y_M_token (2) φV 144 [some (.ref 383), none, some (.int x2)] [] h (f_M_token_l144 n0 x2 h) := by
  intro n0
  induction n0 with
  | zero => intros; exact r_none
  | succ n0 ih =>
    intro x2 h
    rw [f_M_token_l144]
    refine r_aload_n (pc := 144) (i := 0) d_M_token_144 rfl rfl ?_
    refine r_iload_n (pc := 145) (i := 2) d_M_token_145 rfl rfl ?_
    refine r_cVi (pc := 146) (T := F_12) (N := 73) (st := []) (ok_M_here hn x2 h) (fun s => Std.k s (lc hn rfl) kq_383) rfl w_1337 w_13 w_1334 w_1336 ws_50 hy_M_here ⟨Nat.le_of_ble_eq_true rfl, Nat.le_of_ble_eq_true rfl⟩ ⟨Nat.le_of_ble_eq_true rfl, Nat.le_of_ble_eq_true rfl⟩ rfl (Nat.le_of_ble_eq_true rfl) d_M_token_146 (fun rq1 hq2 => ?_)
    refine r_cSi (pc := 149) (st := []) (ok_M_isDigit hn rq1 hq2) w_1343 w_13 w_1341 w_1342 hy_M_isDigit ⟨Nat.le_of_ble_eq_true rfl, Nat.le_of_ble_eq_true rfl⟩ ⟨Nat.le_of_ble_eq_true rfl, Nat.le_of_ble_eq_true rfl⟩ rfl (Nat.le_of_ble_eq_true rfl) d_M_token_149 (fun rq3 hq4 => ?_)
    refine r_if_eq (pc := 152) (tgt := 186) d_M_token_152 (by rfl) ?_ ?_
    · refine r_aload_n (pc := 186) (i := 0) d_M_token_186 rfl rfl ?_
      refine r_iload_n (pc := 187) (i := 2) d_M_token_187 rfl rfl ?_
      refine r_iconst (pc := 188) (v := 4) d_M_token_188 (by rfl) ?_
      refine r_icmp_gt (pc := 189) (tgt := 203) d_M_token_189 (by rfl) ?_ ?_
      · exact r_wk (o_M_token_b203 hn x2 hq4) ⟨rfl, ⟨rfl, trivial⟩⟩
      · refine r_aload_n (pc := 192) (i := 0) d_M_token_192 rfl rfl ?_
        refine r_iload_n (pc := 193) (i := 2) d_M_token_193 rfl rfl ?_
        refine r_cVi (pc := 194) (T := F_12) (N := 73) (st := [.ref 383]) (ok_M_here hn x2 hq4) (fun s => Std.k s (lc hn rfl) kq_383) rfl w_1337 w_13 w_1334 w_1336 ws_50 hy_M_here ⟨Nat.le_of_ble_eq_true rfl, Nat.le_of_ble_eq_true rfl⟩ ⟨Nat.le_of_ble_eq_true rfl, Nat.le_of_ble_eq_true rfl⟩ rfl (Nat.le_of_ble_eq_true rfl) d_M_token_194 (fun rq5 hq6 => ?_)
        refine r_cSi (pc := 197) (st := [.ref 383]) (ok_M_isLetter hn rq5 hq6) w_1340 w_13 w_1338 w_1339 hy_M_isLetter ⟨Nat.le_of_ble_eq_true rfl, Nat.le_of_ble_eq_true rfl⟩ ⟨Nat.le_of_ble_eq_true rfl, Nat.le_of_ble_eq_true rfl⟩ rfl (Nat.le_of_ble_eq_true rfl) d_M_token_197 (fun rq7 hq8 => ?_)
        refine r_if_eq (pc := 200) (tgt := 207) d_M_token_200 (by rfl) ?_ ?_
        · refine r_iconst (pc := 207) (v := 2) d_M_token_207 (by rfl) ?_
          exact r_wk (o_M_token_b208 hn x2 (2 : Int32) hq8) ⟨rfl, ⟨rfl, trivial⟩⟩
        · exact r_wk (o_M_token_b203 hn x2 hq8) ⟨rfl, ⟨rfl, trivial⟩⟩
    · refine r_iload_n (pc := 155) (i := 2) d_M_token_155 rfl rfl ?_
      refine r_iconst (pc := 156) (v := 4) d_M_token_156 (by rfl) ?_
      refine r_icmp_ge (pc := 157) (tgt := 180) d_M_token_157 (by rfl) ?_ ?_
      · refine r_ltE (fun xq9 exq9 => ?_)
        refine r_iinc (pc := 180) (v := xq9) (lv1 := [some (.ref 383), none, some (.int xq9)]) d_M_token_180 rfl exq9.symm (Nat.le_of_ble_eq_true rfl) rfl ?_
        refine r_goto (pc := 183) (tgt := 144) d_M_token_183 (by rfl) ?_
        exact r_wk (ih xq9 hq4) ⟨rfl, ⟨rfl, trivial⟩⟩
      · refine r_aload_n (pc := 160) (i := 0) d_M_token_160 rfl rfl ?_
        refine r_bipush (pc := 161) (v := 10) d_M_token_161 (by rfl) ?_
        refine r_aload_n (pc := 163) (i := 0) d_M_token_163 rfl rfl ?_
        refine r_getf (pc := 164) (ci := 12) (k := 8) (C := "CricketHayModel") (T := F_12) (N := 73) (v := .int (hI hq4 383 8)) (fun s => Std.k s (lc hn rfl) kq_383) rfl (Nat.le_of_ble_eq_true rfl) rfl w_1098 (fun _ => rfl) d_M_token_164 ?_
        refine r_imul (pc := 167) d_M_token_167 ?_
        refine r_aload_n (pc := 168) (i := 0) d_M_token_168 rfl rfl ?_
        refine r_iload_n (pc := 169) (i := 2) d_M_token_169 rfl rfl ?_
        refine r_cVi (pc := 170) (T := F_12) (N := 73) (st := [.int ((10 : Int32) * (hI hq4 383 8)), .ref 383]) (ok_M_here hn x2 hq4) (fun s => Std.k s (lc hn rfl) kq_383) rfl w_1337 w_13 w_1334 w_1336 ws_50 hy_M_here ⟨Nat.le_of_ble_eq_true rfl, Nat.le_of_ble_eq_true rfl⟩ ⟨Nat.le_of_ble_eq_true rfl, Nat.le_of_ble_eq_true rfl⟩ rfl (Nat.le_of_ble_eq_true rfl) d_M_token_170 (fun rq10 hq11 => ?_)
        refine r_iadd (pc := 173) d_M_token_173 ?_
        refine r_bipush (pc := 174) (v := 48) d_M_token_174 (by rfl) ?_
        refine r_isub (pc := 176) d_M_token_176 ?_
        refine r_putI (pc := 177) (ci := 12) (k := 8) (C := "CricketHayModel") (T := F_12) (N := 73) (fun s => Std.k s (lc hn rfl) kq_383) rfl (Nat.le_of_ble_eq_true rfl) rfl rfl w_1098 (fun _ _ => rfl) (fun _ => rfl) (fun _ => rfl) (fun s => Std.sI s _ _ _) d_M_token_177 ?_
        refine r_ltH (fun hq12 => ?_)
        refine r_ltE (fun xq13 exq13 => ?_)
        refine r_iinc (pc := 180) (v := xq13) (lv1 := [some (.ref 383), none, some (.int xq13)]) d_M_token_180 rfl exq13.symm (Nat.le_of_ble_eq_true rfl) rfl ?_
        refine r_goto (pc := 183) (tgt := 144) d_M_token_183 (by rfl) ?_
        exact r_wk (ih xq13 hq12) ⟨rfl, ⟨rfl, trivial⟩⟩
def f_M_token_b131    (x2 : Int32) (v1 : Int32) (h : AH) : Option AH :=
  lt (sI h 383 6 v1) fun hq1 =>
  f_M_token_b232 x2 hq1
set_option maxHeartbeats 2000000 in
theorem o_M_token_b131 {G : AE} {n : Nat} (hn : NN ≤ n)     : ∀ (x2 : Int32) (v1 : Int32) (h : AH), AJ G n y_M_token (2) φV 131 [some (.ref 383), none, some (.int x2)] [.int v1, .ref 383] h (f_M_token_b131 x2 v1 h) := by
  intro x2 v1 h
  rw [f_M_token_b131]
  refine r_putI (pc := 131) (ci := 12) (k := 6) (C := "CricketHayModel") (T := F_12) (N := 73) (fun s => Std.k s (lc hn rfl) kq_383) rfl (Nat.le_of_ble_eq_true rfl) rfl rfl w_1096 (fun _ _ => rfl) (fun _ => rfl) (fun _ => rfl) (fun s => Std.sI s _ _ _) d_M_token_131 ?_
  refine r_ltH (fun hq1 => ?_)
  refine r_goto (pc := 134) (tgt := 232) d_M_token_134 (by rfl) ?_
  exact r_wk (o_M_token_b232 hn x2 hq1) ⟨rfl, ⟨rfl, trivial⟩⟩
def f_M_token_l78    : Nat → Int32 → AH → Option AH
  | 0, _, _ => none
  | n + 1, x2, h =>
    bI (f_M_here x2 h) fun rq1 hq2 =>
    bI (f_M_isLetter rq1 hq2) fun rq3 hq4 =>
    if rq3 = 0 then
      if x2 ≤ (8 : Int32) then
        f_M_token_b131 x2 (1 : Int32) hq4
      else
        f_M_token_b131 x2 (3 : Int32) hq4
    else
      if (8 : Int32) ≤ x2 then
        lt (x2 + (1 : Int32)) fun xq5 =>
        f_M_token_l78 n xq5 hq4
      else
        bI (f_M_here x2 hq4) fun rq6 hq7 =>
        lt (sL hq7 383 9 ((lshl (hL hq4 383 9) (8 : Int32)) ||| (Int32.toInt64 rq6))) fun hq8 =>
        lt (x2 + (1 : Int32)) fun xq9 =>
        f_M_token_l78 n xq9 hq8
set_option maxHeartbeats 2000000 in
theorem o_M_token_l78 {G : AE} {n : Nat} (hn : NN ≤ n)     : ∀ (n0 : Nat) (x2 : Int32) (h : AH), AJ G n y_M_token (2) φV 78 [some (.ref 383), none, some (.int x2)] [] h (f_M_token_l78 n0 x2 h) := by
  intro n0
  induction n0 with
  | zero => intros; exact r_none
  | succ n0 ih =>
    intro x2 h
    rw [f_M_token_l78]
    refine r_aload_n (pc := 78) (i := 0) d_M_token_78 rfl rfl ?_
    refine r_iload_n (pc := 79) (i := 2) d_M_token_79 rfl rfl ?_
    refine r_cVi (pc := 80) (T := F_12) (N := 73) (st := []) (ok_M_here hn x2 h) (fun s => Std.k s (lc hn rfl) kq_383) rfl w_1337 w_13 w_1334 w_1336 ws_50 hy_M_here ⟨Nat.le_of_ble_eq_true rfl, Nat.le_of_ble_eq_true rfl⟩ ⟨Nat.le_of_ble_eq_true rfl, Nat.le_of_ble_eq_true rfl⟩ rfl (Nat.le_of_ble_eq_true rfl) d_M_token_80 (fun rq1 hq2 => ?_)
    refine r_cSi (pc := 83) (st := []) (ok_M_isLetter hn rq1 hq2) w_1340 w_13 w_1338 w_1339 hy_M_isLetter ⟨Nat.le_of_ble_eq_true rfl, Nat.le_of_ble_eq_true rfl⟩ ⟨Nat.le_of_ble_eq_true rfl, Nat.le_of_ble_eq_true rfl⟩ rfl (Nat.le_of_ble_eq_true rfl) d_M_token_83 (fun rq3 hq4 => ?_)
    refine r_if_eq (pc := 86) (tgt := 119) d_M_token_86 (by rfl) ?_ ?_
    · refine r_aload_n (pc := 119) (i := 0) d_M_token_119 rfl rfl ?_
      refine r_iload_n (pc := 120) (i := 2) d_M_token_120 rfl rfl ?_
      refine r_bipush (pc := 121) (v := 8) d_M_token_121 (by rfl) ?_
      refine r_icmp_le (pc := 123) (tgt := 130) d_M_token_123 (by rfl) ?_ ?_
      · refine r_iconst (pc := 130) (v := 1) d_M_token_130 (by rfl) ?_
        exact r_wk (o_M_token_b131 hn x2 (1 : Int32) hq4) ⟨rfl, ⟨rfl, trivial⟩⟩
      · refine r_iconst (pc := 126) (v := 3) d_M_token_126 (by rfl) ?_
        refine r_goto (pc := 127) (tgt := 131) d_M_token_127 (by rfl) ?_
        exact r_wk (o_M_token_b131 hn x2 (3 : Int32) hq4) ⟨rfl, ⟨rfl, trivial⟩⟩
    · refine r_iload_n (pc := 89) (i := 2) d_M_token_89 rfl rfl ?_
      refine r_bipush (pc := 90) (v := 8) d_M_token_90 (by rfl) ?_
      refine r_icmp_ge (pc := 92) (tgt := 113) d_M_token_92 (by rfl) ?_ ?_
      · refine r_ltE (fun xq5 exq5 => ?_)
        refine r_iinc (pc := 113) (v := xq5) (lv1 := [some (.ref 383), none, some (.int xq5)]) d_M_token_113 rfl exq5.symm (Nat.le_of_ble_eq_true rfl) rfl ?_
        refine r_goto (pc := 116) (tgt := 78) d_M_token_116 (by rfl) ?_
        exact r_wk (ih xq5 hq4) ⟨rfl, ⟨rfl, trivial⟩⟩
      · refine r_aload_n (pc := 95) (i := 0) d_M_token_95 rfl rfl ?_
        refine r_aload_n (pc := 96) (i := 0) d_M_token_96 rfl rfl ?_
        refine r_getf (pc := 97) (ci := 12) (k := 9) (C := "CricketHayModel") (T := F_12) (N := 73) (v := .long (hL hq4 383 9)) (fun s => Std.k s (lc hn rfl) kq_383) rfl (Nat.le_of_ble_eq_true rfl) rfl w_1099 (fun _ => rfl) d_M_token_97 ?_
        refine r_bipush (pc := 100) (v := 8) d_M_token_100 (by rfl) ?_
        refine r_lshl (pc := 102) d_M_token_102 ?_
        refine r_aload_n (pc := 103) (i := 0) d_M_token_103 rfl rfl ?_
        refine r_iload_n (pc := 104) (i := 2) d_M_token_104 rfl rfl ?_
        refine r_cVi (pc := 105) (T := F_12) (N := 73) (st := [.long (lshl (hL hq4 383 9) (8 : Int32)), .ref 383]) (ok_M_here hn x2 hq4) (fun s => Std.k s (lc hn rfl) kq_383) rfl w_1337 w_13 w_1334 w_1336 ws_50 hy_M_here ⟨Nat.le_of_ble_eq_true rfl, Nat.le_of_ble_eq_true rfl⟩ ⟨Nat.le_of_ble_eq_true rfl, Nat.le_of_ble_eq_true rfl⟩ rfl (Nat.le_of_ble_eq_true rfl) d_M_token_105 (fun rq6 hq7 => ?_)
        refine r_i2l (pc := 108) d_M_token_108 ?_
        refine r_lor (pc := 109) d_M_token_109 ?_
        refine r_putL (pc := 110) (ci := 12) (k := 9) (C := "CricketHayModel") (T := F_12) (N := 73) (fun s => Std.k s (lc hn rfl) kq_383) rfl (Nat.le_of_ble_eq_true rfl) rfl rfl w_1099 (fun _ _ => rfl) (fun _ => rfl) (fun _ => rfl) (fun s => Std.sL s _ _ _) d_M_token_110 ?_
        refine r_ltH (fun hq8 => ?_)
        refine r_ltE (fun xq9 exq9 => ?_)
        refine r_iinc (pc := 113) (v := xq9) (lv1 := [some (.ref 383), none, some (.int xq9)]) d_M_token_113 rfl exq9.symm (Nat.le_of_ble_eq_true rfl) rfl ?_
        refine r_goto (pc := 116) (tgt := 78) d_M_token_116 (by rfl) ?_
        exact r_wk (ih xq9 hq8) ⟨rfl, ⟨rfl, trivial⟩⟩
def f_M_token_b20   (k0 : AH → Option AH)  (h : AH) : Option AH :=
  lt (sI h 383 4 ((hI h 383 4) + (1 : Int32))) fun hq1 =>
  k0 hq1
set_option maxHeartbeats 2000000 in
theorem o_M_token_b20 {G : AE} {n : Nat} (hn : NN ≤ n)    {k0 : AH → Option AH} (hk0 : ∀  (h : AH), AJ G n y_M_token (2) φV 0 [some (.ref 383), none, none] [] h (k0 h)) : ∀  (h : AH), AJ G n y_M_token (2) φV 20 [some (.ref 383), none, none] [] h (f_M_token_b20 k0 h) := by
  intro  h
  rw [f_M_token_b20]
  refine r_aload_n (pc := 20) (i := 0) d_M_token_20 rfl rfl ?_
  refine r_dup (pc := 21) d_M_token_21 rfl ?_
  refine r_getf (pc := 22) (ci := 12) (k := 4) (C := "CricketHayModel") (T := F_12) (N := 73) (v := .int (hI h 383 4)) (fun s => Std.k s (lc hn rfl) kq_383) rfl (Nat.le_of_ble_eq_true rfl) rfl w_1094 (fun _ => rfl) d_M_token_22 ?_
  refine r_iconst (pc := 25) (v := 1) d_M_token_25 (by rfl) ?_
  refine r_iadd (pc := 26) d_M_token_26 ?_
  refine r_putI (pc := 27) (ci := 12) (k := 4) (C := "CricketHayModel") (T := F_12) (N := 73) (fun s => Std.k s (lc hn rfl) kq_383) rfl (Nat.le_of_ble_eq_true rfl) rfl rfl w_1094 (fun _ _ => rfl) (fun _ => rfl) (fun _ => rfl) (fun s => Std.sI s _ _ _) d_M_token_27 ?_
  refine r_ltH (fun hq1 => ?_)
  refine r_goto (pc := 30) (tgt := 0) d_M_token_30 (by rfl) ?_
  exact r_wk (hk0 hq1) ⟨rfl, trivial⟩
def f_M_token_l0    : Nat → AH → Option AH
  | 0, _ => none
  | n + 1, h =>
    bI (f_M_here (0 : Int32) h) fun rq1 hq2 =>
    if rq1 = (32 : Int32) then
      f_M_token_b20 (f_M_token_l0 n) hq2
    else
      bI (f_M_here (0 : Int32) hq2) fun rq3 hq4 =>
      if ¬ rq3 = (10 : Int32) then
        lt (sI hq4 383 7 (hI hq4 383 4)) fun hq5 =>
        bI (f_M_here (0 : Int32) hq5) fun rq6 hq7 =>
        lt (sL hq7 383 9 (0 : Int64)) fun hq8 =>
        lt (sI hq8 383 8 (0 : Int32)) fun hq9 =>
        if 0 ≤ rq6 then
          bI (f_M_isLetter rq6 hq9) fun rq10 hq11 =>
          if rq10 = 0 then
            bI (f_M_isDigit rq6 hq11) fun rq12 hq13 =>
            if rq12 = 0 then
              bI (f_M_isSign rq6 hq13) fun rq14 hq15 =>
              if rq14 = 0 then
                f_M_token_b229 (1 : Int32) (3 : Int32) hq15
              else
                f_M_token_b229 (1 : Int32) rq6 hq15
            else
              f_M_token_l144 FU (0 : Int32) hq13
          else
            f_M_token_l78 FU (0 : Int32) hq11
        else
          lt (sI hq9 383 6 (0 : Int32)) fun hq16 =>
          f_M_token_b232 (0 : Int32) hq16
      else
        f_M_token_b20 (f_M_token_l0 n) hq4
set_option maxHeartbeats 2000000 in
theorem o_M_token_l0 {G : AE} {n : Nat} (hn : NN ≤ n)     : ∀ (n0 : Nat)  (h : AH), AJ G n y_M_token (2) φV 0 [some (.ref 383), none, none] [] h (f_M_token_l0 n0 h) := by
  intro n0
  induction n0 with
  | zero => intros; exact r_none
  | succ n0 ih =>
    intro  h
    rw [f_M_token_l0]
    refine r_aload_n (pc := 0) (i := 0) d_M_token_0 rfl rfl ?_
    refine r_iconst (pc := 1) (v := 0) d_M_token_1 (by rfl) ?_
    refine r_cVi (pc := 2) (T := F_12) (N := 73) (st := []) (ok_M_here hn (0 : Int32) h) (fun s => Std.k s (lc hn rfl) kq_383) rfl w_1337 w_13 w_1334 w_1336 ws_50 hy_M_here ⟨Nat.le_of_ble_eq_true rfl, Nat.le_of_ble_eq_true rfl⟩ ⟨Nat.le_of_ble_eq_true rfl, Nat.le_of_ble_eq_true rfl⟩ rfl (Nat.le_of_ble_eq_true rfl) d_M_token_2 (fun rq1 hq2 => ?_)
    refine r_bipush (pc := 5) (v := 32) d_M_token_5 (by rfl) ?_
    refine r_icmp_eq (pc := 7) (tgt := 20) d_M_token_7 (by rfl) ?_ ?_
    · exact r_wk (o_M_token_b20 hn ih hq2) ⟨rfl, trivial⟩
    · refine r_aload_n (pc := 10) (i := 0) d_M_token_10 rfl rfl ?_
      refine r_iconst (pc := 11) (v := 0) d_M_token_11 (by rfl) ?_
      refine r_cVi (pc := 12) (T := F_12) (N := 73) (st := []) (ok_M_here hn (0 : Int32) hq2) (fun s => Std.k s (lc hn rfl) kq_383) rfl w_1337 w_13 w_1334 w_1336 ws_50 hy_M_here ⟨Nat.le_of_ble_eq_true rfl, Nat.le_of_ble_eq_true rfl⟩ ⟨Nat.le_of_ble_eq_true rfl, Nat.le_of_ble_eq_true rfl⟩ rfl (Nat.le_of_ble_eq_true rfl) d_M_token_12 (fun rq3 hq4 => ?_)
      refine r_bipush (pc := 15) (v := 10) d_M_token_15 (by rfl) ?_
      refine r_icmp_ne (pc := 17) (tgt := 33) d_M_token_17 (by rfl) ?_ ?_
      · refine r_aload_n (pc := 33) (i := 0) d_M_token_33 rfl rfl ?_
        refine r_aload_n (pc := 34) (i := 0) d_M_token_34 rfl rfl ?_
        refine r_getf (pc := 35) (ci := 12) (k := 4) (C := "CricketHayModel") (T := F_12) (N := 73) (v := .int (hI hq4 383 4)) (fun s => Std.k s (lc hn rfl) kq_383) rfl (Nat.le_of_ble_eq_true rfl) rfl w_1094 (fun _ => rfl) d_M_token_35 ?_
        refine r_putI (pc := 38) (ci := 12) (k := 7) (C := "CricketHayModel") (T := F_12) (N := 73) (fun s => Std.k s (lc hn rfl) kq_383) rfl (Nat.le_of_ble_eq_true rfl) rfl rfl w_1097 (fun _ _ => rfl) (fun _ => rfl) (fun _ => rfl) (fun s => Std.sI s _ _ _) d_M_token_38 ?_
        refine r_ltH (fun hq5 => ?_)
        refine r_aload_n (pc := 41) (i := 0) d_M_token_41 rfl rfl ?_
        refine r_iconst (pc := 42) (v := 0) d_M_token_42 (by rfl) ?_
        refine r_cVi (pc := 43) (T := F_12) (N := 73) (st := []) (ok_M_here hn (0 : Int32) hq5) (fun s => Std.k s (lc hn rfl) kq_383) rfl w_1337 w_13 w_1334 w_1336 ws_50 hy_M_here ⟨Nat.le_of_ble_eq_true rfl, Nat.le_of_ble_eq_true rfl⟩ ⟨Nat.le_of_ble_eq_true rfl, Nat.le_of_ble_eq_true rfl⟩ rfl (Nat.le_of_ble_eq_true rfl) d_M_token_43 (fun rq6 hq7 => ?_)
        refine r_istore_n (pc := 46) (i := 1) (lv1 := [some (.ref 383), some (.int rq6), none]) d_M_token_46 rfl (Nat.le_of_ble_eq_true rfl) rfl ?_
        refine r_iconst (pc := 47) (v := 0) d_M_token_47 (by rfl) ?_
        refine r_istore_n (pc := 48) (i := 2) (lv1 := [some (.ref 383), some (.int rq6), some (.int (0 : Int32))]) d_M_token_48 rfl (Nat.le_of_ble_eq_true rfl) rfl ?_
        refine r_aload_n (pc := 49) (i := 0) d_M_token_49 rfl rfl ?_
        refine r_lconst (pc := 50) (v := 0) d_M_token_50 (by rfl) ?_
        refine r_putL (pc := 51) (ci := 12) (k := 9) (C := "CricketHayModel") (T := F_12) (N := 73) (fun s => Std.k s (lc hn rfl) kq_383) rfl (Nat.le_of_ble_eq_true rfl) rfl rfl w_1099 (fun _ _ => rfl) (fun _ => rfl) (fun _ => rfl) (fun s => Std.sL s _ _ _) d_M_token_51 ?_
        refine r_ltH (fun hq8 => ?_)
        refine r_aload_n (pc := 54) (i := 0) d_M_token_54 rfl rfl ?_
        refine r_iconst (pc := 55) (v := 0) d_M_token_55 (by rfl) ?_
        refine r_putI (pc := 56) (ci := 12) (k := 8) (C := "CricketHayModel") (T := F_12) (N := 73) (fun s => Std.k s (lc hn rfl) kq_383) rfl (Nat.le_of_ble_eq_true rfl) rfl rfl w_1098 (fun _ _ => rfl) (fun _ => rfl) (fun _ => rfl) (fun s => Std.sI s _ _ _) d_M_token_56 ?_
        refine r_ltH (fun hq9 => ?_)
        refine r_iload_n (pc := 59) (i := 1) d_M_token_59 rfl rfl ?_
        refine r_if_ge (pc := 60) (tgt := 71) d_M_token_60 (by rfl) ?_ ?_
        · refine r_iload_n (pc := 71) (i := 1) d_M_token_71 rfl rfl ?_
          refine r_cSi (pc := 72) (st := []) (ok_M_isLetter hn rq6 hq9) w_1340 w_13 w_1338 w_1339 hy_M_isLetter ⟨Nat.le_of_ble_eq_true rfl, Nat.le_of_ble_eq_true rfl⟩ ⟨Nat.le_of_ble_eq_true rfl, Nat.le_of_ble_eq_true rfl⟩ rfl (Nat.le_of_ble_eq_true rfl) d_M_token_72 (fun rq10 hq11 => ?_)
          refine r_if_eq (pc := 75) (tgt := 137) d_M_token_75 (by rfl) ?_ ?_
          · refine r_iload_n (pc := 137) (i := 1) d_M_token_137 rfl rfl ?_
            refine r_cSi (pc := 138) (st := []) (ok_M_isDigit hn rq6 hq11) w_1343 w_13 w_1341 w_1342 hy_M_isDigit ⟨Nat.le_of_ble_eq_true rfl, Nat.le_of_ble_eq_true rfl⟩ ⟨Nat.le_of_ble_eq_true rfl, Nat.le_of_ble_eq_true rfl⟩ rfl (Nat.le_of_ble_eq_true rfl) d_M_token_138 (fun rq12 hq13 => ?_)
            refine r_if_eq (pc := 141) (tgt := 214) d_M_token_141 (by rfl) ?_ ?_
            · refine r_iconst (pc := 214) (v := 1) d_M_token_214 (by rfl) ?_
              refine r_istore_n (pc := 215) (i := 2) (lv1 := [some (.ref 383), some (.int rq6), some (.int (1 : Int32))]) d_M_token_215 rfl (Nat.le_of_ble_eq_true rfl) rfl ?_
              refine r_aload_n (pc := 216) (i := 0) d_M_token_216 rfl rfl ?_
              refine r_iload_n (pc := 217) (i := 1) d_M_token_217 rfl rfl ?_
              refine r_cSi (pc := 218) (st := [.ref 383]) (ok_M_isSign hn rq6 hq13) w_1346 w_13 w_1344 w_1345 hy_M_isSign ⟨Nat.le_of_ble_eq_true rfl, Nat.le_of_ble_eq_true rfl⟩ ⟨Nat.le_of_ble_eq_true rfl, Nat.le_of_ble_eq_true rfl⟩ rfl (Nat.le_of_ble_eq_true rfl) d_M_token_218 (fun rq14 hq15 => ?_)
              refine r_if_eq (pc := 221) (tgt := 228) d_M_token_221 (by rfl) ?_ ?_
              · refine r_iconst (pc := 228) (v := 3) d_M_token_228 (by rfl) ?_
                exact r_wk (o_M_token_b229 hn (1 : Int32) (3 : Int32) hq15) ⟨rfl, ⟨rfl, trivial⟩⟩
              · refine r_iload_n (pc := 224) (i := 1) d_M_token_224 rfl rfl ?_
                refine r_goto (pc := 225) (tgt := 229) d_M_token_225 (by rfl) ?_
                exact r_wk (o_M_token_b229 hn (1 : Int32) rq6 hq15) ⟨rfl, ⟨rfl, trivial⟩⟩
            · exact r_wk (o_M_token_l144 hn FU (0 : Int32) hq13) ⟨rfl, ⟨rfl, trivial⟩⟩
          · exact r_wk (o_M_token_l78 hn FU (0 : Int32) hq11) ⟨rfl, ⟨rfl, trivial⟩⟩
        · refine r_aload_n (pc := 63) (i := 0) d_M_token_63 rfl rfl ?_
          refine r_iconst (pc := 64) (v := 0) d_M_token_64 (by rfl) ?_
          refine r_putI (pc := 65) (ci := 12) (k := 6) (C := "CricketHayModel") (T := F_12) (N := 73) (fun s => Std.k s (lc hn rfl) kq_383) rfl (Nat.le_of_ble_eq_true rfl) rfl rfl w_1096 (fun _ _ => rfl) (fun _ => rfl) (fun _ => rfl) (fun s => Std.sI s _ _ _) d_M_token_65 ?_
          refine r_ltH (fun hq16 => ?_)
          refine r_goto (pc := 68) (tgt := 232) d_M_token_68 (by rfl) ?_
          exact r_wk (o_M_token_b232 hn (0 : Int32) hq16) ⟨rfl, ⟨rfl, trivial⟩⟩
      · exact r_wk (o_M_token_b20 hn ih hq4) ⟨rfl, trivial⟩
def f_M_token   (h : AH) : Option AH :=
  f_M_token_l0 FU h
set_option maxHeartbeats 2000000 in
theorem ok_M_token {G : AE} {n : Nat} (hn : NN ≤ n)   (h : AH) : OK G n y_M_token (2) φV [.ref 383] h (f_M_token h) := by
  refine ok_of (y := y_M_token) (lv0 := [some (.ref 383), none, none]) (by decide +kernel) (Nat.le_of_ble_eq_true rfl) ⟨rfl, trivial⟩ ?_
  rw [f_M_token]
  exact r_wk (o_M_token_l0 hn FU h) ⟨rfl, trivial⟩

def f_M_wrong_b22  (a1 : Int32)  (v1 : Int32) (h : AH) : Option AH :=
  lt (sI h 383 2 v1) fun hq1 =>
  lt (sI hq1 383 3 (hI hq1 383 7)) fun hq2 =>
  some hq2
set_option maxHeartbeats 2000000 in
theorem o_M_wrong_b22 {G : AE} {n : Nat} (hn : NN ≤ n)  {a1 : Int32}   : ∀ (v1 : Int32) (h : AH), AJ G n y_M_wrong (1) φV 22 [some (.ref 383), none] [.int v1, .ref 383] h (f_M_wrong_b22 a1 v1 h) := by
  intro v1 h
  rw [f_M_wrong_b22]
  refine r_putI (pc := 22) (ci := 12) (k := 2) (C := "CricketHayModel") (T := F_12) (N := 73) (fun s => Std.k s (lc hn rfl) kq_383) rfl (Nat.le_of_ble_eq_true rfl) rfl rfl w_1092 (fun _ _ => rfl) (fun _ => rfl) (fun _ => rfl) (fun s => Std.sI s _ _ _) d_M_wrong_22 ?_
  refine r_ltH (fun hq1 => ?_)
  refine r_aload_n (pc := 25) (i := 0) d_M_wrong_25 rfl rfl ?_
  refine r_aload_n (pc := 26) (i := 0) d_M_wrong_26 rfl rfl ?_
  refine r_getf (pc := 27) (ci := 12) (k := 7) (C := "CricketHayModel") (T := F_12) (N := 73) (v := .int (hI hq1 383 7)) (fun s => Std.k s (lc hn rfl) kq_383) rfl (Nat.le_of_ble_eq_true rfl) rfl w_1097 (fun _ => rfl) d_M_wrong_27 ?_
  refine r_putI (pc := 30) (ci := 12) (k := 3) (C := "CricketHayModel") (T := F_12) (N := 73) (fun s => Std.k s (lc hn rfl) kq_383) rfl (Nat.le_of_ble_eq_true rfl) rfl rfl w_1093 (fun _ _ => rfl) (fun _ => rfl) (fun _ => rfl) (fun s => Std.sI s _ _ _) d_M_wrong_30 ?_
  refine r_ltH (fun hq2 => ?_)
  exact r_vret (pc := 33) rfl d_M_wrong_33
def f_M_wrong  (a1 : Int32) (h : AH) : Option AH :=
  if (hI h 383 2) ≤ 0 then
    if ¬ (hI h 383 6) = (3 : Int32) then
      f_M_wrong_b22 a1 a1 h
    else
      f_M_wrong_b22 a1 (1 : Int32) h
  else
    some h
set_option maxHeartbeats 2000000 in
theorem ok_M_wrong {G : AE} {n : Nat} (hn : NN ≤ n)  (a1 : Int32) (h : AH) : OK G n y_M_wrong (1) φV [.ref 383, .int a1] h (f_M_wrong a1 h) := by
  refine ok_of (y := y_M_wrong) (lv0 := [some (.ref 383), some (.int a1)]) (by decide +kernel) (Nat.le_of_ble_eq_true rfl) ⟨rfl, ⟨rfl, trivial⟩⟩ ?_
  rw [f_M_wrong]
  refine r_aload_n (pc := 0) (i := 0) d_M_wrong_0 rfl rfl ?_
  refine r_getf (pc := 1) (ci := 12) (k := 2) (C := "CricketHayModel") (T := F_12) (N := 73) (v := .int (hI h 383 2)) (fun s => Std.k s (lc hn rfl) kq_383) rfl (Nat.le_of_ble_eq_true rfl) rfl w_1092 (fun _ => rfl) d_M_wrong_1 ?_
  refine r_if_le (pc := 4) (tgt := 8) d_M_wrong_4 (by rfl) ?_ ?_
  · refine r_aload_n (pc := 8) (i := 0) d_M_wrong_8 rfl rfl ?_
    refine r_aload_n (pc := 9) (i := 0) d_M_wrong_9 rfl rfl ?_
    refine r_getf (pc := 10) (ci := 12) (k := 6) (C := "CricketHayModel") (T := F_12) (N := 73) (v := .int (hI h 383 6)) (fun s => Std.k s (lc hn rfl) kq_383) rfl (Nat.le_of_ble_eq_true rfl) rfl w_1096 (fun _ => rfl) d_M_wrong_10 ?_
    refine r_iconst (pc := 13) (v := 3) d_M_wrong_13 (by rfl) ?_
    refine r_icmp_ne (pc := 14) (tgt := 21) d_M_wrong_14 (by rfl) ?_ ?_
    · refine r_iload_n (pc := 21) (i := 1) d_M_wrong_21 rfl rfl ?_
      exact r_wk (o_M_wrong_b22 hn a1 h) ⟨rfl, trivial⟩
    · refine r_iconst (pc := 17) (v := 1) d_M_wrong_17 (by rfl) ?_
      refine r_goto (pc := 18) (tgt := 22) d_M_wrong_18 (by rfl) ?_
      exact r_wk (o_M_wrong_b22 hn (1 : Int32) h) ⟨rfl, trivial⟩
  · exact r_vret (pc := 7) rfl d_M_wrong_7
