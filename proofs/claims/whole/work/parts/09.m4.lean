theorem w_1148 : Cond.fieldLink "CricketHayModel" 106 "CricketHayModel" "depth" "[I" ∈ lw_good := q_t 1148 (by decide +kernel) rfl
theorem w_1149 : Cond.fieldLink "CricketHayModel" 109 "CricketHayModel" "heardHeat" "[I" ∈ lw_good := q_t 1149 (by decide +kernel) rfl
theorem w_1150 : Cond.fieldLink "CricketHayModel" 112 "CricketHayModel" "heardChirps" "[I" ∈ lw_good := q_t 1150 (by decide +kernel) rfl
theorem w_1151 : Cond.fieldLink "CricketHayModel" 115 "CricketHayModel" "heardTold" "[I" ∈ lw_good := q_t 1151 (by decide +kernel) rfl
theorem w_1152 : Cond.fieldLink "CricketHayModel" 118 "CricketHayModel" "heardUntold" "[I" ∈ lw_good := q_t 1152 (by decide +kernel) rfl
theorem w_1153 : Cond.fieldLink "CricketHayModel" 121 "CricketHayModel" "heardIs" "[Z" ∈ lw_good := q_t 1153 (by decide +kernel) rfl
theorem w_1155 : Cond.fieldLink "CricketHayModel" 511 "CricketHayModel" "time" "I" ∈ lw_good := q_t 1155 (by decide +kernel) rfl
theorem w_1156 : Cond.fieldLink "CricketHayModel" 124 "CricketHayModel" "fit" "[Z" ∈ lw_good := q_t 1156 (by decide +kernel) rfl
theorem w_1158 : Cond.fieldLink "CricketHayModel" 130 "CricketHayModel" "boxes" "[I" ∈ lw_good := q_t 1158 (by decide +kernel) rfl
theorem w_1704 : Cond.methodLink "CricketHayModel" 496 ⟨"CricketHayModel", "priceBy", "(III)I"⟩ ∈ lw_good := q_t 1704 (by decide +kernel) rfl
theorem w_1706 : Cond.instanceMethod ⟨"CricketHayModel", "priceBy", "(III)I"⟩ ∈ lw_good := q_t 1706 (by decide +kernel) rfl
theorem w_1707 : Cond.code ⟨"CricketHayModel", "priceBy", "(III)I"⟩ prog_14_method_98_code 6 (some .int) ∈ lw_good := q_t 1707 (by decide +kernel) rfl
theorem w_1712 : Cond.methodLink "CricketHayModel" 508 ⟨"CricketHayModel", "layMatings", "()V"⟩ ∈ lw_good := q_t 1712 (by decide +kernel) rfl
theorem w_1714 : Cond.instanceMethod ⟨"CricketHayModel", "layMatings", "()V"⟩ ∈ lw_good := q_t 1714 (by decide +kernel) rfl
theorem w_1715 : Cond.code ⟨"CricketHayModel", "layMatings", "()V"⟩ prog_14_method_103_code 2 none ∈ lw_good := q_t 1715 (by decide +kernel) rfl
theorem w_1716 : Cond.methodLink "CricketHayModel" 502 ⟨"CricketHayModel", "songsThere", "()I"⟩ ∈ lw_good := q_t 1716 (by decide +kernel) rfl
theorem w_1718 : Cond.instanceMethod ⟨"CricketHayModel", "songsThere", "()I"⟩ ∈ lw_good := q_t 1718 (by decide +kernel) rfl
theorem w_1719 : Cond.code ⟨"CricketHayModel", "songsThere", "()I"⟩ prog_14_method_100_code 3 (some .int) ∈ lw_good := q_t 1719 (by decide +kernel) rfl
theorem w_1720 : Cond.methodLink "CricketHayModel" 505 ⟨"CricketHayModel", "goMatings", "(I)V"⟩ ∈ lw_good := q_t 1720 (by decide +kernel) rfl
theorem w_1722 : Cond.instanceMethod ⟨"CricketHayModel", "goMatings", "(I)V"⟩ ∈ lw_good := q_t 1722 (by decide +kernel) rfl
theorem w_1723 : Cond.code ⟨"CricketHayModel", "goMatings", "(I)V"⟩ prog_14_method_102_code 6 none ∈ lw_good := q_t 1723 (by decide +kernel) rfl
theorem w_1724 : Cond.methodLink "CricketHayModel" 499 ⟨"CricketHayModel", "isSongIn", "(II)Z"⟩ ∈ lw_good := q_t 1724 (by decide +kernel) rfl
theorem w_1725 : Cond.static ⟨"CricketHayModel", "isSongIn", "(II)Z"⟩ ∈ lw_good := q_t 1725 (by decide +kernel) rfl
theorem w_1726 : Cond.code ⟨"CricketHayModel", "isSongIn", "(II)Z"⟩ prog_14_method_101_code 2 (some .boolean) ∈ lw_good := q_t 1726 (by decide +kernel) rfl
theorem w_1747 : Cond.constant "CricketHayModel" 514 (100000) ∈ lw_good := q_t 1747 (by decide +kernel) rfl
theorem w_1752 : Cond.methodLink "CricketHayModel" 518 ⟨"CricketHayModel", "layFits", "(I)I"⟩ ∈ lw_good := q_t 1752 (by decide +kernel) rfl
theorem w_1754 : Cond.instanceMethod ⟨"CricketHayModel", "layFits", "(I)I"⟩ ∈ lw_good := q_t 1754 (by decide +kernel) rfl
theorem w_1755 : Cond.code ⟨"CricketHayModel", "layFits", "(I)I"⟩ prog_14_method_111_code 6 (some .int) ∈ lw_good := q_t 1755 (by decide +kernel) rfl
theorem w_1756 : Cond.methodLink "CricketHayModel" 515 ⟨"CricketHayModel", "isFit", "(III)Z"⟩ ∈ lw_good := q_t 1756 (by decide +kernel) rfl
theorem w_1758 : Cond.instanceMethod ⟨"CricketHayModel", "isFit", "(III)Z"⟩ ∈ lw_good := q_t 1758 (by decide +kernel) rfl
theorem w_1759 : Cond.code ⟨"CricketHayModel", "isFit", "(III)Z"⟩ prog_14_method_110_code 6 (some .boolean) ∈ lw_good := q_t 1759 (by decide +kernel) rfl
theorem w_1768 : Cond.methodLink "CricketHayModel" 521 ⟨"CricketHayModel", "loudAt", "(II)I"⟩ ∈ lw_good := q_t 1768 (by decide +kernel) rfl
theorem w_1770 : Cond.instanceMethod ⟨"CricketHayModel", "loudAt", "(II)I"⟩ ∈ lw_good := q_t 1770 (by decide +kernel) rfl
theorem w_1771 : Cond.code ⟨"CricketHayModel", "loudAt", "(II)I"⟩ prog_14_method_114_code 5 (some .int) ∈ lw_good := q_t 1771 (by decide +kernel) rfl
theorem w_1776 : Cond.methodLink "CricketHayModel" 524 ⟨"CricketHayModel", "isBox", "(I)Z"⟩ ∈ lw_good := q_t 1776 (by decide +kernel) rfl
theorem w_1777 : Cond.static ⟨"CricketHayModel", "isBox", "(I)Z"⟩ ∈ lw_good := q_t 1777 (by decide +kernel) rfl
theorem w_1778 : Cond.code ⟨"CricketHayModel", "isBox", "(I)Z"⟩ prog_14_method_116_code 1 (some .boolean) ∈ lw_good := q_t 1778 (by decide +kernel) rfl
theorem ws_104 : Cond.selects "CricketHayModel" ⟨"CricketHayModel", "priceBy", "(III)I"⟩ ⟨"CricketHayModel", "priceBy", "(III)I"⟩ ∈ lw_good := q_s 104 (by decide +kernel) rfl
theorem ws_105 : Cond.selects "CricketHayModel" ⟨"CricketHayModel", "layMatings", "()V"⟩ ⟨"CricketHayModel", "layMatings", "()V"⟩ ∈ lw_good := q_s 105 (by decide +kernel) rfl
theorem ws_106 : Cond.selects "CricketHayModel" ⟨"CricketHayModel", "songsThere", "()I"⟩ ⟨"CricketHayModel", "songsThere", "()I"⟩ ∈ lw_good := q_s 106 (by decide +kernel) rfl
theorem ws_107 : Cond.selects "CricketHayModel" ⟨"CricketHayModel", "goMatings", "(I)V"⟩ ⟨"CricketHayModel", "goMatings", "(I)V"⟩ ∈ lw_good := q_s 107 (by decide +kernel) rfl
theorem ws_108 : Cond.selects "CricketHayModel" ⟨"CricketHayModel", "layFits", "(I)I"⟩ ⟨"CricketHayModel", "layFits", "(I)I"⟩ ∈ lw_good := q_s 108 (by decide +kernel) rfl
theorem ws_109 : Cond.selects "CricketHayModel" ⟨"CricketHayModel", "isFit", "(III)Z"⟩ ⟨"CricketHayModel", "isFit", "(III)Z"⟩ ∈ lw_good := q_s 109 (by decide +kernel) rfl
theorem ws_110 : Cond.selects "CricketHayModel" ⟨"CricketHayModel", "loudAt", "(II)I"⟩ ⟨"CricketHayModel", "loudAt", "(II)I"⟩ ∈ lw_good := q_s 110 (by decide +kernel) rfl
abbrev y_M_priceBy : MI := (⟨"CricketHayModel", "priceBy", "(III)I"⟩, prog_14_method_98_code, 6, (some .int))
theorem hy_M_priceBy : y_M_priceBy.1.cls ≠ "java/lang/invoke/MethodHandle" ∧ y_M_priceBy.1.cls ≠ "java/lang/invoke/VarHandle" ∧ (parseMethodDescriptor y_M_priceBy.1.desc).map (fun d => d.parameters.length) = some 3 := by decide +kernel
theorem d_M_priceBy_0 : decode y_M_priceBy.2.1 0 = .ok (.aload_n 0, 1) := by decide +kernel
theorem d_M_priceBy_1 : decode y_M_priceBy.2.1 1 = .ok (.iload_n 2, 1) := by decide +kernel
theorem d_M_priceBy_2 : decode y_M_priceBy.2.1 2 = .ok (.invokevirtual 411, 3) := by decide +kernel
theorem d_M_priceBy_5 : decode y_M_priceBy.2.1 5 = .ok (.istore 4, 2) := by decide +kernel
theorem d_M_priceBy_7 : decode y_M_priceBy.2.1 7 = .ok (.aload_n 0, 1) := by decide +kernel
theorem d_M_priceBy_8 : decode y_M_priceBy.2.1 8 = .ok (.iload_n 3, 1) := by decide +kernel
theorem d_M_priceBy_9 : decode y_M_priceBy.2.1 9 = .ok (.invokevirtual 411, 3) := by decide +kernel
theorem d_M_priceBy_12 : decode y_M_priceBy.2.1 12 = .ok (.istore 5, 2) := by decide +kernel
theorem d_M_priceBy_14 : decode y_M_priceBy.2.1 14 = .ok (.iload_n 1, 1) := by decide +kernel
theorem d_M_priceBy_15 : decode y_M_priceBy.2.1 15 = .ok (.iconst 1, 1) := by decide +kernel
theorem d_M_priceBy_16 : decode y_M_priceBy.2.1 16 = .ok (.if_icmp .ne 18, 3) := by decide +kernel
theorem d_M_priceBy_19 : decode y_M_priceBy.2.1 19 = .ok (.iload 4, 2) := by decide +kernel
theorem d_M_priceBy_21 : decode y_M_priceBy.2.1 21 = .ok (.iload 5, 2) := by decide +kernel
theorem d_M_priceBy_23 : decode y_M_priceBy.2.1 23 = .ok (.if_icmp .le 8, 3) := by decide +kernel
theorem d_M_priceBy_26 : decode y_M_priceBy.2.1 26 = .ok (.iload 4, 2) := by decide +kernel
theorem d_M_priceBy_28 : decode y_M_priceBy.2.1 28 = .ok (.goto 5, 3) := by decide +kernel
theorem d_M_priceBy_31 : decode y_M_priceBy.2.1 31 = .ok (.iload 5, 2) := by decide +kernel
theorem d_M_priceBy_33 : decode y_M_priceBy.2.1 33 = .ok (.ireturn, 1) := by decide +kernel
theorem d_M_priceBy_34 : decode y_M_priceBy.2.1 34 = .ok (.iload_n 1, 1) := by decide +kernel
theorem d_M_priceBy_35 : decode y_M_priceBy.2.1 35 = .ok (.iconst 2, 1) := by decide +kernel
theorem d_M_priceBy_36 : decode y_M_priceBy.2.1 36 = .ok (.if_icmp .ne 18, 3) := by decide +kernel
theorem d_M_priceBy_39 : decode y_M_priceBy.2.1 39 = .ok (.iload 4, 2) := by decide +kernel
theorem d_M_priceBy_41 : decode y_M_priceBy.2.1 41 = .ok (.iload 5, 2) := by decide +kernel
theorem d_M_priceBy_43 : decode y_M_priceBy.2.1 43 = .ok (.if_icmp .ge 8, 3) := by decide +kernel
theorem d_M_priceBy_46 : decode y_M_priceBy.2.1 46 = .ok (.iload 4, 2) := by decide +kernel
theorem d_M_priceBy_48 : decode y_M_priceBy.2.1 48 = .ok (.goto 5, 3) := by decide +kernel
theorem d_M_priceBy_51 : decode y_M_priceBy.2.1 51 = .ok (.iload 5, 2) := by decide +kernel
theorem d_M_priceBy_53 : decode y_M_priceBy.2.1 53 = .ok (.ireturn, 1) := by decide +kernel
theorem d_M_priceBy_54 : decode y_M_priceBy.2.1 54 = .ok (.iload 4, 2) := by decide +kernel
theorem d_M_priceBy_56 : decode y_M_priceBy.2.1 56 = .ok (.iload 5, 2) := by decide +kernel
theorem d_M_priceBy_58 : decode y_M_priceBy.2.1 58 = .ok (.iadd, 1) := by decide +kernel
theorem d_M_priceBy_59 : decode y_M_priceBy.2.1 59 = .ok (.ireturn, 1) := by decide +kernel

abbrev y_M_law : MI := (⟨"CricketHayModel", "law", "(I)I"⟩, prog_14_method_99_code, 5, (some .int))
theorem hy_M_law : y_M_law.1.cls ≠ "java/lang/invoke/MethodHandle" ∧ y_M_law.1.cls ≠ "java/lang/invoke/VarHandle" ∧ (parseMethodDescriptor y_M_law.1.desc).map (fun d => d.parameters.length) = some 1 := by decide +kernel
theorem d_M_law_0 : decode y_M_law.2.1 0 = .ok (.iload_n 1, 1) := by decide +kernel
theorem d_M_law_1 : decode y_M_law.2.1 1 = .ok (.iconst 1, 1) := by decide +kernel
theorem d_M_law_2 : decode y_M_law.2.1 2 = .ok (.iconst 3, 1) := by decide +kernel
theorem d_M_law_3 : decode y_M_law.2.1 3 = .ok (.invokestatic 381, 3) := by decide +kernel
theorem d_M_law_6 : decode y_M_law.2.1 6 = .ok (.ifCond .ne 7, 3) := by decide +kernel
theorem d_M_law_9 : decode y_M_law.2.1 9 = .ok (.ldc_w 471, 3) := by decide +kernel
theorem d_M_law_12 : decode y_M_law.2.1 12 = .ok (.ireturn, 1) := by decide +kernel
theorem d_M_law_13 : decode y_M_law.2.1 13 = .ok (.aload_n 0, 1) := by decide +kernel
theorem d_M_law_14 : decode y_M_law.2.1 14 = .ok (.invokevirtual 421, 3) := by decide +kernel
theorem d_M_law_17 : decode y_M_law.2.1 17 = .ok (.aload_n 0, 1) := by decide +kernel
theorem d_M_law_18 : decode y_M_law.2.1 18 = .ok (.invokevirtual 472, 3) := by decide +kernel
theorem d_M_law_21 : decode y_M_law.2.1 21 = .ok (.ineg, 1) := by decide +kernel
theorem d_M_law_22 : decode y_M_law.2.1 22 = .ok (.istore_n 2, 1) := by decide +kernel
theorem d_M_law_23 : decode y_M_law.2.1 23 = .ok (.iconst 0, 1) := by decide +kernel
theorem d_M_law_24 : decode y_M_law.2.1 24 = .ok (.istore_n 3, 1) := by decide +kernel
theorem d_M_law_25 : decode y_M_law.2.1 25 = .ok (.iload_n 3, 1) := by decide +kernel
theorem d_M_law_26 : decode y_M_law.2.1 26 = .ok (.aload_n 0, 1) := by decide +kernel
theorem d_M_law_27 : decode y_M_law.2.1 27 = .ok (.getfield 360, 3) := by decide +kernel
theorem d_M_law_30 : decode y_M_law.2.1 30 = .ok (.if_icmp .ge 35, 3) := by decide +kernel
theorem d_M_law_33 : decode y_M_law.2.1 33 = .ok (.iconst 0, 1) := by decide +kernel
theorem d_M_law_34 : decode y_M_law.2.1 34 = .ok (.istore 4, 2) := by decide +kernel
theorem d_M_law_36 : decode y_M_law.2.1 36 = .ok (.iload 4, 2) := by decide +kernel
theorem d_M_law_38 : decode y_M_law.2.1 38 = .ok (.iload_n 3, 1) := by decide +kernel
theorem d_M_law_39 : decode y_M_law.2.1 39 = .ok (.if_icmp .ge 20, 3) := by decide +kernel
theorem d_M_law_42 : decode y_M_law.2.1 42 = .ok (.iload_n 2, 1) := by decide +kernel
theorem d_M_law_43 : decode y_M_law.2.1 43 = .ok (.aload_n 0, 1) := by decide +kernel
theorem d_M_law_44 : decode y_M_law.2.1 44 = .ok (.iload_n 1, 1) := by decide +kernel
theorem d_M_law_45 : decode y_M_law.2.1 45 = .ok (.iload_n 3, 1) := by decide +kernel
theorem d_M_law_46 : decode y_M_law.2.1 46 = .ok (.iload 4, 2) := by decide +kernel
theorem d_M_law_48 : decode y_M_law.2.1 48 = .ok (.invokevirtual 496, 3) := by decide +kernel
theorem d_M_law_51 : decode y_M_law.2.1 51 = .ok (.iadd, 1) := by decide +kernel
theorem d_M_law_52 : decode y_M_law.2.1 52 = .ok (.istore_n 2, 1) := by decide +kernel
theorem d_M_law_53 : decode y_M_law.2.1 53 = .ok (.iinc 4 1, 3) := by decide +kernel
theorem d_M_law_56 : decode y_M_law.2.1 56 = .ok (.goto (-20), 3) := by decide +kernel
theorem d_M_law_59 : decode y_M_law.2.1 59 = .ok (.iinc 3 1, 3) := by decide +kernel
theorem d_M_law_62 : decode y_M_law.2.1 62 = .ok (.goto (-37), 3) := by decide +kernel
theorem d_M_law_65 : decode y_M_law.2.1 65 = .ok (.iload_n 2, 1) := by decide +kernel
theorem d_M_law_66 : decode y_M_law.2.1 66 = .ok (.ireturn, 1) := by decide +kernel

abbrev y_M_songsThere : MI := (⟨"CricketHayModel", "songsThere", "()I"⟩, prog_14_method_100_code, 3, (some .int))
theorem hy_M_songsThere : y_M_songsThere.1.cls ≠ "java/lang/invoke/MethodHandle" ∧ y_M_songsThere.1.cls ≠ "java/lang/invoke/VarHandle" ∧ (parseMethodDescriptor y_M_songsThere.1.desc).map (fun d => d.parameters.length) = some 0 := by decide +kernel
theorem d_M_songsThere_0 : decode y_M_songsThere.2.1 0 = .ok (.iconst 0, 1) := by decide +kernel
theorem d_M_songsThere_1 : decode y_M_songsThere.2.1 1 = .ok (.istore_n 1, 1) := by decide +kernel
theorem d_M_songsThere_2 : decode y_M_songsThere.2.1 2 = .ok (.iconst 0, 1) := by decide +kernel
theorem d_M_songsThere_3 : decode y_M_songsThere.2.1 3 = .ok (.istore_n 2, 1) := by decide +kernel
theorem d_M_songsThere_4 : decode y_M_songsThere.2.1 4 = .ok (.iload_n 2, 1) := by decide +kernel
theorem d_M_songsThere_5 : decode y_M_songsThere.2.1 5 = .ok (.aload_n 0, 1) := by decide +kernel
theorem d_M_songsThere_6 : decode y_M_songsThere.2.1 6 = .ok (.getfield 360, 3) := by decide +kernel
theorem d_M_songsThere_9 : decode y_M_songsThere.2.1 9 = .ok (.if_icmp .ge 34, 3) := by decide +kernel
theorem d_M_songsThere_12 : decode y_M_songsThere.2.1 12 = .ok (.aload_n 0, 1) := by decide +kernel
theorem d_M_songsThere_13 : decode y_M_songsThere.2.1 13 = .ok (.getfield 85, 3) := by decide +kernel
theorem d_M_songsThere_16 : decode y_M_songsThere.2.1 16 = .ok (.bipush 30, 2) := by decide +kernel
theorem d_M_songsThere_18 : decode y_M_songsThere.2.1 18 = .ok (.iaload, 1) := by decide +kernel
theorem d_M_songsThere_19 : decode y_M_songsThere.2.1 19 = .ok (.iload_n 2, 1) := by decide +kernel
theorem d_M_songsThere_20 : decode y_M_songsThere.2.1 20 = .ok (.ishr, 1) := by decide +kernel
theorem d_M_songsThere_21 : decode y_M_songsThere.2.1 21 = .ok (.iconst 1, 1) := by decide +kernel
theorem d_M_songsThere_22 : decode y_M_songsThere.2.1 22 = .ok (.iand, 1) := by decide +kernel
theorem d_M_songsThere_23 : decode y_M_songsThere.2.1 23 = .ok (.ifCond .ne 14, 3) := by decide +kernel
theorem d_M_songsThere_26 : decode y_M_songsThere.2.1 26 = .ok (.iload_n 1, 1) := by decide +kernel
theorem d_M_songsThere_27 : decode y_M_songsThere.2.1 27 = .ok (.iconst 1, 1) := by decide +kernel
theorem d_M_songsThere_28 : decode y_M_songsThere.2.1 28 = .ok (.aload_n 0, 1) := by decide +kernel
theorem d_M_songsThere_29 : decode y_M_songsThere.2.1 29 = .ok (.getfield 73, 3) := by decide +kernel
theorem d_M_songsThere_32 : decode y_M_songsThere.2.1 32 = .ok (.iload_n 2, 1) := by decide +kernel
theorem d_M_songsThere_33 : decode y_M_songsThere.2.1 33 = .ok (.iaload, 1) := by decide +kernel
theorem d_M_songsThere_34 : decode y_M_songsThere.2.1 34 = .ok (.ishl, 1) := by decide +kernel
theorem d_M_songsThere_35 : decode y_M_songsThere.2.1 35 = .ok (.ior, 1) := by decide +kernel
theorem d_M_songsThere_36 : decode y_M_songsThere.2.1 36 = .ok (.istore_n 1, 1) := by decide +kernel
theorem d_M_songsThere_37 : decode y_M_songsThere.2.1 37 = .ok (.iinc 2 1, 3) := by decide +kernel
theorem d_M_songsThere_40 : decode y_M_songsThere.2.1 40 = .ok (.goto (-36), 3) := by decide +kernel
theorem d_M_songsThere_43 : decode y_M_songsThere.2.1 43 = .ok (.iload_n 1, 1) := by decide +kernel
theorem d_M_songsThere_44 : decode y_M_songsThere.2.1 44 = .ok (.ireturn, 1) := by decide +kernel

abbrev y_M_isSongIn : MI := (⟨"CricketHayModel", "isSongIn", "(II)Z"⟩, prog_14_method_101_code, 2, (some .boolean))
theorem hy_M_isSongIn : y_M_isSongIn.1.cls ≠ "java/lang/invoke/MethodHandle" ∧ y_M_isSongIn.1.cls ≠ "java/lang/invoke/VarHandle" ∧ (parseMethodDescriptor y_M_isSongIn.1.desc).map (fun d => d.parameters.length) = some 2 := by decide +kernel
theorem d_M_isSongIn_0 : decode y_M_isSongIn.2.1 0 = .ok (.iload_n 0, 1) := by decide +kernel
theorem d_M_isSongIn_1 : decode y_M_isSongIn.2.1 1 = .ok (.iload_n 1, 1) := by decide +kernel
theorem d_M_isSongIn_2 : decode y_M_isSongIn.2.1 2 = .ok (.ishr, 1) := by decide +kernel
theorem d_M_isSongIn_3 : decode y_M_isSongIn.2.1 3 = .ok (.iconst 1, 1) := by decide +kernel
theorem d_M_isSongIn_4 : decode y_M_isSongIn.2.1 4 = .ok (.iand, 1) := by decide +kernel
theorem d_M_isSongIn_5 : decode y_M_isSongIn.2.1 5 = .ok (.iconst 1, 1) := by decide +kernel
theorem d_M_isSongIn_6 : decode y_M_isSongIn.2.1 6 = .ok (.if_icmp .ne 7, 3) := by decide +kernel
theorem d_M_isSongIn_9 : decode y_M_isSongIn.2.1 9 = .ok (.iconst 1, 1) := by decide +kernel
theorem d_M_isSongIn_10 : decode y_M_isSongIn.2.1 10 = .ok (.goto 4, 3) := by decide +kernel
theorem d_M_isSongIn_13 : decode y_M_isSongIn.2.1 13 = .ok (.iconst 0, 1) := by decide +kernel
theorem d_M_isSongIn_14 : decode y_M_isSongIn.2.1 14 = .ok (.ireturn, 1) := by decide +kernel

abbrev y_M_goMatings : MI := (⟨"CricketHayModel", "goMatings", "(I)V"⟩, prog_14_method_102_code, 6, none)
theorem hy_M_goMatings : y_M_goMatings.1.cls ≠ "java/lang/invoke/MethodHandle" ∧ y_M_goMatings.1.cls ≠ "java/lang/invoke/VarHandle" ∧ (parseMethodDescriptor y_M_goMatings.1.desc).map (fun d => d.parameters.length) = some 1 := by decide +kernel
theorem d_M_goMatings_0 : decode y_M_goMatings.2.1 0 = .ok (.iconst 0, 1) := by decide +kernel
theorem d_M_goMatings_1 : decode y_M_goMatings.2.1 1 = .ok (.istore_n 2, 1) := by decide +kernel
theorem d_M_goMatings_2 : decode y_M_goMatings.2.1 2 = .ok (.iload_n 2, 1) := by decide +kernel
theorem d_M_goMatings_3 : decode y_M_goMatings.2.1 3 = .ok (.sipush 1024, 3) := by decide +kernel
theorem d_M_goMatings_6 : decode y_M_goMatings.2.1 6 = .ok (.if_icmp .ge 104, 3) := by decide +kernel
theorem d_M_goMatings_9 : decode y_M_goMatings.2.1 9 = .ok (.aload_n 0, 1) := by decide +kernel
theorem d_M_goMatings_10 : decode y_M_goMatings.2.1 10 = .ok (.getfield 106, 3) := by decide +kernel
theorem d_M_goMatings_13 : decode y_M_goMatings.2.1 13 = .ok (.iload_n 2, 1) := by decide +kernel
theorem d_M_goMatings_14 : decode y_M_goMatings.2.1 14 = .ok (.iaload, 1) := by decide +kernel
theorem d_M_goMatings_15 : decode y_M_goMatings.2.1 15 = .ok (.iload_n 1, 1) := by decide +kernel
theorem d_M_goMatings_16 : decode y_M_goMatings.2.1 16 = .ok (.if_icmp .eq 6, 3) := by decide +kernel
theorem d_M_goMatings_19 : decode y_M_goMatings.2.1 19 = .ok (.goto 85, 3) := by decide +kernel
theorem d_M_goMatings_22 : decode y_M_goMatings.2.1 22 = .ok (.iconst 0, 1) := by decide +kernel
theorem d_M_goMatings_23 : decode y_M_goMatings.2.1 23 = .ok (.istore_n 3, 1) := by decide +kernel
theorem d_M_goMatings_24 : decode y_M_goMatings.2.1 24 = .ok (.iload_n 3, 1) := by decide +kernel
theorem d_M_goMatings_25 : decode y_M_goMatings.2.1 25 = .ok (.bipush 10, 2) := by decide +kernel
theorem d_M_goMatings_27 : decode y_M_goMatings.2.1 27 = .ok (.if_icmp .ge 77, 3) := by decide +kernel
theorem d_M_goMatings_30 : decode y_M_goMatings.2.1 30 = .ok (.iconst 0, 1) := by decide +kernel
theorem d_M_goMatings_31 : decode y_M_goMatings.2.1 31 = .ok (.istore 4, 2) := by decide +kernel
theorem d_M_goMatings_33 : decode y_M_goMatings.2.1 33 = .ok (.iload 4, 2) := by decide +kernel
theorem d_M_goMatings_35 : decode y_M_goMatings.2.1 35 = .ok (.iload_n 3, 1) := by decide +kernel
theorem d_M_goMatings_36 : decode y_M_goMatings.2.1 36 = .ok (.if_icmp .gt 62, 3) := by decide +kernel
theorem d_M_goMatings_39 : decode y_M_goMatings.2.1 39 = .ok (.iload_n 2, 1) := by decide +kernel
theorem d_M_goMatings_40 : decode y_M_goMatings.2.1 40 = .ok (.iload_n 3, 1) := by decide +kernel
theorem d_M_goMatings_41 : decode y_M_goMatings.2.1 41 = .ok (.invokestatic 499, 3) := by decide +kernel
theorem d_M_goMatings_44 : decode y_M_goMatings.2.1 44 = .ok (.ifCond .eq 48, 3) := by decide +kernel
theorem d_M_goMatings_47 : decode y_M_goMatings.2.1 47 = .ok (.iload_n 2, 1) := by decide +kernel
theorem d_M_goMatings_48 : decode y_M_goMatings.2.1 48 = .ok (.iload 4, 2) := by decide +kernel
theorem d_M_goMatings_50 : decode y_M_goMatings.2.1 50 = .ok (.invokestatic 499, 3) := by decide +kernel
theorem d_M_goMatings_53 : decode y_M_goMatings.2.1 53 = .ok (.ifCond .ne 6, 3) := by decide +kernel
theorem d_M_goMatings_56 : decode y_M_goMatings.2.1 56 = .ok (.goto 36, 3) := by decide +kernel
theorem d_M_goMatings_59 : decode y_M_goMatings.2.1 59 = .ok (.iload_n 2, 1) := by decide +kernel
theorem d_M_goMatings_60 : decode y_M_goMatings.2.1 60 = .ok (.iconst 1, 1) := by decide +kernel
theorem d_M_goMatings_61 : decode y_M_goMatings.2.1 61 = .ok (.iload_n 3, 1) := by decide +kernel
theorem d_M_goMatings_62 : decode y_M_goMatings.2.1 62 = .ok (.iload 4, 2) := by decide +kernel
theorem d_M_goMatings_64 : decode y_M_goMatings.2.1 64 = .ok (.iadd, 1) := by decide +kernel
theorem d_M_goMatings_65 : decode y_M_goMatings.2.1 65 = .ok (.bipush 10, 2) := by decide +kernel
theorem d_M_goMatings_67 : decode y_M_goMatings.2.1 67 = .ok (.irem, 1) := by decide +kernel
theorem d_M_goMatings_68 : decode y_M_goMatings.2.1 68 = .ok (.ishl, 1) := by decide +kernel
theorem d_M_goMatings_69 : decode y_M_goMatings.2.1 69 = .ok (.ior, 1) := by decide +kernel
theorem d_M_goMatings_70 : decode y_M_goMatings.2.1 70 = .ok (.istore 5, 2) := by decide +kernel
theorem d_M_goMatings_72 : decode y_M_goMatings.2.1 72 = .ok (.aload_n 0, 1) := by decide +kernel
theorem d_M_goMatings_73 : decode y_M_goMatings.2.1 73 = .ok (.getfield 106, 3) := by decide +kernel
theorem d_M_goMatings_76 : decode y_M_goMatings.2.1 76 = .ok (.iload 5, 2) := by decide +kernel
theorem d_M_goMatings_78 : decode y_M_goMatings.2.1 78 = .ok (.iaload, 1) := by decide +kernel
theorem d_M_goMatings_79 : decode y_M_goMatings.2.1 79 = .ok (.ifCond .ge 13, 3) := by decide +kernel
theorem d_M_goMatings_82 : decode y_M_goMatings.2.1 82 = .ok (.aload_n 0, 1) := by decide +kernel
theorem d_M_goMatings_83 : decode y_M_goMatings.2.1 83 = .ok (.getfield 106, 3) := by decide +kernel
theorem d_M_goMatings_86 : decode y_M_goMatings.2.1 86 = .ok (.iload 5, 2) := by decide +kernel
theorem d_M_goMatings_88 : decode y_M_goMatings.2.1 88 = .ok (.iload_n 1, 1) := by decide +kernel
theorem d_M_goMatings_89 : decode y_M_goMatings.2.1 89 = .ok (.iconst 1, 1) := by decide +kernel
theorem d_M_goMatings_90 : decode y_M_goMatings.2.1 90 = .ok (.iadd, 1) := by decide +kernel
theorem d_M_goMatings_91 : decode y_M_goMatings.2.1 91 = .ok (.iastore, 1) := by decide +kernel
theorem d_M_goMatings_92 : decode y_M_goMatings.2.1 92 = .ok (.iinc 4 1, 3) := by decide +kernel
theorem d_M_goMatings_95 : decode y_M_goMatings.2.1 95 = .ok (.goto (-62), 3) := by decide +kernel
theorem d_M_goMatings_98 : decode y_M_goMatings.2.1 98 = .ok (.iinc 3 1, 3) := by decide +kernel
theorem d_M_goMatings_101 : decode y_M_goMatings.2.1 101 = .ok (.goto (-77), 3) := by decide +kernel
theorem d_M_goMatings_104 : decode y_M_goMatings.2.1 104 = .ok (.iinc 2 1, 3) := by decide +kernel
theorem d_M_goMatings_107 : decode y_M_goMatings.2.1 107 = .ok (.goto (-105), 3) := by decide +kernel
theorem d_M_goMatings_110 : decode y_M_goMatings.2.1 110 = .ok (.return_, 1) := by decide +kernel

abbrev y_M_layMatings : MI := (⟨"CricketHayModel", "layMatings", "()V"⟩, prog_14_method_103_code, 2, none)
theorem hy_M_layMatings : y_M_layMatings.1.cls ≠ "java/lang/invoke/MethodHandle" ∧ y_M_layMatings.1.cls ≠ "java/lang/invoke/VarHandle" ∧ (parseMethodDescriptor y_M_layMatings.1.desc).map (fun d => d.parameters.length) = some 0 := by decide +kernel
theorem d_M_layMatings_0 : decode y_M_layMatings.2.1 0 = .ok (.iconst 0, 1) := by decide +kernel
theorem d_M_layMatings_1 : decode y_M_layMatings.2.1 1 = .ok (.istore_n 1, 1) := by decide +kernel
theorem d_M_layMatings_2 : decode y_M_layMatings.2.1 2 = .ok (.iload_n 1, 1) := by decide +kernel
theorem d_M_layMatings_3 : decode y_M_layMatings.2.1 3 = .ok (.sipush 1024, 3) := by decide +kernel
theorem d_M_layMatings_6 : decode y_M_layMatings.2.1 6 = .ok (.if_icmp .ge 16, 3) := by decide +kernel
theorem d_M_layMatings_9 : decode y_M_layMatings.2.1 9 = .ok (.aload_n 0, 1) := by decide +kernel
theorem d_M_layMatings_10 : decode y_M_layMatings.2.1 10 = .ok (.getfield 106, 3) := by decide +kernel
theorem d_M_layMatings_13 : decode y_M_layMatings.2.1 13 = .ok (.iload_n 1, 1) := by decide +kernel
theorem d_M_layMatings_14 : decode y_M_layMatings.2.1 14 = .ok (.iconst (-1), 1) := by decide +kernel
theorem d_M_layMatings_15 : decode y_M_layMatings.2.1 15 = .ok (.iastore, 1) := by decide +kernel
theorem d_M_layMatings_16 : decode y_M_layMatings.2.1 16 = .ok (.iinc 1 1, 3) := by decide +kernel
theorem d_M_layMatings_19 : decode y_M_layMatings.2.1 19 = .ok (.goto (-17), 3) := by decide +kernel
theorem d_M_layMatings_22 : decode y_M_layMatings.2.1 22 = .ok (.aload_n 0, 1) := by decide +kernel
theorem d_M_layMatings_23 : decode y_M_layMatings.2.1 23 = .ok (.getfield 106, 3) := by decide +kernel
theorem d_M_layMatings_26 : decode y_M_layMatings.2.1 26 = .ok (.aload_n 0, 1) := by decide +kernel
theorem d_M_layMatings_27 : decode y_M_layMatings.2.1 27 = .ok (.invokevirtual 502, 3) := by decide +kernel
theorem d_M_layMatings_30 : decode y_M_layMatings.2.1 30 = .ok (.iconst 0, 1) := by decide +kernel
theorem d_M_layMatings_31 : decode y_M_layMatings.2.1 31 = .ok (.iastore, 1) := by decide +kernel
theorem d_M_layMatings_32 : decode y_M_layMatings.2.1 32 = .ok (.iconst 0, 1) := by decide +kernel
theorem d_M_layMatings_33 : decode y_M_layMatings.2.1 33 = .ok (.istore_n 1, 1) := by decide +kernel
theorem d_M_layMatings_34 : decode y_M_layMatings.2.1 34 = .ok (.iload_n 1, 1) := by decide +kernel
theorem d_M_layMatings_35 : decode y_M_layMatings.2.1 35 = .ok (.bipush 10, 2) := by decide +kernel
theorem d_M_layMatings_37 : decode y_M_layMatings.2.1 37 = .ok (.if_icmp .ge 14, 3) := by decide +kernel
theorem d_M_layMatings_40 : decode y_M_layMatings.2.1 40 = .ok (.aload_n 0, 1) := by decide +kernel
theorem d_M_layMatings_41 : decode y_M_layMatings.2.1 41 = .ok (.iload_n 1, 1) := by decide +kernel
theorem d_M_layMatings_42 : decode y_M_layMatings.2.1 42 = .ok (.invokevirtual 505, 3) := by decide +kernel
theorem d_M_layMatings_45 : decode y_M_layMatings.2.1 45 = .ok (.iinc 1 1, 3) := by decide +kernel
theorem d_M_layMatings_48 : decode y_M_layMatings.2.1 48 = .ok (.goto (-14), 3) := by decide +kernel
theorem d_M_layMatings_51 : decode y_M_layMatings.2.1 51 = .ok (.return_, 1) := by decide +kernel

abbrev y_M_song : MI := (⟨"CricketHayModel", "song", "(I)I"⟩, prog_14_method_104_code, 4, (some .int))
theorem hy_M_song : y_M_song.1.cls ≠ "java/lang/invoke/MethodHandle" ∧ y_M_song.1.cls ≠ "java/lang/invoke/VarHandle" ∧ (parseMethodDescriptor y_M_song.1.desc).map (fun d => d.parameters.length) = some 1 := by decide +kernel
theorem d_M_song_0 : decode y_M_song.2.1 0 = .ok (.iload_n 1, 1) := by decide +kernel
theorem d_M_song_1 : decode y_M_song.2.1 1 = .ok (.iconst 0, 1) := by decide +kernel
theorem d_M_song_2 : decode y_M_song.2.1 2 = .ok (.bipush 9, 2) := by decide +kernel
theorem d_M_song_4 : decode y_M_song.2.1 4 = .ok (.invokestatic 381, 3) := by decide +kernel
theorem d_M_song_7 : decode y_M_song.2.1 7 = .ok (.ifCond .ne 5, 3) := by decide +kernel
theorem d_M_song_10 : decode y_M_song.2.1 10 = .ok (.iconst (-1), 1) := by decide +kernel
theorem d_M_song_11 : decode y_M_song.2.1 11 = .ok (.ireturn, 1) := by decide +kernel
theorem d_M_song_12 : decode y_M_song.2.1 12 = .ok (.aload_n 0, 1) := by decide +kernel
theorem d_M_song_13 : decode y_M_song.2.1 13 = .ok (.invokevirtual 508, 3) := by decide +kernel
theorem d_M_song_16 : decode y_M_song.2.1 16 = .ok (.iconst (-1), 1) := by decide +kernel
theorem d_M_song_17 : decode y_M_song.2.1 17 = .ok (.istore_n 2, 1) := by decide +kernel
theorem d_M_song_18 : decode y_M_song.2.1 18 = .ok (.iconst 0, 1) := by decide +kernel
theorem d_M_song_19 : decode y_M_song.2.1 19 = .ok (.istore_n 3, 1) := by decide +kernel
theorem d_M_song_20 : decode y_M_song.2.1 20 = .ok (.iload_n 3, 1) := by decide +kernel
theorem d_M_song_21 : decode y_M_song.2.1 21 = .ok (.sipush 1024, 3) := by decide +kernel
theorem d_M_song_24 : decode y_M_song.2.1 24 = .ok (.if_icmp .ge 47, 3) := by decide +kernel
theorem d_M_song_27 : decode y_M_song.2.1 27 = .ok (.iload_n 3, 1) := by decide +kernel
theorem d_M_song_28 : decode y_M_song.2.1 28 = .ok (.iload_n 1, 1) := by decide +kernel
theorem d_M_song_29 : decode y_M_song.2.1 29 = .ok (.invokestatic 499, 3) := by decide +kernel
theorem d_M_song_32 : decode y_M_song.2.1 32 = .ok (.ifCond .eq 33, 3) := by decide +kernel
theorem d_M_song_35 : decode y_M_song.2.1 35 = .ok (.aload_n 0, 1) := by decide +kernel
theorem d_M_song_36 : decode y_M_song.2.1 36 = .ok (.getfield 106, 3) := by decide +kernel
theorem d_M_song_39 : decode y_M_song.2.1 39 = .ok (.iload_n 3, 1) := by decide +kernel
theorem d_M_song_40 : decode y_M_song.2.1 40 = .ok (.iaload, 1) := by decide +kernel
theorem d_M_song_41 : decode y_M_song.2.1 41 = .ok (.ifCond .lt 24, 3) := by decide +kernel
theorem d_M_song_44 : decode y_M_song.2.1 44 = .ok (.iload_n 2, 1) := by decide +kernel
theorem d_M_song_45 : decode y_M_song.2.1 45 = .ok (.ifCond .lt 13, 3) := by decide +kernel
theorem d_M_song_48 : decode y_M_song.2.1 48 = .ok (.aload_n 0, 1) := by decide +kernel
theorem d_M_song_49 : decode y_M_song.2.1 49 = .ok (.getfield 106, 3) := by decide +kernel
theorem d_M_song_52 : decode y_M_song.2.1 52 = .ok (.iload_n 3, 1) := by decide +kernel
theorem d_M_song_53 : decode y_M_song.2.1 53 = .ok (.iaload, 1) := by decide +kernel
theorem d_M_song_54 : decode y_M_song.2.1 54 = .ok (.iload_n 2, 1) := by decide +kernel
theorem d_M_song_55 : decode y_M_song.2.1 55 = .ok (.if_icmp .ge 10, 3) := by decide +kernel
theorem d_M_song_58 : decode y_M_song.2.1 58 = .ok (.aload_n 0, 1) := by decide +kernel
theorem d_M_song_59 : decode y_M_song.2.1 59 = .ok (.getfield 106, 3) := by decide +kernel
theorem d_M_song_62 : decode y_M_song.2.1 62 = .ok (.iload_n 3, 1) := by decide +kernel
theorem d_M_song_63 : decode y_M_song.2.1 63 = .ok (.iaload, 1) := by decide +kernel
theorem d_M_song_64 : decode y_M_song.2.1 64 = .ok (.istore_n 2, 1) := by decide +kernel
theorem d_M_song_65 : decode y_M_song.2.1 65 = .ok (.iinc 3 1, 3) := by decide +kernel
theorem d_M_song_68 : decode y_M_song.2.1 68 = .ok (.goto (-48), 3) := by decide +kernel
theorem d_M_song_71 : decode y_M_song.2.1 71 = .ok (.iload_n 2, 1) := by decide +kernel
theorem d_M_song_72 : decode y_M_song.2.1 72 = .ok (.ireturn, 1) := by decide +kernel

abbrev y_M_songs : MI := (⟨"CricketHayModel", "songs", "(I)I"⟩, prog_14_method_105_code, 4, (some .int))
theorem hy_M_songs : y_M_songs.1.cls ≠ "java/lang/invoke/MethodHandle" ∧ y_M_songs.1.cls ≠ "java/lang/invoke/VarHandle" ∧ (parseMethodDescriptor y_M_songs.1.desc).map (fun d => d.parameters.length) = some 1 := by decide +kernel
theorem d_M_songs_0 : decode y_M_songs.2.1 0 = .ok (.iload_n 1, 1) := by decide +kernel
theorem d_M_songs_1 : decode y_M_songs.2.1 1 = .ok (.iconst 0, 1) := by decide +kernel
theorem d_M_songs_2 : decode y_M_songs.2.1 2 = .ok (.bipush 9, 2) := by decide +kernel
theorem d_M_songs_4 : decode y_M_songs.2.1 4 = .ok (.invokestatic 381, 3) := by decide +kernel
theorem d_M_songs_7 : decode y_M_songs.2.1 7 = .ok (.ifCond .ne 5, 3) := by decide +kernel
theorem d_M_songs_10 : decode y_M_songs.2.1 10 = .ok (.iconst (-1), 1) := by decide +kernel
theorem d_M_songs_11 : decode y_M_songs.2.1 11 = .ok (.ireturn, 1) := by decide +kernel
theorem d_M_songs_12 : decode y_M_songs.2.1 12 = .ok (.aload_n 0, 1) := by decide +kernel
theorem d_M_songs_13 : decode y_M_songs.2.1 13 = .ok (.invokevirtual 508, 3) := by decide +kernel
theorem d_M_songs_16 : decode y_M_songs.2.1 16 = .ok (.iconst 0, 1) := by decide +kernel
theorem d_M_songs_17 : decode y_M_songs.2.1 17 = .ok (.istore_n 2, 1) := by decide +kernel
theorem d_M_songs_18 : decode y_M_songs.2.1 18 = .ok (.iconst 0, 1) := by decide +kernel
theorem d_M_songs_19 : decode y_M_songs.2.1 19 = .ok (.istore_n 3, 1) := by decide +kernel
theorem d_M_songs_20 : decode y_M_songs.2.1 20 = .ok (.iload_n 3, 1) := by decide +kernel
theorem d_M_songs_21 : decode y_M_songs.2.1 21 = .ok (.sipush 1024, 3) := by decide +kernel
theorem d_M_songs_24 : decode y_M_songs.2.1 24 = .ok (.if_icmp .ge 27, 3) := by decide +kernel
theorem d_M_songs_27 : decode y_M_songs.2.1 27 = .ok (.aload_n 0, 1) := by decide +kernel
theorem d_M_songs_28 : decode y_M_songs.2.1 28 = .ok (.getfield 106, 3) := by decide +kernel
theorem d_M_songs_31 : decode y_M_songs.2.1 31 = .ok (.iload_n 3, 1) := by decide +kernel
theorem d_M_songs_32 : decode y_M_songs.2.1 32 = .ok (.iaload, 1) := by decide +kernel
theorem d_M_songs_33 : decode y_M_songs.2.1 33 = .ok (.iconst 0, 1) := by decide +kernel
theorem d_M_songs_34 : decode y_M_songs.2.1 34 = .ok (.iload_n 1, 1) := by decide +kernel
theorem d_M_songs_35 : decode y_M_songs.2.1 35 = .ok (.invokestatic 381, 3) := by decide +kernel
theorem d_M_songs_38 : decode y_M_songs.2.1 38 = .ok (.ifCond .eq 7, 3) := by decide +kernel
theorem d_M_songs_41 : decode y_M_songs.2.1 41 = .ok (.iload_n 2, 1) := by decide +kernel
theorem d_M_songs_42 : decode y_M_songs.2.1 42 = .ok (.iload_n 3, 1) := by decide +kernel
theorem d_M_songs_43 : decode y_M_songs.2.1 43 = .ok (.ior, 1) := by decide +kernel
theorem d_M_songs_44 : decode y_M_songs.2.1 44 = .ok (.istore_n 2, 1) := by decide +kernel
theorem d_M_songs_45 : decode y_M_songs.2.1 45 = .ok (.iinc 3 1, 3) := by decide +kernel
theorem d_M_songs_48 : decode y_M_songs.2.1 48 = .ok (.goto (-28), 3) := by decide +kernel
theorem d_M_songs_51 : decode y_M_songs.2.1 51 = .ok (.iload_n 2, 1) := by decide +kernel
theorem d_M_songs_52 : decode y_M_songs.2.1 52 = .ok (.ireturn, 1) := by decide +kernel

abbrev y_M_lies : MI := (⟨"CricketHayModel", "lies", "(I)I"⟩, prog_14_method_106_code, 2, (some .int))
theorem hy_M_lies : y_M_lies.1.cls ≠ "java/lang/invoke/MethodHandle" ∧ y_M_lies.1.cls ≠ "java/lang/invoke/VarHandle" ∧ (parseMethodDescriptor y_M_lies.1.desc).map (fun d => d.parameters.length) = some 1 := by decide +kernel
theorem d_M_lies_0 : decode y_M_lies.2.1 0 = .ok (.iload_n 1, 1) := by decide +kernel
theorem d_M_lies_1 : decode y_M_lies.2.1 1 = .ok (.iconst 0, 1) := by decide +kernel
theorem d_M_lies_2 : decode y_M_lies.2.1 2 = .ok (.aload_n 0, 1) := by decide +kernel
theorem d_M_lies_3 : decode y_M_lies.2.1 3 = .ok (.getfield 378, 3) := by decide +kernel
theorem d_M_lies_6 : decode y_M_lies.2.1 6 = .ok (.iconst 1, 1) := by decide +kernel
theorem d_M_lies_7 : decode y_M_lies.2.1 7 = .ok (.isub, 1) := by decide +kernel
theorem d_M_lies_8 : decode y_M_lies.2.1 8 = .ok (.invokestatic 381, 3) := by decide +kernel
theorem d_M_lies_11 : decode y_M_lies.2.1 11 = .ok (.ifCond .eq 12, 3) := by decide +kernel
theorem d_M_lies_14 : decode y_M_lies.2.1 14 = .ok (.aload_n 0, 1) := by decide +kernel
theorem d_M_lies_15 : decode y_M_lies.2.1 15 = .ok (.getfield 97, 3) := by decide +kernel
theorem d_M_lies_18 : decode y_M_lies.2.1 18 = .ok (.iload_n 1, 1) := by decide +kernel
theorem d_M_lies_19 : decode y_M_lies.2.1 19 = .ok (.iaload, 1) := by decide +kernel
theorem d_M_lies_20 : decode y_M_lies.2.1 20 = .ok (.goto 5, 3) := by decide +kernel
theorem d_M_lies_23 : decode y_M_lies.2.1 23 = .ok (.bipush (-100), 2) := by decide +kernel
theorem d_M_lies_25 : decode y_M_lies.2.1 25 = .ok (.ireturn, 1) := by decide +kernel

abbrev y_M_heard : MI := (⟨"CricketHayModel", "heard", "(IIZ)I"⟩, prog_14_method_107_code, 4, (some .int))
theorem hy_M_heard : y_M_heard.1.cls ≠ "java/lang/invoke/MethodHandle" ∧ y_M_heard.1.cls ≠ "java/lang/invoke/VarHandle" ∧ (parseMethodDescriptor y_M_heard.1.desc).map (fun d => d.parameters.length) = some 3 := by decide +kernel
theorem d_M_heard_0 : decode y_M_heard.2.1 0 = .ok (.iload_n 1, 1) := by decide +kernel
theorem d_M_heard_1 : decode y_M_heard.2.1 1 = .ok (.iconst 0, 1) := by decide +kernel
theorem d_M_heard_2 : decode y_M_heard.2.1 2 = .ok (.bipush 40, 2) := by decide +kernel
theorem d_M_heard_4 : decode y_M_heard.2.1 4 = .ok (.invokestatic 381, 3) := by decide +kernel
theorem d_M_heard_7 : decode y_M_heard.2.1 7 = .ok (.ifCond .eq 22, 3) := by decide +kernel
theorem d_M_heard_10 : decode y_M_heard.2.1 10 = .ok (.iload_n 2, 1) := by decide +kernel
theorem d_M_heard_11 : decode y_M_heard.2.1 11 = .ok (.iconst 0, 1) := by decide +kernel
theorem d_M_heard_12 : decode y_M_heard.2.1 12 = .ok (.bipush 99, 2) := by decide +kernel
theorem d_M_heard_14 : decode y_M_heard.2.1 14 = .ok (.invokestatic 381, 3) := by decide +kernel
theorem d_M_heard_17 : decode y_M_heard.2.1 17 = .ok (.ifCond .eq 12, 3) := by decide +kernel
theorem d_M_heard_20 : decode y_M_heard.2.1 20 = .ok (.aload_n 0, 1) := by decide +kernel
theorem d_M_heard_21 : decode y_M_heard.2.1 21 = .ok (.getfield 375, 3) := by decide +kernel
theorem d_M_heard_24 : decode y_M_heard.2.1 24 = .ok (.bipush 30, 2) := by decide +kernel
theorem d_M_heard_26 : decode y_M_heard.2.1 26 = .ok (.if_icmp .ne 5, 3) := by decide +kernel
theorem d_M_heard_29 : decode y_M_heard.2.1 29 = .ok (.iconst (-1), 1) := by decide +kernel
theorem d_M_heard_30 : decode y_M_heard.2.1 30 = .ok (.ireturn, 1) := by decide +kernel
theorem d_M_heard_31 : decode y_M_heard.2.1 31 = .ok (.aload_n 0, 1) := by decide +kernel
theorem d_M_heard_32 : decode y_M_heard.2.1 32 = .ok (.getfield 109, 3) := by decide +kernel
theorem d_M_heard_35 : decode y_M_heard.2.1 35 = .ok (.aload_n 0, 1) := by decide +kernel
theorem d_M_heard_36 : decode y_M_heard.2.1 36 = .ok (.getfield 375, 3) := by decide +kernel
theorem d_M_heard_39 : decode y_M_heard.2.1 39 = .ok (.iload_n 1, 1) := by decide +kernel
theorem d_M_heard_40 : decode y_M_heard.2.1 40 = .ok (.iastore, 1) := by decide +kernel
theorem d_M_heard_41 : decode y_M_heard.2.1 41 = .ok (.aload_n 0, 1) := by decide +kernel
theorem d_M_heard_42 : decode y_M_heard.2.1 42 = .ok (.getfield 112, 3) := by decide +kernel
theorem d_M_heard_45 : decode y_M_heard.2.1 45 = .ok (.aload_n 0, 1) := by decide +kernel
theorem d_M_heard_46 : decode y_M_heard.2.1 46 = .ok (.getfield 375, 3) := by decide +kernel
theorem d_M_heard_49 : decode y_M_heard.2.1 49 = .ok (.iload_n 2, 1) := by decide +kernel
theorem d_M_heard_50 : decode y_M_heard.2.1 50 = .ok (.iastore, 1) := by decide +kernel
theorem d_M_heard_51 : decode y_M_heard.2.1 51 = .ok (.aload_n 0, 1) := by decide +kernel
theorem d_M_heard_52 : decode y_M_heard.2.1 52 = .ok (.getfield 121, 3) := by decide +kernel
theorem d_M_heard_55 : decode y_M_heard.2.1 55 = .ok (.aload_n 0, 1) := by decide +kernel
theorem d_M_heard_56 : decode y_M_heard.2.1 56 = .ok (.getfield 375, 3) := by decide +kernel
theorem d_M_heard_59 : decode y_M_heard.2.1 59 = .ok (.iload_n 3, 1) := by decide +kernel
theorem d_M_heard_60 : decode y_M_heard.2.1 60 = .ok (.bastore, 1) := by decide +kernel
theorem d_M_heard_61 : decode y_M_heard.2.1 61 = .ok (.aload_n 0, 1) := by decide +kernel
theorem d_M_heard_62 : decode y_M_heard.2.1 62 = .ok (.getfield 115, 3) := by decide +kernel
theorem d_M_heard_65 : decode y_M_heard.2.1 65 = .ok (.aload_n 0, 1) := by decide +kernel
theorem d_M_heard_66 : decode y_M_heard.2.1 66 = .ok (.getfield 375, 3) := by decide +kernel
theorem d_M_heard_69 : decode y_M_heard.2.1 69 = .ok (.aload_n 0, 1) := by decide +kernel
theorem d_M_heard_70 : decode y_M_heard.2.1 70 = .ok (.getfield 511, 3) := by decide +kernel
theorem d_M_heard_73 : decode y_M_heard.2.1 73 = .ok (.iastore, 1) := by decide +kernel
theorem d_M_heard_74 : decode y_M_heard.2.1 74 = .ok (.aload_n 0, 1) := by decide +kernel
theorem d_M_heard_75 : decode y_M_heard.2.1 75 = .ok (.getfield 118, 3) := by decide +kernel
theorem d_M_heard_78 : decode y_M_heard.2.1 78 = .ok (.aload_n 0, 1) := by decide +kernel
theorem d_M_heard_79 : decode y_M_heard.2.1 79 = .ok (.getfield 375, 3) := by decide +kernel
theorem d_M_heard_82 : decode y_M_heard.2.1 82 = .ok (.iconst (-1), 1) := by decide +kernel
theorem d_M_heard_83 : decode y_M_heard.2.1 83 = .ok (.iastore, 1) := by decide +kernel
theorem d_M_heard_84 : decode y_M_heard.2.1 84 = .ok (.aload_n 0, 1) := by decide +kernel
theorem d_M_heard_85 : decode y_M_heard.2.1 85 = .ok (.dup, 1) := by decide +kernel
theorem d_M_heard_86 : decode y_M_heard.2.1 86 = .ok (.getfield 375, 3) := by decide +kernel
theorem d_M_heard_89 : decode y_M_heard.2.1 89 = .ok (.iconst 1, 1) := by decide +kernel
theorem d_M_heard_90 : decode y_M_heard.2.1 90 = .ok (.iadd, 1) := by decide +kernel
theorem d_M_heard_91 : decode y_M_heard.2.1 91 = .ok (.putfield 375, 3) := by decide +kernel
theorem d_M_heard_94 : decode y_M_heard.2.1 94 = .ok (.aload_n 0, 1) := by decide +kernel
theorem d_M_heard_95 : decode y_M_heard.2.1 95 = .ok (.getfield 375, 3) := by decide +kernel
theorem d_M_heard_98 : decode y_M_heard.2.1 98 = .ok (.iconst 1, 1) := by decide +kernel
theorem d_M_heard_99 : decode y_M_heard.2.1 99 = .ok (.isub, 1) := by decide +kernel
theorem d_M_heard_100 : decode y_M_heard.2.1 100 = .ok (.ireturn, 1) := by decide +kernel

abbrev y_M_untell : MI := (⟨"CricketHayModel", "untell", "(I)Z"⟩, prog_14_method_108_code, 2, (some .boolean))
theorem hy_M_untell : y_M_untell.1.cls ≠ "java/lang/invoke/MethodHandle" ∧ y_M_untell.1.cls ≠ "java/lang/invoke/VarHandle" ∧ (parseMethodDescriptor y_M_untell.1.desc).map (fun d => d.parameters.length) = some 1 := by decide +kernel
theorem d_M_untell_0 : decode y_M_untell.2.1 0 = .ok (.iload_n 1, 1) := by decide +kernel
theorem d_M_untell_1 : decode y_M_untell.2.1 1 = .ok (.iconst 0, 1) := by decide +kernel
theorem d_M_untell_2 : decode y_M_untell.2.1 2 = .ok (.aload_n 0, 1) := by decide +kernel
theorem d_M_untell_3 : decode y_M_untell.2.1 3 = .ok (.getfield 375, 3) := by decide +kernel
theorem d_M_untell_6 : decode y_M_untell.2.1 6 = .ok (.iconst 1, 1) := by decide +kernel
theorem d_M_untell_7 : decode y_M_untell.2.1 7 = .ok (.isub, 1) := by decide +kernel
theorem d_M_untell_8 : decode y_M_untell.2.1 8 = .ok (.invokestatic 381, 3) := by decide +kernel
theorem d_M_untell_11 : decode y_M_untell.2.1 11 = .ok (.ifCond .eq 12, 3) := by decide +kernel
theorem d_M_untell_14 : decode y_M_untell.2.1 14 = .ok (.aload_n 0, 1) := by decide +kernel
theorem d_M_untell_15 : decode y_M_untell.2.1 15 = .ok (.getfield 118, 3) := by decide +kernel
theorem d_M_untell_18 : decode y_M_untell.2.1 18 = .ok (.iload_n 1, 1) := by decide +kernel
theorem d_M_untell_19 : decode y_M_untell.2.1 19 = .ok (.iaload, 1) := by decide +kernel
theorem d_M_untell_20 : decode y_M_untell.2.1 20 = .ok (.ifCond .lt 5, 3) := by decide +kernel
theorem d_M_untell_23 : decode y_M_untell.2.1 23 = .ok (.iconst 0, 1) := by decide +kernel
theorem d_M_untell_24 : decode y_M_untell.2.1 24 = .ok (.ireturn, 1) := by decide +kernel
theorem d_M_untell_25 : decode y_M_untell.2.1 25 = .ok (.aload_n 0, 1) := by decide +kernel
theorem d_M_untell_26 : decode y_M_untell.2.1 26 = .ok (.getfield 118, 3) := by decide +kernel
theorem d_M_untell_29 : decode y_M_untell.2.1 29 = .ok (.iload_n 1, 1) := by decide +kernel
theorem d_M_untell_30 : decode y_M_untell.2.1 30 = .ok (.aload_n 0, 1) := by decide +kernel
theorem d_M_untell_31 : decode y_M_untell.2.1 31 = .ok (.getfield 511, 3) := by decide +kernel
theorem d_M_untell_34 : decode y_M_untell.2.1 34 = .ok (.iastore, 1) := by decide +kernel
theorem d_M_untell_35 : decode y_M_untell.2.1 35 = .ok (.iconst 1, 1) := by decide +kernel
theorem d_M_untell_36 : decode y_M_untell.2.1 36 = .ok (.ireturn, 1) := by decide +kernel

abbrev y_M_later : MI := (⟨"CricketHayModel", "later", "(I)I"⟩, prog_14_method_109_code, 2, (some .int))
theorem hy_M_later : y_M_later.1.cls ≠ "java/lang/invoke/MethodHandle" ∧ y_M_later.1.cls ≠ "java/lang/invoke/VarHandle" ∧ (parseMethodDescriptor y_M_later.1.desc).map (fun d => d.parameters.length) = some 1 := by decide +kernel
theorem d_M_later_0 : decode y_M_later.2.1 0 = .ok (.iload_n 1, 1) := by decide +kernel
theorem d_M_later_1 : decode y_M_later.2.1 1 = .ok (.ifCond .lt 22, 3) := by decide +kernel
theorem d_M_later_4 : decode y_M_later.2.1 4 = .ok (.iload_n 1, 1) := by decide +kernel
theorem d_M_later_5 : decode y_M_later.2.1 5 = .ok (.sipush 1000, 3) := by decide +kernel
theorem d_M_later_8 : decode y_M_later.2.1 8 = .ok (.if_icmp .gt 15, 3) := by decide +kernel
theorem d_M_later_11 : decode y_M_later.2.1 11 = .ok (.aload_n 0, 1) := by decide +kernel
theorem d_M_later_12 : decode y_M_later.2.1 12 = .ok (.getfield 511, 3) := by decide +kernel
theorem d_M_later_15 : decode y_M_later.2.1 15 = .ok (.iload_n 1, 1) := by decide +kernel
theorem d_M_later_16 : decode y_M_later.2.1 16 = .ok (.iadd, 1) := by decide +kernel
theorem d_M_later_17 : decode y_M_later.2.1 17 = .ok (.ldc_w 514, 3) := by decide +kernel
theorem d_M_later_20 : decode y_M_later.2.1 20 = .ok (.if_icmp .le 5, 3) := by decide +kernel
theorem d_M_later_23 : decode y_M_later.2.1 23 = .ok (.iconst (-1), 1) := by decide +kernel
theorem d_M_later_24 : decode y_M_later.2.1 24 = .ok (.ireturn, 1) := by decide +kernel
theorem d_M_later_25 : decode y_M_later.2.1 25 = .ok (.aload_n 0, 1) := by decide +kernel
theorem d_M_later_26 : decode y_M_later.2.1 26 = .ok (.dup, 1) := by decide +kernel
theorem d_M_later_27 : decode y_M_later.2.1 27 = .ok (.getfield 511, 3) := by decide +kernel
theorem d_M_later_30 : decode y_M_later.2.1 30 = .ok (.iload_n 1, 1) := by decide +kernel
theorem d_M_later_31 : decode y_M_later.2.1 31 = .ok (.iadd, 1) := by decide +kernel
theorem d_M_later_32 : decode y_M_later.2.1 32 = .ok (.putfield 511, 3) := by decide +kernel
theorem d_M_later_35 : decode y_M_later.2.1 35 = .ok (.aload_n 0, 1) := by decide +kernel
theorem d_M_later_36 : decode y_M_later.2.1 36 = .ok (.getfield 511, 3) := by decide +kernel
theorem d_M_later_39 : decode y_M_later.2.1 39 = .ok (.ireturn, 1) := by decide +kernel

abbrev y_M_isFit : MI := (⟨"CricketHayModel", "isFit", "(III)Z"⟩, prog_14_method_110_code, 6, (some .boolean))
theorem hy_M_isFit : y_M_isFit.1.cls ≠ "java/lang/invoke/MethodHandle" ∧ y_M_isFit.1.cls ≠ "java/lang/invoke/VarHandle" ∧ (parseMethodDescriptor y_M_isFit.1.desc).map (fun d => d.parameters.length) = some 3 := by decide +kernel
theorem d_M_isFit_0 : decode y_M_isFit.2.1 0 = .ok (.iconst 1, 1) := by decide +kernel
theorem d_M_isFit_1 : decode y_M_isFit.2.1 1 = .ok (.istore 4, 2) := by decide +kernel
theorem d_M_isFit_3 : decode y_M_isFit.2.1 3 = .ok (.iconst 0, 1) := by decide +kernel
theorem d_M_isFit_4 : decode y_M_isFit.2.1 4 = .ok (.istore 5, 2) := by decide +kernel
theorem d_M_isFit_6 : decode y_M_isFit.2.1 6 = .ok (.iload 5, 2) := by decide +kernel
theorem d_M_isFit_8 : decode y_M_isFit.2.1 8 = .ok (.aload_n 0, 1) := by decide +kernel
theorem d_M_isFit_9 : decode y_M_isFit.2.1 9 = .ok (.getfield 375, 3) := by decide +kernel
theorem d_M_isFit_12 : decode y_M_isFit.2.1 12 = .ok (.if_icmp .ge 95, 3) := by decide +kernel
theorem d_M_isFit_15 : decode y_M_isFit.2.1 15 = .ok (.iload 4, 2) := by decide +kernel
theorem d_M_isFit_17 : decode y_M_isFit.2.1 17 = .ok (.ifCond .eq 90, 3) := by decide +kernel
theorem d_M_isFit_20 : decode y_M_isFit.2.1 20 = .ok (.aload_n 0, 1) := by decide +kernel
theorem d_M_isFit_21 : decode y_M_isFit.2.1 21 = .ok (.getfield 115, 3) := by decide +kernel
theorem d_M_isFit_24 : decode y_M_isFit.2.1 24 = .ok (.iload 5, 2) := by decide +kernel
theorem d_M_isFit_26 : decode y_M_isFit.2.1 26 = .ok (.iaload, 1) := by decide +kernel
theorem d_M_isFit_27 : decode y_M_isFit.2.1 27 = .ok (.iload_n 3, 1) := by decide +kernel
theorem d_M_isFit_28 : decode y_M_isFit.2.1 28 = .ok (.if_icmp .gt 73, 3) := by decide +kernel
theorem d_M_isFit_31 : decode y_M_isFit.2.1 31 = .ok (.aload_n 0, 1) := by decide +kernel
theorem d_M_isFit_32 : decode y_M_isFit.2.1 32 = .ok (.getfield 118, 3) := by decide +kernel
theorem d_M_isFit_35 : decode y_M_isFit.2.1 35 = .ok (.iload 5, 2) := by decide +kernel
theorem d_M_isFit_37 : decode y_M_isFit.2.1 37 = .ok (.iaload, 1) := by decide +kernel
theorem d_M_isFit_38 : decode y_M_isFit.2.1 38 = .ok (.ifCond .lt 17, 3) := by decide +kernel
theorem d_M_isFit_41 : decode y_M_isFit.2.1 41 = .ok (.aload_n 0, 1) := by decide +kernel
theorem d_M_isFit_42 : decode y_M_isFit.2.1 42 = .ok (.getfield 118, 3) := by decide +kernel
theorem d_M_isFit_45 : decode y_M_isFit.2.1 45 = .ok (.iload 5, 2) := by decide +kernel
theorem d_M_isFit_47 : decode y_M_isFit.2.1 47 = .ok (.iaload, 1) := by decide +kernel
theorem d_M_isFit_48 : decode y_M_isFit.2.1 48 = .ok (.iload_n 3, 1) := by decide +kernel
theorem d_M_isFit_49 : decode y_M_isFit.2.1 49 = .ok (.if_icmp .gt 6, 3) := by decide +kernel
theorem d_M_isFit_52 : decode y_M_isFit.2.1 52 = .ok (.goto 49, 3) := by decide +kernel
theorem d_M_isFit_55 : decode y_M_isFit.2.1 55 = .ok (.aload_n 0, 1) := by decide +kernel
theorem d_M_isFit_56 : decode y_M_isFit.2.1 56 = .ok (.aload_n 0, 1) := by decide +kernel
theorem d_M_isFit_57 : decode y_M_isFit.2.1 57 = .ok (.getfield 109, 3) := by decide +kernel
theorem d_M_isFit_60 : decode y_M_isFit.2.1 60 = .ok (.iload 5, 2) := by decide +kernel
theorem d_M_isFit_62 : decode y_M_isFit.2.1 62 = .ok (.iaload, 1) := by decide +kernel
theorem d_M_isFit_63 : decode y_M_isFit.2.1 63 = .ok (.iload_n 1, 1) := by decide +kernel
theorem d_M_isFit_64 : decode y_M_isFit.2.1 64 = .ok (.iload_n 2, 1) := by decide +kernel
theorem d_M_isFit_65 : decode y_M_isFit.2.1 65 = .ok (.iconst 0, 1) := by decide +kernel
theorem d_M_isFit_66 : decode y_M_isFit.2.1 66 = .ok (.invokevirtual 407, 3) := by decide +kernel
theorem d_M_isFit_69 : decode y_M_isFit.2.1 69 = .ok (.aload_n 0, 1) := by decide +kernel
theorem d_M_isFit_70 : decode y_M_isFit.2.1 70 = .ok (.getfield 112, 3) := by decide +kernel
theorem d_M_isFit_73 : decode y_M_isFit.2.1 73 = .ok (.iload 5, 2) := by decide +kernel
theorem d_M_isFit_75 : decode y_M_isFit.2.1 75 = .ok (.iaload, 1) := by decide +kernel
theorem d_M_isFit_76 : decode y_M_isFit.2.1 76 = .ok (.if_icmp .lt 7, 3) := by decide +kernel
theorem d_M_isFit_79 : decode y_M_isFit.2.1 79 = .ok (.iconst 1, 1) := by decide +kernel
theorem d_M_isFit_80 : decode y_M_isFit.2.1 80 = .ok (.goto 4, 3) := by decide +kernel
theorem d_M_isFit_83 : decode y_M_isFit.2.1 83 = .ok (.iconst 0, 1) := by decide +kernel
theorem d_M_isFit_84 : decode y_M_isFit.2.1 84 = .ok (.aload_n 0, 1) := by decide +kernel
theorem d_M_isFit_85 : decode y_M_isFit.2.1 85 = .ok (.getfield 121, 3) := by decide +kernel
theorem d_M_isFit_88 : decode y_M_isFit.2.1 88 = .ok (.iload 5, 2) := by decide +kernel
theorem d_M_isFit_90 : decode y_M_isFit.2.1 90 = .ok (.baload, 1) := by decide +kernel
theorem d_M_isFit_91 : decode y_M_isFit.2.1 91 = .ok (.if_icmp .ne 7, 3) := by decide +kernel
theorem d_M_isFit_94 : decode y_M_isFit.2.1 94 = .ok (.iconst 1, 1) := by decide +kernel
theorem d_M_isFit_95 : decode y_M_isFit.2.1 95 = .ok (.goto 4, 3) := by decide +kernel
theorem d_M_isFit_98 : decode y_M_isFit.2.1 98 = .ok (.iconst 0, 1) := by decide +kernel
theorem d_M_isFit_99 : decode y_M_isFit.2.1 99 = .ok (.istore 4, 2) := by decide +kernel
theorem d_M_isFit_101 : decode y_M_isFit.2.1 101 = .ok (.iinc 5 1, 3) := by decide +kernel
theorem d_M_isFit_104 : decode y_M_isFit.2.1 104 = .ok (.goto (-98), 3) := by decide +kernel
theorem d_M_isFit_107 : decode y_M_isFit.2.1 107 = .ok (.iload 4, 2) := by decide +kernel
theorem d_M_isFit_109 : decode y_M_isFit.2.1 109 = .ok (.ireturn, 1) := by decide +kernel

abbrev y_M_layFits : MI := (⟨"CricketHayModel", "layFits", "(I)I"⟩, prog_14_method_111_code, 6, (some .int))
theorem hy_M_layFits : y_M_layFits.1.cls ≠ "java/lang/invoke/MethodHandle" ∧ y_M_layFits.1.cls ≠ "java/lang/invoke/VarHandle" ∧ (parseMethodDescriptor y_M_layFits.1.desc).map (fun d => d.parameters.length) = some 1 := by decide +kernel
theorem d_M_layFits_0 : decode y_M_layFits.2.1 0 = .ok (.aload_n 0, 1) := by decide +kernel
theorem d_M_layFits_1 : decode y_M_layFits.2.1 1 = .ok (.invokevirtual 421, 3) := by decide +kernel
theorem d_M_layFits_4 : decode y_M_layFits.2.1 4 = .ok (.iconst 0, 1) := by decide +kernel
theorem d_M_layFits_5 : decode y_M_layFits.2.1 5 = .ok (.istore_n 2, 1) := by decide +kernel
theorem d_M_layFits_6 : decode y_M_layFits.2.1 6 = .ok (.iconst 0, 1) := by decide +kernel
theorem d_M_layFits_7 : decode y_M_layFits.2.1 7 = .ok (.istore_n 3, 1) := by decide +kernel
theorem d_M_layFits_8 : decode y_M_layFits.2.1 8 = .ok (.iload_n 3, 1) := by decide +kernel
theorem d_M_layFits_9 : decode y_M_layFits.2.1 9 = .ok (.bipush 10, 2) := by decide +kernel
theorem d_M_layFits_11 : decode y_M_layFits.2.1 11 = .ok (.if_icmp .ge 57, 3) := by decide +kernel
theorem d_M_layFits_14 : decode y_M_layFits.2.1 14 = .ok (.iconst 0, 1) := by decide +kernel
theorem d_M_layFits_15 : decode y_M_layFits.2.1 15 = .ok (.istore 4, 2) := by decide +kernel
theorem d_M_layFits_17 : decode y_M_layFits.2.1 17 = .ok (.iload 4, 2) := by decide +kernel
theorem d_M_layFits_19 : decode y_M_layFits.2.1 19 = .ok (.bipush 10, 2) := by decide +kernel
theorem d_M_layFits_21 : decode y_M_layFits.2.1 21 = .ok (.if_icmp .ge 41, 3) := by decide +kernel
theorem d_M_layFits_24 : decode y_M_layFits.2.1 24 = .ok (.aload_n 0, 1) := by decide +kernel
theorem d_M_layFits_25 : decode y_M_layFits.2.1 25 = .ok (.iload_n 3, 1) := by decide +kernel
theorem d_M_layFits_26 : decode y_M_layFits.2.1 26 = .ok (.iload 4, 2) := by decide +kernel
theorem d_M_layFits_28 : decode y_M_layFits.2.1 28 = .ok (.iload_n 1, 1) := by decide +kernel
theorem d_M_layFits_29 : decode y_M_layFits.2.1 29 = .ok (.invokevirtual 515, 3) := by decide +kernel
theorem d_M_layFits_32 : decode y_M_layFits.2.1 32 = .ok (.istore 5, 2) := by decide +kernel
theorem d_M_layFits_34 : decode y_M_layFits.2.1 34 = .ok (.aload_n 0, 1) := by decide +kernel
theorem d_M_layFits_35 : decode y_M_layFits.2.1 35 = .ok (.getfield 124, 3) := by decide +kernel
theorem d_M_layFits_38 : decode y_M_layFits.2.1 38 = .ok (.bipush 10, 2) := by decide +kernel
theorem d_M_layFits_40 : decode y_M_layFits.2.1 40 = .ok (.iload_n 3, 1) := by decide +kernel
theorem d_M_layFits_41 : decode y_M_layFits.2.1 41 = .ok (.imul, 1) := by decide +kernel
theorem d_M_layFits_42 : decode y_M_layFits.2.1 42 = .ok (.iload 4, 2) := by decide +kernel
theorem d_M_layFits_44 : decode y_M_layFits.2.1 44 = .ok (.iadd, 1) := by decide +kernel
theorem d_M_layFits_45 : decode y_M_layFits.2.1 45 = .ok (.iload 5, 2) := by decide +kernel
theorem d_M_layFits_47 : decode y_M_layFits.2.1 47 = .ok (.bastore, 1) := by decide +kernel
theorem d_M_layFits_48 : decode y_M_layFits.2.1 48 = .ok (.iload_n 2, 1) := by decide +kernel
theorem d_M_layFits_49 : decode y_M_layFits.2.1 49 = .ok (.iload 5, 2) := by decide +kernel
theorem d_M_layFits_51 : decode y_M_layFits.2.1 51 = .ok (.invokestatic 299, 3) := by decide +kernel
theorem d_M_layFits_54 : decode y_M_layFits.2.1 54 = .ok (.iadd, 1) := by decide +kernel
theorem d_M_layFits_55 : decode y_M_layFits.2.1 55 = .ok (.istore_n 2, 1) := by decide +kernel
theorem d_M_layFits_56 : decode y_M_layFits.2.1 56 = .ok (.iinc 4 1, 3) := by decide +kernel
theorem d_M_layFits_59 : decode y_M_layFits.2.1 59 = .ok (.goto (-42), 3) := by decide +kernel
theorem d_M_layFits_62 : decode y_M_layFits.2.1 62 = .ok (.iinc 3 1, 3) := by decide +kernel
theorem d_M_layFits_65 : decode y_M_layFits.2.1 65 = .ok (.goto (-57), 3) := by decide +kernel
theorem d_M_layFits_68 : decode y_M_layFits.2.1 68 = .ok (.iload_n 2, 1) := by decide +kernel
theorem d_M_layFits_69 : decode y_M_layFits.2.1 69 = .ok (.ireturn, 1) := by decide +kernel

abbrev y_M_fits : MI := (⟨"CricketHayModel", "fits", "(I)I"⟩, prog_14_method_112_code, 2, (some .int))
theorem hy_M_fits : y_M_fits.1.cls ≠ "java/lang/invoke/MethodHandle" ∧ y_M_fits.1.cls ≠ "java/lang/invoke/VarHandle" ∧ (parseMethodDescriptor y_M_fits.1.desc).map (fun d => d.parameters.length) = some 1 := by decide +kernel
theorem d_M_fits_0 : decode y_M_fits.2.1 0 = .ok (.aload_n 0, 1) := by decide +kernel
theorem d_M_fits_1 : decode y_M_fits.2.1 1 = .ok (.iload_n 1, 1) := by decide +kernel
theorem d_M_fits_2 : decode y_M_fits.2.1 2 = .ok (.invokevirtual 518, 3) := by decide +kernel
theorem d_M_fits_5 : decode y_M_fits.2.1 5 = .ok (.ireturn, 1) := by decide +kernel

abbrev y_M_sure : MI := (⟨"CricketHayModel", "sure", "(I)I"⟩, prog_14_method_113_code, 5, (some .int))
theorem hy_M_sure : y_M_sure.1.cls ≠ "java/lang/invoke/MethodHandle" ∧ y_M_sure.1.cls ≠ "java/lang/invoke/VarHandle" ∧ (parseMethodDescriptor y_M_sure.1.desc).map (fun d => d.parameters.length) = some 1 := by decide +kernel
theorem d_M_sure_0 : decode y_M_sure.2.1 0 = .ok (.aload_n 0, 1) := by decide +kernel
theorem d_M_sure_1 : decode y_M_sure.2.1 1 = .ok (.iload_n 1, 1) := by decide +kernel
theorem d_M_sure_2 : decode y_M_sure.2.1 2 = .ok (.invokevirtual 518, 3) := by decide +kernel
theorem d_M_sure_5 : decode y_M_sure.2.1 5 = .ok (.ifCond .ne 5, 3) := by decide +kernel
theorem d_M_sure_8 : decode y_M_sure.2.1 8 = .ok (.iconst (-1), 1) := by decide +kernel
theorem d_M_sure_9 : decode y_M_sure.2.1 9 = .ok (.ireturn, 1) := by decide +kernel
theorem d_M_sure_10 : decode y_M_sure.2.1 10 = .ok (.iconst (-1), 1) := by decide +kernel
theorem d_M_sure_11 : decode y_M_sure.2.1 11 = .ok (.istore_n 2, 1) := by decide +kernel
theorem d_M_sure_12 : decode y_M_sure.2.1 12 = .ok (.iconst 0, 1) := by decide +kernel
theorem d_M_sure_13 : decode y_M_sure.2.1 13 = .ok (.istore_n 3, 1) := by decide +kernel
theorem d_M_sure_14 : decode y_M_sure.2.1 14 = .ok (.iload_n 3, 1) := by decide +kernel
theorem d_M_sure_15 : decode y_M_sure.2.1 15 = .ok (.bipush 100, 2) := by decide +kernel
theorem d_M_sure_17 : decode y_M_sure.2.1 17 = .ok (.if_icmp .ge 46, 3) := by decide +kernel
theorem d_M_sure_20 : decode y_M_sure.2.1 20 = .ok (.aload_n 0, 1) := by decide +kernel
theorem d_M_sure_21 : decode y_M_sure.2.1 21 = .ok (.getfield 124, 3) := by decide +kernel
theorem d_M_sure_24 : decode y_M_sure.2.1 24 = .ok (.iload_n 3, 1) := by decide +kernel
theorem d_M_sure_25 : decode y_M_sure.2.1 25 = .ok (.baload, 1) := by decide +kernel
theorem d_M_sure_26 : decode y_M_sure.2.1 26 = .ok (.ifCond .ne 6, 3) := by decide +kernel
theorem d_M_sure_29 : decode y_M_sure.2.1 29 = .ok (.goto 28, 3) := by decide +kernel
theorem d_M_sure_32 : decode y_M_sure.2.1 32 = .ok (.iload_n 3, 1) := by decide +kernel
theorem d_M_sure_33 : decode y_M_sure.2.1 33 = .ok (.bipush 10, 2) := by decide +kernel
theorem d_M_sure_35 : decode y_M_sure.2.1 35 = .ok (.idiv, 1) := by decide +kernel
theorem d_M_sure_36 : decode y_M_sure.2.1 36 = .ok (.istore 4, 2) := by decide +kernel
theorem d_M_sure_38 : decode y_M_sure.2.1 38 = .ok (.iload_n 2, 1) := by decide +kernel
theorem d_M_sure_39 : decode y_M_sure.2.1 39 = .ok (.iconst (-1), 1) := by decide +kernel
theorem d_M_sure_40 : decode y_M_sure.2.1 40 = .ok (.if_icmp .eq 9, 3) := by decide +kernel
theorem d_M_sure_43 : decode y_M_sure.2.1 43 = .ok (.iload_n 2, 1) := by decide +kernel
theorem d_M_sure_44 : decode y_M_sure.2.1 44 = .ok (.iload 4, 2) := by decide +kernel
theorem d_M_sure_46 : decode y_M_sure.2.1 46 = .ok (.if_icmp .ne 8, 3) := by decide +kernel
theorem d_M_sure_49 : decode y_M_sure.2.1 49 = .ok (.iload 4, 2) := by decide +kernel
theorem d_M_sure_51 : decode y_M_sure.2.1 51 = .ok (.goto 5, 3) := by decide +kernel
theorem d_M_sure_54 : decode y_M_sure.2.1 54 = .ok (.bipush (-2), 2) := by decide +kernel
theorem d_M_sure_56 : decode y_M_sure.2.1 56 = .ok (.istore_n 2, 1) := by decide +kernel
theorem d_M_sure_57 : decode y_M_sure.2.1 57 = .ok (.iinc 3 1, 3) := by decide +kernel
theorem d_M_sure_60 : decode y_M_sure.2.1 60 = .ok (.goto (-46), 3) := by decide +kernel
theorem d_M_sure_63 : decode y_M_sure.2.1 63 = .ok (.iload_n 2, 1) := by decide +kernel
theorem d_M_sure_64 : decode y_M_sure.2.1 64 = .ok (.ireturn, 1) := by decide +kernel

abbrev y_M_loudAt : MI := (⟨"CricketHayModel", "loudAt", "(II)I"⟩, prog_14_method_114_code, 5, (some .int))
theorem hy_M_loudAt : y_M_loudAt.1.cls ≠ "java/lang/invoke/MethodHandle" ∧ y_M_loudAt.1.cls ≠ "java/lang/invoke/VarHandle" ∧ (parseMethodDescriptor y_M_loudAt.1.desc).map (fun d => d.parameters.length) = some 2 := by decide +kernel
theorem d_M_loudAt_0 : decode y_M_loudAt.2.1 0 = .ok (.iconst 0, 1) := by decide +kernel
theorem d_M_loudAt_1 : decode y_M_loudAt.2.1 1 = .ok (.istore_n 3, 1) := by decide +kernel
theorem d_M_loudAt_2 : decode y_M_loudAt.2.1 2 = .ok (.iconst 0, 1) := by decide +kernel
theorem d_M_loudAt_3 : decode y_M_loudAt.2.1 3 = .ok (.istore 4, 2) := by decide +kernel
theorem d_M_loudAt_5 : decode y_M_loudAt.2.1 5 = .ok (.iload 4, 2) := by decide +kernel
theorem d_M_loudAt_7 : decode y_M_loudAt.2.1 7 = .ok (.bipush 100, 2) := by decide +kernel
theorem d_M_loudAt_9 : decode y_M_loudAt.2.1 9 = .ok (.if_icmp .ge 50, 3) := by decide +kernel
theorem d_M_loudAt_12 : decode y_M_loudAt.2.1 12 = .ok (.iload_n 3, 1) := by decide +kernel
theorem d_M_loudAt_13 : decode y_M_loudAt.2.1 13 = .ok (.aload_n 0, 1) := by decide +kernel
theorem d_M_loudAt_14 : decode y_M_loudAt.2.1 14 = .ok (.getfield 124, 3) := by decide +kernel
theorem d_M_loudAt_17 : decode y_M_loudAt.2.1 17 = .ok (.iload 4, 2) := by decide +kernel
theorem d_M_loudAt_19 : decode y_M_loudAt.2.1 19 = .ok (.baload, 1) := by decide +kernel
theorem d_M_loudAt_20 : decode y_M_loudAt.2.1 20 = .ok (.ifCond .eq 27, 3) := by decide +kernel
theorem d_M_loudAt_23 : decode y_M_loudAt.2.1 23 = .ok (.aload_n 0, 1) := by decide +kernel
theorem d_M_loudAt_24 : decode y_M_loudAt.2.1 24 = .ok (.iload_n 1, 1) := by decide +kernel
theorem d_M_loudAt_25 : decode y_M_loudAt.2.1 25 = .ok (.iload 4, 2) := by decide +kernel
theorem d_M_loudAt_27 : decode y_M_loudAt.2.1 27 = .ok (.bipush 10, 2) := by decide +kernel
theorem d_M_loudAt_29 : decode y_M_loudAt.2.1 29 = .ok (.idiv, 1) := by decide +kernel
theorem d_M_loudAt_30 : decode y_M_loudAt.2.1 30 = .ok (.iload 4, 2) := by decide +kernel
theorem d_M_loudAt_32 : decode y_M_loudAt.2.1 32 = .ok (.bipush 10, 2) := by decide +kernel
theorem d_M_loudAt_34 : decode y_M_loudAt.2.1 34 = .ok (.irem, 1) := by decide +kernel
theorem d_M_loudAt_35 : decode y_M_loudAt.2.1 35 = .ok (.iconst 0, 1) := by decide +kernel
theorem d_M_loudAt_36 : decode y_M_loudAt.2.1 36 = .ok (.invokevirtual 407, 3) := by decide +kernel
theorem d_M_loudAt_39 : decode y_M_loudAt.2.1 39 = .ok (.iload_n 2, 1) := by decide +kernel
theorem d_M_loudAt_40 : decode y_M_loudAt.2.1 40 = .ok (.if_icmp .lt 7, 3) := by decide +kernel
theorem d_M_loudAt_43 : decode y_M_loudAt.2.1 43 = .ok (.iconst 1, 1) := by decide +kernel
theorem d_M_loudAt_44 : decode y_M_loudAt.2.1 44 = .ok (.goto 4, 3) := by decide +kernel
theorem d_M_loudAt_47 : decode y_M_loudAt.2.1 47 = .ok (.iconst 0, 1) := by decide +kernel
theorem d_M_loudAt_48 : decode y_M_loudAt.2.1 48 = .ok (.invokestatic 299, 3) := by decide +kernel
theorem d_M_loudAt_51 : decode y_M_loudAt.2.1 51 = .ok (.iadd, 1) := by decide +kernel
theorem d_M_loudAt_52 : decode y_M_loudAt.2.1 52 = .ok (.istore_n 3, 1) := by decide +kernel
theorem d_M_loudAt_53 : decode y_M_loudAt.2.1 53 = .ok (.iinc 4 1, 3) := by decide +kernel
theorem d_M_loudAt_56 : decode y_M_loudAt.2.1 56 = .ok (.goto (-51), 3) := by decide +kernel
theorem d_M_loudAt_59 : decode y_M_loudAt.2.1 59 = .ok (.iload_n 3, 1) := by decide +kernel
theorem d_M_loudAt_60 : decode y_M_loudAt.2.1 60 = .ok (.ireturn, 1) := by decide +kernel

abbrev y_M_ask : MI := (⟨"CricketHayModel", "ask", "(III)I"⟩, prog_14_method_115_code, 10, (some .int))
theorem hy_M_ask : y_M_ask.1.cls ≠ "java/lang/invoke/MethodHandle" ∧ y_M_ask.1.cls ≠ "java/lang/invoke/VarHandle" ∧ (parseMethodDescriptor y_M_ask.1.desc).map (fun d => d.parameters.length) = some 3 := by decide +kernel
theorem d_M_ask_0 : decode y_M_ask.2.1 0 = .ok (.iload_n 1, 1) := by decide +kernel
theorem d_M_ask_1 : decode y_M_ask.2.1 1 = .ok (.iconst 0, 1) := by decide +kernel
theorem d_M_ask_2 : decode y_M_ask.2.1 2 = .ok (.bipush 99, 2) := by decide +kernel
theorem d_M_ask_4 : decode y_M_ask.2.1 4 = .ok (.invokestatic 381, 3) := by decide +kernel
theorem d_M_ask_7 : decode y_M_ask.2.1 7 = .ok (.ifCond .eq 12, 3) := by decide +kernel
theorem d_M_ask_10 : decode y_M_ask.2.1 10 = .ok (.iload_n 2, 1) := by decide +kernel
theorem d_M_ask_11 : decode y_M_ask.2.1 11 = .ok (.iconst 0, 1) := by decide +kernel
theorem d_M_ask_12 : decode y_M_ask.2.1 12 = .ok (.iconst 1, 1) := by decide +kernel
theorem d_M_ask_13 : decode y_M_ask.2.1 13 = .ok (.invokestatic 381, 3) := by decide +kernel
theorem d_M_ask_16 : decode y_M_ask.2.1 16 = .ok (.ifCond .ne 5, 3) := by decide +kernel
theorem d_M_ask_19 : decode y_M_ask.2.1 19 = .ok (.iconst (-1), 1) := by decide +kernel
theorem d_M_ask_20 : decode y_M_ask.2.1 20 = .ok (.ireturn, 1) := by decide +kernel
theorem d_M_ask_21 : decode y_M_ask.2.1 21 = .ok (.aload_n 0, 1) := by decide +kernel
theorem d_M_ask_22 : decode y_M_ask.2.1 22 = .ok (.iload_n 3, 1) := by decide +kernel
theorem d_M_ask_23 : decode y_M_ask.2.1 23 = .ok (.invokevirtual 518, 3) := by decide +kernel
theorem d_M_ask_26 : decode y_M_ask.2.1 26 = .ok (.istore 4, 2) := by decide +kernel
theorem d_M_ask_28 : decode y_M_ask.2.1 28 = .ok (.iconst (-1), 1) := by decide +kernel
theorem d_M_ask_29 : decode y_M_ask.2.1 29 = .ok (.istore 5, 2) := by decide +kernel
theorem d_M_ask_31 : decode y_M_ask.2.1 31 = .ok (.iload 4, 2) := by decide +kernel
theorem d_M_ask_33 : decode y_M_ask.2.1 33 = .ok (.iconst 1, 1) := by decide +kernel
theorem d_M_ask_34 : decode y_M_ask.2.1 34 = .ok (.iadd, 1) := by decide +kernel
theorem d_M_ask_35 : decode y_M_ask.2.1 35 = .ok (.istore 6, 2) := by decide +kernel
theorem d_M_ask_37 : decode y_M_ask.2.1 37 = .ok (.iconst 0, 1) := by decide +kernel
theorem d_M_ask_38 : decode y_M_ask.2.1 38 = .ok (.istore 7, 2) := by decide +kernel
theorem d_M_ask_40 : decode y_M_ask.2.1 40 = .ok (.iload 7, 2) := by decide +kernel
theorem d_M_ask_42 : decode y_M_ask.2.1 42 = .ok (.bipush 40, 2) := by decide +kernel
theorem d_M_ask_44 : decode y_M_ask.2.1 44 = .ok (.if_icmp .gt 63, 3) := by decide +kernel
theorem d_M_ask_47 : decode y_M_ask.2.1 47 = .ok (.iload 4, 2) := by decide +kernel
theorem d_M_ask_49 : decode y_M_ask.2.1 49 = .ok (.ifCond .le 58, 3) := by decide +kernel
theorem d_M_ask_52 : decode y_M_ask.2.1 52 = .ok (.aload_n 0, 1) := by decide +kernel
theorem d_M_ask_53 : decode y_M_ask.2.1 53 = .ok (.iload 7, 2) := by decide +kernel
theorem d_M_ask_55 : decode y_M_ask.2.1 55 = .ok (.iload_n 1, 1) := by decide +kernel
theorem d_M_ask_56 : decode y_M_ask.2.1 56 = .ok (.invokevirtual 521, 3) := by decide +kernel
theorem d_M_ask_59 : decode y_M_ask.2.1 59 = .ok (.istore 8, 2) := by decide +kernel
theorem d_M_ask_61 : decode y_M_ask.2.1 61 = .ok (.iload 8, 2) := by decide +kernel
theorem d_M_ask_63 : decode y_M_ask.2.1 63 = .ok (.iload 4, 2) := by decide +kernel
theorem d_M_ask_65 : decode y_M_ask.2.1 65 = .ok (.iload 8, 2) := by decide +kernel
theorem d_M_ask_67 : decode y_M_ask.2.1 67 = .ok (.isub, 1) := by decide +kernel
theorem d_M_ask_68 : decode y_M_ask.2.1 68 = .ok (.if_icmp .le 8, 3) := by decide +kernel
theorem d_M_ask_71 : decode y_M_ask.2.1 71 = .ok (.iload 8, 2) := by decide +kernel
theorem d_M_ask_73 : decode y_M_ask.2.1 73 = .ok (.goto 8, 3) := by decide +kernel
theorem d_M_ask_76 : decode y_M_ask.2.1 76 = .ok (.iload 4, 2) := by decide +kernel
theorem d_M_ask_78 : decode y_M_ask.2.1 78 = .ok (.iload 8, 2) := by decide +kernel
theorem d_M_ask_80 : decode y_M_ask.2.1 80 = .ok (.isub, 1) := by decide +kernel
theorem d_M_ask_81 : decode y_M_ask.2.1 81 = .ok (.istore 9, 2) := by decide +kernel
theorem d_M_ask_83 : decode y_M_ask.2.1 83 = .ok (.iload 9, 2) := by decide +kernel
theorem d_M_ask_85 : decode y_M_ask.2.1 85 = .ok (.iload 6, 2) := by decide +kernel
theorem d_M_ask_87 : decode y_M_ask.2.1 87 = .ok (.if_icmp .lt 6, 3) := by decide +kernel
theorem d_M_ask_90 : decode y_M_ask.2.1 90 = .ok (.goto 11, 3) := by decide +kernel
theorem d_M_ask_93 : decode y_M_ask.2.1 93 = .ok (.iload 7, 2) := by decide +kernel
theorem d_M_ask_95 : decode y_M_ask.2.1 95 = .ok (.istore 5, 2) := by decide +kernel
theorem d_M_ask_97 : decode y_M_ask.2.1 97 = .ok (.iload 9, 2) := by decide +kernel
theorem d_M_ask_99 : decode y_M_ask.2.1 99 = .ok (.istore 6, 2) := by decide +kernel
theorem d_M_ask_101 : decode y_M_ask.2.1 101 = .ok (.iinc 7 1, 3) := by decide +kernel
theorem d_M_ask_104 : decode y_M_ask.2.1 104 = .ok (.goto (-64), 3) := by decide +kernel
theorem d_M_ask_107 : decode y_M_ask.2.1 107 = .ok (.iload 5, 2) := by decide +kernel
theorem d_M_ask_109 : decode y_M_ask.2.1 109 = .ok (.ifCond .ge 7, 3) := by decide +kernel
theorem d_M_ask_112 : decode y_M_ask.2.1 112 = .ok (.iconst (-1), 1) := by decide +kernel
theorem d_M_ask_113 : decode y_M_ask.2.1 113 = .ok (.goto 14, 3) := by decide +kernel
theorem d_M_ask_116 : decode y_M_ask.2.1 116 = .ok (.iload_n 2, 1) := by decide +kernel
theorem d_M_ask_117 : decode y_M_ask.2.1 117 = .ok (.ifCond .ne 8, 3) := by decide +kernel
theorem d_M_ask_120 : decode y_M_ask.2.1 120 = .ok (.iload 5, 2) := by decide +kernel
theorem d_M_ask_122 : decode y_M_ask.2.1 122 = .ok (.goto 5, 3) := by decide +kernel
theorem d_M_ask_125 : decode y_M_ask.2.1 125 = .ok (.iload 6, 2) := by decide +kernel
theorem d_M_ask_127 : decode y_M_ask.2.1 127 = .ok (.ireturn, 1) := by decide +kernel

abbrev y_M_isBox : MI := (⟨"CricketHayModel", "isBox", "(I)Z"⟩, prog_14_method_116_code, 1, (some .boolean))
theorem hy_M_isBox : y_M_isBox.1.cls ≠ "java/lang/invoke/MethodHandle" ∧ y_M_isBox.1.cls ≠ "java/lang/invoke/VarHandle" ∧ (parseMethodDescriptor y_M_isBox.1.desc).map (fun d => d.parameters.length) = some 1 := by decide +kernel
theorem d_M_isBox_0 : decode y_M_isBox.2.1 0 = .ok (.iload_n 0, 1) := by decide +kernel
theorem d_M_isBox_1 : decode y_M_isBox.2.1 1 = .ok (.ifCond .lt 12, 3) := by decide +kernel
theorem d_M_isBox_4 : decode y_M_isBox.2.1 4 = .ok (.iload_n 0, 1) := by decide +kernel
theorem d_M_isBox_5 : decode y_M_isBox.2.1 5 = .ok (.iconst 3, 1) := by decide +kernel
theorem d_M_isBox_6 : decode y_M_isBox.2.1 6 = .ok (.if_icmp .ge 7, 3) := by decide +kernel
theorem d_M_isBox_9 : decode y_M_isBox.2.1 9 = .ok (.iconst 1, 1) := by decide +kernel
theorem d_M_isBox_10 : decode y_M_isBox.2.1 10 = .ok (.goto 4, 3) := by decide +kernel
theorem d_M_isBox_13 : decode y_M_isBox.2.1 13 = .ok (.iconst 0, 1) := by decide +kernel
theorem d_M_isBox_14 : decode y_M_isBox.2.1 14 = .ok (.ireturn, 1) := by decide +kernel

abbrev y_M_image : MI := (⟨"CricketHayModel", "image", "(I)I"⟩, prog_14_method_117_code, 3, (some .int))
theorem hy_M_image : y_M_image.1.cls ≠ "java/lang/invoke/MethodHandle" ∧ y_M_image.1.cls ≠ "java/lang/invoke/VarHandle" ∧ (parseMethodDescriptor y_M_image.1.desc).map (fun d => d.parameters.length) = some 1 := by decide +kernel
theorem d_M_image_0 : decode y_M_image.2.1 0 = .ok (.iload_n 1, 1) := by decide +kernel
theorem d_M_image_1 : decode y_M_image.2.1 1 = .ok (.invokestatic 524, 3) := by decide +kernel
theorem d_M_image_4 : decode y_M_image.2.1 4 = .ok (.ifCond .ne 5, 3) := by decide +kernel
theorem d_M_image_7 : decode y_M_image.2.1 7 = .ok (.iconst (-1), 1) := by decide +kernel
theorem d_M_image_8 : decode y_M_image.2.1 8 = .ok (.ireturn, 1) := by decide +kernel
theorem d_M_image_9 : decode y_M_image.2.1 9 = .ok (.aload_n 0, 1) := by decide +kernel
theorem d_M_image_10 : decode y_M_image.2.1 10 = .ok (.getfield 127, 3) := by decide +kernel
theorem d_M_image_13 : decode y_M_image.2.1 13 = .ok (.iload_n 1, 1) := by decide +kernel
theorem d_M_image_14 : decode y_M_image.2.1 14 = .ok (.iconst 1, 1) := by decide +kernel
theorem d_M_image_15 : decode y_M_image.2.1 15 = .ok (.bastore, 1) := by decide +kernel
theorem d_M_image_16 : decode y_M_image.2.1 16 = .ok (.iconst 0, 1) := by decide +kernel
theorem d_M_image_17 : decode y_M_image.2.1 17 = .ok (.istore_n 2, 1) := by decide +kernel
theorem d_M_image_18 : decode y_M_image.2.1 18 = .ok (.iload_n 2, 1) := by decide +kernel
theorem d_M_image_19 : decode y_M_image.2.1 19 = .ok (.bipush 35, 2) := by decide +kernel
theorem d_M_image_21 : decode y_M_image.2.1 21 = .ok (.if_icmp .ge 26, 3) := by decide +kernel
theorem d_M_image_24 : decode y_M_image.2.1 24 = .ok (.aload_n 0, 1) := by decide +kernel
theorem d_M_image_25 : decode y_M_image.2.1 25 = .ok (.getfield 130, 3) := by decide +kernel
theorem d_M_image_28 : decode y_M_image.2.1 28 = .ok (.bipush 35, 2) := by decide +kernel
theorem d_M_image_30 : decode y_M_image.2.1 30 = .ok (.iload_n 1, 1) := by decide +kernel
theorem d_M_image_31 : decode y_M_image.2.1 31 = .ok (.imul, 1) := by decide +kernel
theorem d_M_image_32 : decode y_M_image.2.1 32 = .ok (.iload_n 2, 1) := by decide +kernel
theorem d_M_image_33 : decode y_M_image.2.1 33 = .ok (.iadd, 1) := by decide +kernel
theorem d_M_image_34 : decode y_M_image.2.1 34 = .ok (.aload_n 0, 1) := by decide +kernel
theorem d_M_image_35 : decode y_M_image.2.1 35 = .ok (.getfield 85, 3) := by decide +kernel
theorem d_M_image_38 : decode y_M_image.2.1 38 = .ok (.iload_n 2, 1) := by decide +kernel
theorem d_M_image_39 : decode y_M_image.2.1 39 = .ok (.iaload, 1) := by decide +kernel
theorem d_M_image_40 : decode y_M_image.2.1 40 = .ok (.iastore, 1) := by decide +kernel
theorem d_M_image_41 : decode y_M_image.2.1 41 = .ok (.iinc 2 1, 3) := by decide +kernel
theorem d_M_image_44 : decode y_M_image.2.1 44 = .ok (.goto (-26), 3) := by decide +kernel
theorem d_M_image_47 : decode y_M_image.2.1 47 = .ok (.aload_n 0, 1) := by decide +kernel
theorem d_M_image_48 : decode y_M_image.2.1 48 = .ok (.getfield 85, 3) := by decide +kernel
theorem d_M_image_51 : decode y_M_image.2.1 51 = .ok (.bipush 33, 2) := by decide +kernel
theorem d_M_image_53 : decode y_M_image.2.1 53 = .ok (.iaload, 1) := by decide +kernel
theorem d_M_image_54 : decode y_M_image.2.1 54 = .ok (.ireturn, 1) := by decide +kernel

abbrev y_M_back : MI := (⟨"CricketHayModel", "back", "(I)I"⟩, prog_14_method_118_code, 3, (some .int))
theorem hy_M_back : y_M_back.1.cls ≠ "java/lang/invoke/MethodHandle" ∧ y_M_back.1.cls ≠ "java/lang/invoke/VarHandle" ∧ (parseMethodDescriptor y_M_back.1.desc).map (fun d => d.parameters.length) = some 1 := by decide +kernel
theorem d_M_back_0 : decode y_M_back.2.1 0 = .ok (.iload_n 1, 1) := by decide +kernel
theorem d_M_back_1 : decode y_M_back.2.1 1 = .ok (.invokestatic 524, 3) := by decide +kernel
theorem d_M_back_4 : decode y_M_back.2.1 4 = .ok (.ifCond .eq 12, 3) := by decide +kernel
theorem d_M_back_7 : decode y_M_back.2.1 7 = .ok (.aload_n 0, 1) := by decide +kernel
theorem d_M_back_8 : decode y_M_back.2.1 8 = .ok (.getfield 127, 3) := by decide +kernel
theorem d_M_back_11 : decode y_M_back.2.1 11 = .ok (.iload_n 1, 1) := by decide +kernel
theorem d_M_back_12 : decode y_M_back.2.1 12 = .ok (.baload, 1) := by decide +kernel
theorem d_M_back_13 : decode y_M_back.2.1 13 = .ok (.ifCond .ne 5, 3) := by decide +kernel
theorem d_M_back_16 : decode y_M_back.2.1 16 = .ok (.iconst (-1), 1) := by decide +kernel
theorem d_M_back_17 : decode y_M_back.2.1 17 = .ok (.ireturn, 1) := by decide +kernel
theorem d_M_back_18 : decode y_M_back.2.1 18 = .ok (.iconst 0, 1) := by decide +kernel
theorem d_M_back_19 : decode y_M_back.2.1 19 = .ok (.istore_n 2, 1) := by decide +kernel
theorem d_M_back_20 : decode y_M_back.2.1 20 = .ok (.iload_n 2, 1) := by decide +kernel
theorem d_M_back_21 : decode y_M_back.2.1 21 = .ok (.bipush 35, 2) := by decide +kernel
theorem d_M_back_23 : decode y_M_back.2.1 23 = .ok (.if_icmp .ge 26, 3) := by decide +kernel
theorem d_M_back_26 : decode y_M_back.2.1 26 = .ok (.aload_n 0, 1) := by decide +kernel
theorem d_M_back_27 : decode y_M_back.2.1 27 = .ok (.getfield 85, 3) := by decide +kernel
theorem d_M_back_30 : decode y_M_back.2.1 30 = .ok (.iload_n 2, 1) := by decide +kernel
theorem d_M_back_31 : decode y_M_back.2.1 31 = .ok (.aload_n 0, 1) := by decide +kernel
theorem d_M_back_32 : decode y_M_back.2.1 32 = .ok (.getfield 130, 3) := by decide +kernel
theorem d_M_back_35 : decode y_M_back.2.1 35 = .ok (.bipush 35, 2) := by decide +kernel
theorem d_M_back_37 : decode y_M_back.2.1 37 = .ok (.iload_n 1, 1) := by decide +kernel
theorem d_M_back_38 : decode y_M_back.2.1 38 = .ok (.imul, 1) := by decide +kernel
theorem d_M_back_39 : decode y_M_back.2.1 39 = .ok (.iload_n 2, 1) := by decide +kernel
theorem d_M_back_40 : decode y_M_back.2.1 40 = .ok (.iadd, 1) := by decide +kernel
theorem d_M_back_41 : decode y_M_back.2.1 41 = .ok (.iaload, 1) := by decide +kernel
theorem d_M_back_42 : decode y_M_back.2.1 42 = .ok (.iastore, 1) := by decide +kernel
theorem d_M_back_43 : decode y_M_back.2.1 43 = .ok (.iinc 2 1, 3) := by decide +kernel
theorem d_M_back_46 : decode y_M_back.2.1 46 = .ok (.goto (-26), 3) := by decide +kernel
theorem d_M_back_49 : decode y_M_back.2.1 49 = .ok (.aload_n 0, 1) := by decide +kernel
theorem d_M_back_50 : decode y_M_back.2.1 50 = .ok (.iconst 0, 1) := by decide +kernel
theorem d_M_back_51 : decode y_M_back.2.1 51 = .ok (.putfield 369, 3) := by decide +kernel
theorem d_M_back_54 : decode y_M_back.2.1 54 = .ok (.aload_n 0, 1) := by decide +kernel
theorem d_M_back_55 : decode y_M_back.2.1 55 = .ok (.iconst 0, 1) := by decide +kernel
theorem d_M_back_56 : decode y_M_back.2.1 56 = .ok (.putfield 372, 3) := by decide +kernel
theorem d_M_back_59 : decode y_M_back.2.1 59 = .ok (.aload_n 0, 1) := by decide +kernel
theorem d_M_back_60 : decode y_M_back.2.1 60 = .ok (.getfield 85, 3) := by decide +kernel
theorem d_M_back_63 : decode y_M_back.2.1 63 = .ok (.bipush 33, 2) := by decide +kernel
theorem d_M_back_65 : decode y_M_back.2.1 65 = .ok (.iaload, 1) := by decide +kernel
theorem d_M_back_66 : decode y_M_back.2.1 66 = .ok (.ireturn, 1) := by decide +kernel

abbrev y_M_about : MI := (⟨"CricketHayModel", "about", "(I)I"⟩, prog_14_method_119_code, 2, (some .int))
theorem hy_M_about : y_M_about.1.cls ≠ "java/lang/invoke/MethodHandle" ∧ y_M_about.1.cls ≠ "java/lang/invoke/VarHandle" ∧ (parseMethodDescriptor y_M_about.1.desc).map (fun d => d.parameters.length) = some 1 := by decide +kernel
theorem d_M_about_0 : decode y_M_about.2.1 0 = .ok (.iload_n 1, 1) := by decide +kernel
theorem d_M_about_1 : decode y_M_about.2.1 1 = .ok (.tableswitch 153 0 13 #[71, 76, 81, 86, 94, 102, 110, 118, 123, 128, 133, 138, 143, 148], 71) := by decide +kernel
theorem d_M_about_72 : decode y_M_about.2.1 72 = .ok (.aload_n 0, 1) := by decide +kernel
theorem d_M_about_73 : decode y_M_about.2.1 73 = .ok (.getfield 360, 3) := by decide +kernel
theorem d_M_about_76 : decode y_M_about.2.1 76 = .ok (.ireturn, 1) := by decide +kernel
theorem d_M_about_77 : decode y_M_about.2.1 77 = .ok (.aload_n 0, 1) := by decide +kernel
theorem d_M_about_78 : decode y_M_about.2.1 78 = .ok (.getfield 357, 3) := by decide +kernel
theorem d_M_about_81 : decode y_M_about.2.1 81 = .ok (.ireturn, 1) := by decide +kernel
theorem d_M_about_82 : decode y_M_about.2.1 82 = .ok (.aload_n 0, 1) := by decide +kernel
theorem d_M_about_83 : decode y_M_about.2.1 83 = .ok (.getfield 82, 3) := by decide +kernel
theorem d_M_about_86 : decode y_M_about.2.1 86 = .ok (.ireturn, 1) := by decide +kernel
theorem d_M_about_87 : decode y_M_about.2.1 87 = .ok (.aload_n 0, 1) := by decide +kernel
theorem d_M_about_88 : decode y_M_about.2.1 88 = .ok (.getfield 85, 3) := by decide +kernel
theorem d_M_about_91 : decode y_M_about.2.1 91 = .ok (.bipush 32, 2) := by decide +kernel
theorem d_M_about_93 : decode y_M_about.2.1 93 = .ok (.iaload, 1) := by decide +kernel
theorem d_M_about_94 : decode y_M_about.2.1 94 = .ok (.ireturn, 1) := by decide +kernel
theorem d_M_about_95 : decode y_M_about.2.1 95 = .ok (.aload_n 0, 1) := by decide +kernel
theorem d_M_about_96 : decode y_M_about.2.1 96 = .ok (.getfield 85, 3) := by decide +kernel
theorem d_M_about_99 : decode y_M_about.2.1 99 = .ok (.bipush 33, 2) := by decide +kernel
theorem d_M_about_101 : decode y_M_about.2.1 101 = .ok (.iaload, 1) := by decide +kernel
theorem d_M_about_102 : decode y_M_about.2.1 102 = .ok (.ireturn, 1) := by decide +kernel
theorem d_M_about_103 : decode y_M_about.2.1 103 = .ok (.aload_n 0, 1) := by decide +kernel
theorem d_M_about_104 : decode y_M_about.2.1 104 = .ok (.getfield 85, 3) := by decide +kernel
theorem d_M_about_107 : decode y_M_about.2.1 107 = .ok (.bipush 34, 2) := by decide +kernel
theorem d_M_about_109 : decode y_M_about.2.1 109 = .ok (.iaload, 1) := by decide +kernel
theorem d_M_about_110 : decode y_M_about.2.1 110 = .ok (.ireturn, 1) := by decide +kernel
theorem d_M_about_111 : decode y_M_about.2.1 111 = .ok (.aload_n 0, 1) := by decide +kernel
theorem d_M_about_112 : decode y_M_about.2.1 112 = .ok (.getfield 85, 3) := by decide +kernel
theorem d_M_about_115 : decode y_M_about.2.1 115 = .ok (.bipush 31, 2) := by decide +kernel
theorem d_M_about_117 : decode y_M_about.2.1 117 = .ok (.iaload, 1) := by decide +kernel
theorem d_M_about_118 : decode y_M_about.2.1 118 = .ok (.ireturn, 1) := by decide +kernel
theorem d_M_about_119 : decode y_M_about.2.1 119 = .ok (.aload_n 0, 1) := by decide +kernel
theorem d_M_about_120 : decode y_M_about.2.1 120 = .ok (.getfield 369, 3) := by decide +kernel
theorem d_M_about_123 : decode y_M_about.2.1 123 = .ok (.ireturn, 1) := by decide +kernel
theorem d_M_about_124 : decode y_M_about.2.1 124 = .ok (.aload_n 0, 1) := by decide +kernel
theorem d_M_about_125 : decode y_M_about.2.1 125 = .ok (.getfield 372, 3) := by decide +kernel
theorem d_M_about_128 : decode y_M_about.2.1 128 = .ok (.ireturn, 1) := by decide +kernel
theorem d_M_about_129 : decode y_M_about.2.1 129 = .ok (.aload_n 0, 1) := by decide +kernel
theorem d_M_about_130 : decode y_M_about.2.1 130 = .ok (.getfield 375, 3) := by decide +kernel
theorem d_M_about_133 : decode y_M_about.2.1 133 = .ok (.ireturn, 1) := by decide +kernel
theorem d_M_about_134 : decode y_M_about.2.1 134 = .ok (.aload_n 0, 1) := by decide +kernel
theorem d_M_about_135 : decode y_M_about.2.1 135 = .ok (.getfield 511, 3) := by decide +kernel
theorem d_M_about_138 : decode y_M_about.2.1 138 = .ok (.ireturn, 1) := by decide +kernel
theorem d_M_about_139 : decode y_M_about.2.1 139 = .ok (.aload_n 0, 1) := by decide +kernel
theorem d_M_about_140 : decode y_M_about.2.1 140 = .ok (.getfield 133, 3) := by decide +kernel
theorem d_M_about_143 : decode y_M_about.2.1 143 = .ok (.ireturn, 1) := by decide +kernel
theorem d_M_about_144 : decode y_M_about.2.1 144 = .ok (.aload_n 0, 1) := by decide +kernel
theorem d_M_about_145 : decode y_M_about.2.1 145 = .ok (.getfield 366, 3) := by decide +kernel
theorem d_M_about_148 : decode y_M_about.2.1 148 = .ok (.ireturn, 1) := by decide +kernel
theorem d_M_about_149 : decode y_M_about.2.1 149 = .ok (.aload_n 0, 1) := by decide +kernel
theorem d_M_about_150 : decode y_M_about.2.1 150 = .ok (.getfield 378, 3) := by decide +kernel
theorem d_M_about_153 : decode y_M_about.2.1 153 = .ok (.ireturn, 1) := by decide +kernel
theorem d_M_about_154 : decode y_M_about.2.1 154 = .ok (.iconst (-1), 1) := by decide +kernel
theorem d_M_about_155 : decode y_M_about.2.1 155 = .ok (.ireturn, 1) := by decide +kernel
def f_M_priceBy  (a1 : Int32) (a2 : Int32) (a3 : Int32) (h : AH) : Option (Int32 × AH) :=
  bI (f_M_chirpsOf a2 h) fun rq1 hq2 =>
  bI (f_M_chirpsOf a3 hq2) fun rq3 hq4 =>
  if ¬ a1 = (1 : Int32) then
    if ¬ a1 = (2 : Int32) then
      some ((rq1 + rq3), hq4)
    else
      if rq3 ≤ rq1 then
        some (rq3, hq4)
      else
        some (rq1, hq4)
  else
    if rq1 ≤ rq3 then
      some (rq3, hq4)
    else
      some (rq1, hq4)
set_option maxHeartbeats 2000000 in
theorem ok_M_priceBy {G : AE} {n : Nat} (hn : NN ≤ n)  (a1 : Int32) (a2 : Int32) (a3 : Int32) (h : AH) : OK G n y_M_priceBy (6) φI [.ref 383, .int a1, .int a2, .int a3] h (f_M_priceBy a1 a2 a3 h) := by
  refine ok_of (y := y_M_priceBy) (lv0 := [some (.ref 383), some (.int a1), some (.int a2), some (.int a3), none, none]) (by decide +kernel) (Nat.le_of_ble_eq_true rfl) ⟨rfl, ⟨rfl, ⟨rfl, ⟨rfl, trivial⟩⟩⟩⟩ ?_
  rw [f_M_priceBy]
  refine r_aload_n (pc := 0) (i := 0) d_M_priceBy_0 rfl rfl ?_
  refine r_iload_n (pc := 1) (i := 2) d_M_priceBy_1 rfl rfl ?_
  refine r_cVi (pc := 2) (T := F_12) (N := 73) (st := []) (ok_M_chirpsOf hn a2 h) (fun s => Std.k s (lc hn rfl) kq_383) rfl w_1494 w_13 w_1491 w_1493 ws_78 hy_M_chirpsOf ⟨Nat.le_of_ble_eq_true rfl, Nat.le_of_ble_eq_true rfl⟩ ⟨Nat.le_of_ble_eq_true rfl, Nat.le_of_ble_eq_true rfl⟩ rfl (Nat.le_of_ble_eq_true rfl) d_M_priceBy_2 (fun rq1 hq2 => ?_)
  refine r_istore (pc := 5) (lv1 := [some (.ref 383), some (.int a1), some (.int a2), some (.int a3), some (.int rq1), none]) d_M_priceBy_5 (Nat.le_of_ble_eq_true rfl) rfl ?_
  refine r_aload_n (pc := 7) (i := 0) d_M_priceBy_7 rfl rfl ?_
  refine r_iload_n (pc := 8) (i := 3) d_M_priceBy_8 rfl rfl ?_
  refine r_cVi (pc := 9) (T := F_12) (N := 73) (st := []) (ok_M_chirpsOf hn a3 hq2) (fun s => Std.k s (lc hn rfl) kq_383) rfl w_1494 w_13 w_1491 w_1493 ws_78 hy_M_chirpsOf ⟨Nat.le_of_ble_eq_true rfl, Nat.le_of_ble_eq_true rfl⟩ ⟨Nat.le_of_ble_eq_true rfl, Nat.le_of_ble_eq_true rfl⟩ rfl (Nat.le_of_ble_eq_true rfl) d_M_priceBy_9 (fun rq3 hq4 => ?_)
  refine r_istore (pc := 12) (lv1 := [some (.ref 383), some (.int a1), some (.int a2), some (.int a3), some (.int rq1), some (.int rq3)]) d_M_priceBy_12 (Nat.le_of_ble_eq_true rfl) rfl ?_
  refine r_iload_n (pc := 14) (i := 1) d_M_priceBy_14 rfl rfl ?_
  refine r_iconst (pc := 15) (v := 1) d_M_priceBy_15 (by rfl) ?_
  refine r_icmp_ne (pc := 16) (tgt := 34) d_M_priceBy_16 (by rfl) ?_ ?_
  · refine r_iload_n (pc := 34) (i := 1) d_M_priceBy_34 rfl rfl ?_
    refine r_iconst (pc := 35) (v := 2) d_M_priceBy_35 (by rfl) ?_
    refine r_icmp_ne (pc := 36) (tgt := 54) d_M_priceBy_36 (by rfl) ?_ ?_
    · refine r_iload (pc := 54) d_M_priceBy_54 rfl ?_
      refine r_iload (pc := 56) d_M_priceBy_56 rfl ?_
      refine r_iadd (pc := 58) d_M_priceBy_58 ?_
      exact r_iret (pc := 59) rfl d_M_priceBy_59
    · refine r_iload (pc := 39) d_M_priceBy_39 rfl ?_
      refine r_iload (pc := 41) d_M_priceBy_41 rfl ?_
      refine r_icmp_ge (pc := 43) (tgt := 51) d_M_priceBy_43 (by rfl) ?_ ?_
      · refine r_iload (pc := 51) d_M_priceBy_51 rfl ?_
        exact r_iret (pc := 53) rfl d_M_priceBy_53
      · refine r_iload (pc := 46) d_M_priceBy_46 rfl ?_
        refine r_goto (pc := 48) (tgt := 53) d_M_priceBy_48 (by rfl) ?_
        exact r_iret (pc := 53) rfl d_M_priceBy_53
  · refine r_iload (pc := 19) d_M_priceBy_19 rfl ?_
    refine r_iload (pc := 21) d_M_priceBy_21 rfl ?_
    refine r_icmp_le (pc := 23) (tgt := 31) d_M_priceBy_23 (by rfl) ?_ ?_
    · refine r_iload (pc := 31) d_M_priceBy_31 rfl ?_
      exact r_iret (pc := 33) rfl d_M_priceBy_33
    · refine r_iload (pc := 26) d_M_priceBy_26 rfl ?_
      refine r_goto (pc := 28) (tgt := 33) d_M_priceBy_28 (by rfl) ?_
      exact r_iret (pc := 33) rfl d_M_priceBy_33

def f_M_law_l36  (a1 : Int32) (k25 : Int32 → Int32 → AH → Option (Int32 × AH)) : Nat → Int32 → Int32 → Int32 → AH → Option (Int32 × AH)
  | 0, _, _, _, _ => none
  | n + 1, x2, x3, x4, h =>
    if x3 ≤ x4 then
      lt (x3 + (1 : Int32)) fun xq1 =>
      k25 x2 xq1 h
    else
      bI (f_M_priceBy a1 x3 x4 h) fun rq2 hq3 =>
      lt (x2 + rq2) fun xq4 =>
      lt (x4 + (1 : Int32)) fun xq5 =>
      f_M_law_l36 a1 k25 n xq4 x3 xq5 hq3
set_option maxHeartbeats 2000000 in
theorem o_M_law_l36 {G : AE} {n : Nat} (hn : NN ≤ n)  {a1 : Int32}  {k25 : Int32 → Int32 → AH → Option (Int32 × AH)} (hk25 : ∀ (x2 : Int32) (x3 : Int32) (h : AH), AJ G n y_M_law (8) φI 25 [some (.ref 383), some (.int a1), some (.int x2), some (.int x3), none] [] h (k25 x2 x3 h)) : ∀ (n0 : Nat) (x2 : Int32) (x3 : Int32) (x4 : Int32) (h : AH), AJ G n y_M_law (8) φI 36 [some (.ref 383), some (.int a1), some (.int x2), some (.int x3), some (.int x4)] [] h (f_M_law_l36 a1 k25 n0 x2 x3 x4 h) := by
  intro n0
  induction n0 with
  | zero => intros; exact r_none
  | succ n0 ih =>
    intro x2 x3 x4 h
    rw [f_M_law_l36]
    refine r_iload (pc := 36) d_M_law_36 rfl ?_
    refine r_iload_n (pc := 38) (i := 3) d_M_law_38 rfl rfl ?_
    refine r_icmp_ge (pc := 39) (tgt := 59) d_M_law_39 (by rfl) ?_ ?_
    · refine r_ltE (fun xq1 exq1 => ?_)
      refine r_iinc (pc := 59) (v := xq1) (lv1 := [some (.ref 383), some (.int a1), some (.int x2), some (.int xq1), some (.int x4)]) d_M_law_59 rfl exq1.symm (Nat.le_of_ble_eq_true rfl) rfl ?_
      refine r_goto (pc := 62) (tgt := 25) d_M_law_62 (by rfl) ?_
      exact r_wk (hk25 x2 xq1 h) ⟨rfl, ⟨rfl, ⟨rfl, ⟨rfl, trivial⟩⟩⟩⟩
    · refine r_iload_n (pc := 42) (i := 2) d_M_law_42 rfl rfl ?_
      refine r_aload_n (pc := 43) (i := 0) d_M_law_43 rfl rfl ?_
      refine r_iload_n (pc := 44) (i := 1) d_M_law_44 rfl rfl ?_
      refine r_iload_n (pc := 45) (i := 3) d_M_law_45 rfl rfl ?_
      refine r_iload (pc := 46) d_M_law_46 rfl ?_
      refine r_cVi (pc := 48) (T := F_12) (N := 73) (st := [.int x2]) (ok_M_priceBy hn a1 x3 x4 h) (fun s => Std.k s (lc hn rfl) kq_383) rfl w_1707 w_13 w_1704 w_1706 ws_104 hy_M_priceBy ⟨Nat.le_of_ble_eq_true rfl, Nat.le_of_ble_eq_true rfl⟩ ⟨Nat.le_of_ble_eq_true rfl, Nat.le_of_ble_eq_true rfl⟩ rfl (Nat.le_of_ble_eq_true rfl) d_M_law_48 (fun rq2 hq3 => ?_)
      refine r_iadd (pc := 51) d_M_law_51 ?_
      refine r_ltI (fun xq4 => ?_)
      refine r_istore_n (pc := 52) (i := 2) (lv1 := [some (.ref 383), some (.int a1), some (.int xq4), some (.int x3), some (.int x4)]) d_M_law_52 rfl (Nat.le_of_ble_eq_true rfl) rfl ?_
      refine r_ltE (fun xq5 exq5 => ?_)
      refine r_iinc (pc := 53) (v := xq5) (lv1 := [some (.ref 383), some (.int a1), some (.int xq4), some (.int x3), some (.int xq5)]) d_M_law_53 rfl exq5.symm (Nat.le_of_ble_eq_true rfl) rfl ?_
      refine r_goto (pc := 56) (tgt := 36) d_M_law_56 (by rfl) ?_
      exact r_wk (ih xq4 x3 xq5 hq3) ⟨rfl, ⟨rfl, ⟨rfl, ⟨rfl, ⟨rfl, trivial⟩⟩⟩⟩⟩
def f_M_law_l25  (a1 : Int32)  : Nat → Int32 → Int32 → AH → Option (Int32 × AH)
  | 0, _, _, _ => none
  | n + 1, x2, x3, h =>
    if (hI h 383 43) ≤ x3 then
      some (x2, h)
    else
      f_M_law_l36 a1 (f_M_law_l25 a1 n) FU x2 x3 (0 : Int32) h
set_option maxHeartbeats 2000000 in
theorem o_M_law_l25 {G : AE} {n : Nat} (hn : NN ≤ n)  {a1 : Int32}   : ∀ (n0 : Nat) (x2 : Int32) (x3 : Int32) (h : AH), AJ G n y_M_law (8) φI 25 [some (.ref 383), some (.int a1), some (.int x2), some (.int x3), none] [] h (f_M_law_l25 a1 n0 x2 x3 h) := by
  intro n0
  induction n0 with
  | zero => intros; exact r_none
  | succ n0 ih =>
    intro x2 x3 h
    rw [f_M_law_l25]
    refine r_iload_n (pc := 25) (i := 3) d_M_law_25 rfl rfl ?_
    refine r_aload_n (pc := 26) (i := 0) d_M_law_26 rfl rfl ?_
    refine r_getf (pc := 27) (ci := 12) (k := 43) (C := "CricketHayModel") (T := F_12) (N := 73) (v := .int (hI h 383 43)) (fun s => Std.k s (lc hn rfl) kq_383) rfl (Nat.le_of_ble_eq_true rfl) rfl w_1129 (fun _ => rfl) d_M_law_27 ?_
    refine r_icmp_ge (pc := 30) (tgt := 65) d_M_law_30 (by rfl) ?_ ?_
    · refine r_iload_n (pc := 65) (i := 2) d_M_law_65 rfl rfl ?_
      exact r_iret (pc := 66) rfl d_M_law_66
    · refine r_iconst (pc := 33) (v := 0) d_M_law_33 (by rfl) ?_
      refine r_istore (pc := 34) (lv1 := [some (.ref 383), some (.int a1), some (.int x2), some (.int x3), some (.int (0 : Int32))]) d_M_law_34 (Nat.le_of_ble_eq_true rfl) rfl ?_
      exact r_wk (o_M_law_l36 hn ih FU x2 x3 (0 : Int32) h) ⟨rfl, ⟨rfl, ⟨rfl, ⟨rfl, ⟨rfl, trivial⟩⟩⟩⟩⟩
def f_M_law  (a1 : Int32) (h : AH) : Option (Int32 × AH) :=
  bI (f_M_isIn a1 (1 : Int32) (3 : Int32) h) fun rq1 hq2 =>
  if ¬ rq1 = 0 then
    bV (f_M_load hq2) fun hq3 =>
    bI (f_M_allPrices hq3) fun rq4 hq5 =>
    lt (-rq4) fun xq6 =>
    f_M_law_l25 a1 FU xq6 (0 : Int32) hq5
  else
    some ((-1000000 : Int32), hq2)
set_option maxHeartbeats 2000000 in
theorem ok_M_law {G : AE} {n : Nat} (hn : NN ≤ n)  (a1 : Int32) (h : AH) : OK G n y_M_law (8) φI [.ref 383, .int a1] h (f_M_law a1 h) := by
  refine ok_of (y := y_M_law) (lv0 := [some (.ref 383), some (.int a1), none, none, none]) (by decide +kernel) (Nat.le_of_ble_eq_true rfl) ⟨rfl, ⟨rfl, trivial⟩⟩ ?_
  rw [f_M_law]
  refine r_iload_n (pc := 0) (i := 1) d_M_law_0 rfl rfl ?_
  refine r_iconst (pc := 1) (v := 1) d_M_law_1 (by rfl) ?_
  refine r_iconst (pc := 2) (v := 3) d_M_law_2 (by rfl) ?_
  refine r_cSi (pc := 3) (st := []) (ok_M_isIn hn a1 (1 : Int32) (3 : Int32) h) w_1479 w_13 w_1477 w_1478 hy_M_isIn ⟨Nat.le_of_ble_eq_true rfl, Nat.le_of_ble_eq_true rfl⟩ ⟨Nat.le_of_ble_eq_true rfl, Nat.le_of_ble_eq_true rfl⟩ rfl (Nat.le_of_ble_eq_true rfl) d_M_law_3 (fun rq1 hq2 => ?_)
  refine r_if_ne (pc := 6) (tgt := 13) d_M_law_6 (by rfl) ?_ ?_
  · refine r_aload_n (pc := 13) (i := 0) d_M_law_13 rfl rfl ?_
    refine r_cVv (pc := 14) (T := F_12) (N := 73) (st := []) (ok_M_load hn hq2) (fun s => Std.k s (lc hn rfl) kq_383) rfl w_1483 w_13 w_1480 w_1482 ws_76 hy_M_load ⟨Nat.le_of_ble_eq_true rfl, Nat.le_of_ble_eq_true rfl⟩ ⟨Nat.le_of_ble_eq_true rfl, Nat.le_of_ble_eq_true rfl⟩ rfl (Nat.le_of_ble_eq_true rfl) d_M_law_14 (fun hq3 => ?_)
    refine r_aload_n (pc := 17) (i := 0) d_M_law_17 rfl rfl ?_
    refine r_cVi (pc := 18) (T := F_12) (N := 73) (st := []) (ok_M_allPrices hn hq3) (fun s => Std.k s (lc hn rfl) kq_383) rfl w_1657 w_13 w_1654 w_1656 ws_99 hy_M_allPrices ⟨Nat.le_of_ble_eq_true rfl, Nat.le_of_ble_eq_true rfl⟩ ⟨Nat.le_of_ble_eq_true rfl, Nat.le_of_ble_eq_true rfl⟩ rfl (Nat.le_of_ble_eq_true rfl) d_M_law_18 (fun rq4 hq5 => ?_)
    refine r_ineg (pc := 21) d_M_law_21 ?_
    refine r_ltI (fun xq6 => ?_)
    refine r_istore_n (pc := 22) (i := 2) (lv1 := [some (.ref 383), some (.int a1), some (.int xq6), none, none]) d_M_law_22 rfl (Nat.le_of_ble_eq_true rfl) rfl ?_
    refine r_iconst (pc := 23) (v := 0) d_M_law_23 (by rfl) ?_
    refine r_istore_n (pc := 24) (i := 3) (lv1 := [some (.ref 383), some (.int a1), some (.int xq6), some (.int (0 : Int32)), none]) d_M_law_24 rfl (Nat.le_of_ble_eq_true rfl) rfl ?_
    exact r_wk (o_M_law_l25 hn FU xq6 (0 : Int32) hq5) ⟨rfl, ⟨rfl, ⟨rfl, ⟨rfl, trivial⟩⟩⟩⟩
  · refine r_ldcw (pc := 9) w_1653 d_M_law_9 ?_
    exact r_iret (pc := 12) rfl d_M_law_12

def f_M_songsThere_l4    : Nat → Int32 → Int32 → AH → Option (Int32 × AH)
  | 0, _, _, _ => none
  | n + 1, x1, x2, h =>
    if (hI h 383 43) ≤ x2 then
      some (x1, h)
    else
      if ¬ (((hI h 405 30) >>> (x2 &&& 31)) &&& (1 : Int32)) = 0 then
        lt (x2 + (1 : Int32)) fun xq1 =>
        f_M_songsThere_l4 n x1 xq1 h
      else
        gx x2 6 <|
        lt (x1 ||| ((1 : Int32) <<< ((hI h 403 (ix x2)) &&& 31))) fun xq3 =>
        lt (x2 + (1 : Int32)) fun xq4 =>
        f_M_songsThere_l4 n xq3 xq4 h
set_option maxHeartbeats 2000000 in
theorem o_M_songsThere_l4 {G : AE} {n : Nat} (hn : NN ≤ n)     : ∀ (n0 : Nat) (x1 : Int32) (x2 : Int32) (h : AH), AJ G n y_M_songsThere (1) φI 4 [some (.ref 383), some (.int x1), some (.int x2)] [] h (f_M_songsThere_l4 n0 x1 x2 h) := by
  intro n0
  induction n0 with
  | zero => intros; exact r_none
  | succ n0 ih =>
    intro x1 x2 h
    rw [f_M_songsThere_l4]
    refine r_iload_n (pc := 4) (i := 2) d_M_songsThere_4 rfl rfl ?_
    refine r_aload_n (pc := 5) (i := 0) d_M_songsThere_5 rfl rfl ?_
    refine r_getf (pc := 6) (ci := 12) (k := 43) (C := "CricketHayModel") (T := F_12) (N := 73) (v := .int (hI h 383 43)) (fun s => Std.k s (lc hn rfl) kq_383) rfl (Nat.le_of_ble_eq_true rfl) rfl w_1129 (fun _ => rfl) d_M_songsThere_6 ?_
    refine r_icmp_ge (pc := 9) (tgt := 43) d_M_songsThere_9 (by rfl) ?_ ?_
    · refine r_iload_n (pc := 43) (i := 1) d_M_songsThere_43 rfl rfl ?_
      exact r_iret (pc := 44) rfl d_M_songsThere_44
    · refine r_aload_n (pc := 12) (i := 0) d_M_songsThere_12 rfl rfl ?_
      refine r_getf (pc := 13) (ci := 12) (k := 50) (C := "CricketHayModel") (T := F_12) (N := 73) (v := .ref 405) (fun s => Std.k s (lc hn rfl) kq_383) rfl (Nat.le_of_ble_eq_true rfl) rfl w_1136 (fun s => vr rfl (Std.r s (lc hn rfl) rq_383_50)) d_M_songsThere_13 ?_
      refine r_bipush (pc := 16) (v := 30) d_M_songsThere_16 (by rfl) ?_
      refine r_iald (pc := 18) (n := 35) (i0 := 30) (fun s => Std.k s (lc hn rfl) kq_405) (vin (k := 30) rfl rfl) rfl d_M_songsThere_18 ?_
      refine r_iload_n (pc := 19) (i := 2) d_M_songsThere_19 rfl rfl ?_
      refine r_ishr (pc := 20) d_M_songsThere_20 ?_
      refine r_iconst (pc := 21) (v := 1) d_M_songsThere_21 (by rfl) ?_
      refine r_iand (pc := 22) d_M_songsThere_22 ?_
      refine r_if_ne (pc := 23) (tgt := 37) d_M_songsThere_23 (by rfl) ?_ ?_
      · refine r_ltE (fun xq1 exq1 => ?_)
        refine r_iinc (pc := 37) (v := xq1) (lv1 := [some (.ref 383), some (.int x1), some (.int xq1)]) d_M_songsThere_37 rfl exq1.symm (Nat.le_of_ble_eq_true rfl) rfl ?_
        refine r_goto (pc := 40) (tgt := 4) d_M_songsThere_40 (by rfl) ?_
        exact r_wk (ih x1 xq1 h) ⟨rfl, ⟨rfl, ⟨rfl, trivial⟩⟩⟩
      · refine r_iload_n (pc := 26) (i := 1) d_M_songsThere_26 rfl rfl ?_
        refine r_iconst (pc := 27) (v := 1) d_M_songsThere_27 (by rfl) ?_
        refine r_aload_n (pc := 28) (i := 0) d_M_songsThere_28 rfl rfl ?_
        refine r_getf (pc := 29) (ci := 12) (k := 34) (C := "CricketHayModel") (T := F_12) (N := 73) (v := .ref 403) (fun s => Std.k s (lc hn rfl) kq_383) rfl (Nat.le_of_ble_eq_true rfl) rfl w_1120 (fun s => vr rfl (Std.r s (lc hn rfl) rq_383_34)) d_M_songsThere_29 ?_
        refine r_iload_n (pc := 32) (i := 2) d_M_songsThere_32 rfl rfl ?_
        refine r_gx (fun zq2 => ?_)
        refine r_iald (pc := 33) (n := 6) (i0 := (ix x2)) (fun s => Std.k s (lc hn rfl) kq_403) zq2 rfl d_M_songsThere_33 ?_
        refine r_ishl (pc := 34) d_M_songsThere_34 ?_
        refine r_ior (pc := 35) d_M_songsThere_35 ?_
        refine r_ltI (fun xq3 => ?_)
        refine r_istore_n (pc := 36) (i := 1) (lv1 := [some (.ref 383), some (.int xq3), some (.int x2)]) d_M_songsThere_36 rfl (Nat.le_of_ble_eq_true rfl) rfl ?_
        refine r_ltE (fun xq4 exq4 => ?_)
        refine r_iinc (pc := 37) (v := xq4) (lv1 := [some (.ref 383), some (.int xq3), some (.int xq4)]) d_M_songsThere_37 rfl exq4.symm (Nat.le_of_ble_eq_true rfl) rfl ?_
        refine r_goto (pc := 40) (tgt := 4) d_M_songsThere_40 (by rfl) ?_
        exact r_wk (ih xq3 xq4 h) ⟨rfl, ⟨rfl, ⟨rfl, trivial⟩⟩⟩
def f_M_songsThere   (h : AH) : Option (Int32 × AH) :=
  f_M_songsThere_l4 FU (0 : Int32) (0 : Int32) h
set_option maxHeartbeats 2000000 in
theorem ok_M_songsThere {G : AE} {n : Nat} (hn : NN ≤ n)   (h : AH) : OK G n y_M_songsThere (1) φI [.ref 383] h (f_M_songsThere h) := by
  refine ok_of (y := y_M_songsThere) (lv0 := [some (.ref 383), none, none]) (by decide +kernel) (Nat.le_of_ble_eq_true rfl) ⟨rfl, trivial⟩ ?_
  rw [f_M_songsThere]
  refine r_iconst (pc := 0) (v := 0) d_M_songsThere_0 (by rfl) ?_
  refine r_istore_n (pc := 1) (i := 1) (lv1 := [some (.ref 383), some (.int (0 : Int32)), none]) d_M_songsThere_1 rfl (Nat.le_of_ble_eq_true rfl) rfl ?_
  refine r_iconst (pc := 2) (v := 0) d_M_songsThere_2 (by rfl) ?_
  refine r_istore_n (pc := 3) (i := 2) (lv1 := [some (.ref 383), some (.int (0 : Int32)), some (.int (0 : Int32))]) d_M_songsThere_3 rfl (Nat.le_of_ble_eq_true rfl) rfl ?_
  exact r_wk (o_M_songsThere_l4 hn FU (0 : Int32) (0 : Int32) h) ⟨rfl, ⟨rfl, ⟨rfl, trivial⟩⟩⟩

def f_M_isSongIn  (a0 : Int32) (a1 : Int32) (h : AH) : Option (Int32 × AH) :=
  if ¬ ((a0 >>> (a1 &&& 31)) &&& (1 : Int32)) = (1 : Int32) then
    some ((0 : Int32), h)
  else
    some ((1 : Int32), h)
set_option maxHeartbeats 2000000 in
theorem ok_M_isSongIn {G : AE} {n : Nat} (hn : NN ≤ n)  (a0 : Int32) (a1 : Int32) (h : AH) : OK G n y_M_isSongIn (1) φI [.int a0, .int a1] h (f_M_isSongIn a0 a1 h) := by
  refine ok_of (y := y_M_isSongIn) (lv0 := [some (.int a0), some (.int a1)]) (by decide +kernel) (Nat.le_of_ble_eq_true rfl) ⟨rfl, ⟨rfl, trivial⟩⟩ ?_
  rw [f_M_isSongIn]
  refine r_iload_n (pc := 0) (i := 0) d_M_isSongIn_0 rfl rfl ?_
  refine r_iload_n (pc := 1) (i := 1) d_M_isSongIn_1 rfl rfl ?_
  refine r_ishr (pc := 2) d_M_isSongIn_2 ?_
  refine r_iconst (pc := 3) (v := 1) d_M_isSongIn_3 (by rfl) ?_
  refine r_iand (pc := 4) d_M_isSongIn_4 ?_
  refine r_iconst (pc := 5) (v := 1) d_M_isSongIn_5 (by rfl) ?_
  refine r_icmp_ne (pc := 6) (tgt := 13) d_M_isSongIn_6 (by rfl) ?_ ?_
  · refine r_iconst (pc := 13) (v := 0) d_M_isSongIn_13 (by rfl) ?_
    exact r_zret (pc := 14) rfl rfl d_M_isSongIn_14
  · refine r_iconst (pc := 9) (v := 1) d_M_isSongIn_9 (by rfl) ?_
    refine r_goto (pc := 10) (tgt := 14) d_M_isSongIn_10 (by rfl) ?_
    exact r_zret (pc := 14) rfl rfl d_M_isSongIn_14

def f_M_goMatings_l33  (a1 : Int32) (k2 : Int32 → AH → Option AH) (k24 : Int32 → Int32 → AH → Option AH) : Nat → Int32 → Int32 → Int32 → AH → Option AH
  | 0, _, _, _, _ => none
  | n + 1, x2, x3, x4, h =>
    if x3 < x4 then
      lt (x3 + (1 : Int32)) fun xq1 =>
      k24 x2 xq1 h
    else
      bI (f_M_isSongIn x2 x3 h) fun rq2 hq3 =>
      if rq2 = 0 then
        lt (x4 + (1 : Int32)) fun xq4 =>
        f_M_goMatings_l33 a1 k2 k24 n x2 x3 xq4 hq3
      else
        bI (f_M_isSongIn x2 x4 hq3) fun rq5 hq6 =>
        if ¬ rq5 = 0 then
          lt (x2 ||| ((1 : Int32) <<< (((x3 + x4) - (x3 + x4) / (10 : Int32) * (10 : Int32)) &&& 31))) fun xq7 =>
          gx xq7 1024 <|
          if 0 ≤ (hI hq6 412 (ix xq7)) then
            lt (x4 + (1 : Int32)) fun xq9 =>
            f_M_goMatings_l33 a1 k2 k24 n x2 x3 xq9 hq6
          else
            gx xq7 1024 <|
            lt (sI hq6 412 (ix xq7) (a1 + (1 : Int32))) fun hq11 =>
            lt (x4 + (1 : Int32)) fun xq12 =>
            f_M_goMatings_l33 a1 k2 k24 n x2 x3 xq12 hq11
        else
          lt (x4 + (1 : Int32)) fun xq13 =>
          f_M_goMatings_l33 a1 k2 k24 n x2 x3 xq13 hq6
set_option maxHeartbeats 2000000 in
theorem o_M_goMatings_l33 {G : AE} {n : Nat} (hn : NN ≤ n)  {a1 : Int32}  {k2 : Int32 → AH → Option AH} (hk2 : ∀ (x2 : Int32) (h : AH), AJ G n y_M_goMatings (2) φV 2 [some (.ref 383), some (.int a1), some (.int x2), none, none, none] [] h (k2 x2 h)) {k24 : Int32 → Int32 → AH → Option AH} (hk24 : ∀ (x2 : Int32) (x3 : Int32) (h : AH), AJ G n y_M_goMatings (2) φV 24 [some (.ref 383), some (.int a1), some (.int x2), some (.int x3), none, none] [] h (k24 x2 x3 h)) : ∀ (n0 : Nat) (x2 : Int32) (x3 : Int32) (x4 : Int32) (h : AH), AJ G n y_M_goMatings (2) φV 33 [some (.ref 383), some (.int a1), some (.int x2), some (.int x3), some (.int x4), none] [] h (f_M_goMatings_l33 a1 k2 k24 n0 x2 x3 x4 h) := by
  intro n0
  induction n0 with
  | zero => intros; exact r_none
  | succ n0 ih =>
    intro x2 x3 x4 h
    rw [f_M_goMatings_l33]
    refine r_iload (pc := 33) d_M_goMatings_33 rfl ?_
    refine r_iload_n (pc := 35) (i := 3) d_M_goMatings_35 rfl rfl ?_
    refine r_icmp_gt (pc := 36) (tgt := 98) d_M_goMatings_36 (by rfl) ?_ ?_
    · refine r_ltE (fun xq1 exq1 => ?_)
      refine r_iinc (pc := 98) (v := xq1) (lv1 := [some (.ref 383), some (.int a1), some (.int x2), some (.int xq1), some (.int x4), none]) d_M_goMatings_98 rfl exq1.symm (Nat.le_of_ble_eq_true rfl) rfl ?_
      refine r_goto (pc := 101) (tgt := 24) d_M_goMatings_101 (by rfl) ?_
      exact r_wk (hk24 x2 xq1 h) ⟨rfl, ⟨rfl, ⟨rfl, ⟨rfl, trivial⟩⟩⟩⟩
    · refine r_iload_n (pc := 39) (i := 2) d_M_goMatings_39 rfl rfl ?_
      refine r_iload_n (pc := 40) (i := 3) d_M_goMatings_40 rfl rfl ?_
      refine r_cSi (pc := 41) (st := []) (ok_M_isSongIn hn x2 x3 h) w_1726 w_13 w_1724 w_1725 hy_M_isSongIn ⟨Nat.le_of_ble_eq_true rfl, Nat.le_of_ble_eq_true rfl⟩ ⟨Nat.le_of_ble_eq_true rfl, Nat.le_of_ble_eq_true rfl⟩ rfl (Nat.le_of_ble_eq_true rfl) d_M_goMatings_41 (fun rq2 hq3 => ?_)
      refine r_if_eq (pc := 44) (tgt := 92) d_M_goMatings_44 (by rfl) ?_ ?_
      · refine r_ltE (fun xq4 exq4 => ?_)
        refine r_iinc (pc := 92) (v := xq4) (lv1 := [some (.ref 383), some (.int a1), some (.int x2), some (.int x3), some (.int xq4), none]) d_M_goMatings_92 rfl exq4.symm (Nat.le_of_ble_eq_true rfl) rfl ?_
        refine r_goto (pc := 95) (tgt := 33) d_M_goMatings_95 (by rfl) ?_
        exact r_wk (ih x2 x3 xq4 hq3) ⟨rfl, ⟨rfl, ⟨rfl, ⟨rfl, ⟨rfl, trivial⟩⟩⟩⟩⟩
      · refine r_iload_n (pc := 47) (i := 2) d_M_goMatings_47 rfl rfl ?_
        refine r_iload (pc := 48) d_M_goMatings_48 rfl ?_
        refine r_cSi (pc := 50) (st := []) (ok_M_isSongIn hn x2 x4 hq3) w_1726 w_13 w_1724 w_1725 hy_M_isSongIn ⟨Nat.le_of_ble_eq_true rfl, Nat.le_of_ble_eq_true rfl⟩ ⟨Nat.le_of_ble_eq_true rfl, Nat.le_of_ble_eq_true rfl⟩ rfl (Nat.le_of_ble_eq_true rfl) d_M_goMatings_50 (fun rq5 hq6 => ?_)
        refine r_if_ne (pc := 53) (tgt := 59) d_M_goMatings_53 (by rfl) ?_ ?_
        · refine r_iload_n (pc := 59) (i := 2) d_M_goMatings_59 rfl rfl ?_
          refine r_iconst (pc := 60) (v := 1) d_M_goMatings_60 (by rfl) ?_
          refine r_iload_n (pc := 61) (i := 3) d_M_goMatings_61 rfl rfl ?_
          refine r_iload (pc := 62) d_M_goMatings_62 rfl ?_
          refine r_iadd (pc := 64) d_M_goMatings_64 ?_
          refine r_bipush (pc := 65) (v := 10) d_M_goMatings_65 (by rfl) ?_
          refine r_iremC (pc := 67) (by decide) d_M_goMatings_67 ?_
          refine r_ishl (pc := 68) d_M_goMatings_68 ?_
          refine r_ior (pc := 69) d_M_goMatings_69 ?_
          refine r_ltI (fun xq7 => ?_)
          refine r_istore (pc := 70) (lv1 := [some (.ref 383), some (.int a1), some (.int x2), some (.int x3), some (.int x4), some (.int xq7)]) d_M_goMatings_70 (Nat.le_of_ble_eq_true rfl) rfl ?_
          refine r_aload_n (pc := 72) (i := 0) d_M_goMatings_72 rfl rfl ?_
          refine r_getf (pc := 73) (ci := 12) (k := 62) (C := "CricketHayModel") (T := F_12) (N := 73) (v := .ref 412) (fun s => Std.k s (lc hn rfl) kq_383) rfl (Nat.le_of_ble_eq_true rfl) rfl w_1148 (fun s => vr rfl (Std.r s (lc hn rfl) rq_383_62)) d_M_goMatings_73 ?_
          refine r_iload (pc := 76) d_M_goMatings_76 rfl ?_
          refine r_gx (fun zq8 => ?_)
          refine r_iald (pc := 78) (n := 1024) (i0 := (ix xq7)) (fun s => Std.k s (lc hn rfl) kq_412) zq8 rfl d_M_goMatings_78 ?_
          refine r_if_ge (pc := 79) (tgt := 92) d_M_goMatings_79 (by rfl) ?_ ?_
          · refine r_ltE (fun xq9 exq9 => ?_)
            refine r_iinc (pc := 92) (v := xq9) (lv1 := [some (.ref 383), some (.int a1), some (.int x2), some (.int x3), some (.int xq9), some (.int xq7)]) d_M_goMatings_92 rfl exq9.symm (Nat.le_of_ble_eq_true rfl) rfl ?_
            refine r_goto (pc := 95) (tgt := 33) d_M_goMatings_95 (by rfl) ?_
            exact r_wk (ih x2 x3 xq9 hq6) ⟨rfl, ⟨rfl, ⟨rfl, ⟨rfl, ⟨rfl, trivial⟩⟩⟩⟩⟩
          · refine r_aload_n (pc := 82) (i := 0) d_M_goMatings_82 rfl rfl ?_
            refine r_getf (pc := 83) (ci := 12) (k := 62) (C := "CricketHayModel") (T := F_12) (N := 73) (v := .ref 412) (fun s => Std.k s (lc hn rfl) kq_383) rfl (Nat.le_of_ble_eq_true rfl) rfl w_1148 (fun s => vr rfl (Std.r s (lc hn rfl) rq_383_62)) d_M_goMatings_83 ?_
            refine r_iload (pc := 86) d_M_goMatings_86 rfl ?_
            refine r_iload_n (pc := 88) (i := 1) d_M_goMatings_88 rfl rfl ?_
            refine r_iconst (pc := 89) (v := 1) d_M_goMatings_89 (by rfl) ?_
            refine r_iadd (pc := 90) d_M_goMatings_90 ?_
            refine r_gx (fun zq10 => ?_)
            refine r_iast (pc := 91) (n := 1024) (i0 := (ix xq7)) (fun s => Std.k s (lc hn rfl) kq_412) zq10 rfl (fun s => Std.sI s _ _ _) d_M_goMatings_91 ?_
            refine r_ltH (fun hq11 => ?_)
            refine r_ltE (fun xq12 exq12 => ?_)
            refine r_iinc (pc := 92) (v := xq12) (lv1 := [some (.ref 383), some (.int a1), some (.int x2), some (.int x3), some (.int xq12), some (.int xq7)]) d_M_goMatings_92 rfl exq12.symm (Nat.le_of_ble_eq_true rfl) rfl ?_
            refine r_goto (pc := 95) (tgt := 33) d_M_goMatings_95 (by rfl) ?_
            exact r_wk (ih x2 x3 xq12 hq11) ⟨rfl, ⟨rfl, ⟨rfl, ⟨rfl, ⟨rfl, trivial⟩⟩⟩⟩⟩
        · refine r_goto (pc := 56) (tgt := 92) d_M_goMatings_56 (by rfl) ?_
          refine r_ltE (fun xq13 exq13 => ?_)
          refine r_iinc (pc := 92) (v := xq13) (lv1 := [some (.ref 383), some (.int a1), some (.int x2), some (.int x3), some (.int xq13), none]) d_M_goMatings_92 rfl exq13.symm (Nat.le_of_ble_eq_true rfl) rfl ?_
          refine r_goto (pc := 95) (tgt := 33) d_M_goMatings_95 (by rfl) ?_
          exact r_wk (ih x2 x3 xq13 hq6) ⟨rfl, ⟨rfl, ⟨rfl, ⟨rfl, ⟨rfl, trivial⟩⟩⟩⟩⟩
def f_M_goMatings_l24  (a1 : Int32) (k2 : Int32 → AH → Option AH) : Nat → Int32 → Int32 → AH → Option AH
  | 0, _, _, _ => none
  | n + 1, x2, x3, h =>
    if (10 : Int32) ≤ x3 then
      lt (x2 + (1 : Int32)) fun xq1 =>
      k2 xq1 h
    else
      f_M_goMatings_l33 a1 k2 (f_M_goMatings_l24 a1 k2 n) FU x2 x3 (0 : Int32) h
set_option maxHeartbeats 2000000 in
theorem o_M_goMatings_l24 {G : AE} {n : Nat} (hn : NN ≤ n)  {a1 : Int32}  {k2 : Int32 → AH → Option AH} (hk2 : ∀ (x2 : Int32) (h : AH), AJ G n y_M_goMatings (2) φV 2 [some (.ref 383), some (.int a1), some (.int x2), none, none, none] [] h (k2 x2 h)) : ∀ (n0 : Nat) (x2 : Int32) (x3 : Int32) (h : AH), AJ G n y_M_goMatings (2) φV 24 [some (.ref 383), some (.int a1), some (.int x2), some (.int x3), none, none] [] h (f_M_goMatings_l24 a1 k2 n0 x2 x3 h) := by
  intro n0
  induction n0 with
  | zero => intros; exact r_none
  | succ n0 ih =>
    intro x2 x3 h
    rw [f_M_goMatings_l24]
    refine r_iload_n (pc := 24) (i := 3) d_M_goMatings_24 rfl rfl ?_
    refine r_bipush (pc := 25) (v := 10) d_M_goMatings_25 (by rfl) ?_
    refine r_icmp_ge (pc := 27) (tgt := 104) d_M_goMatings_27 (by rfl) ?_ ?_
    · refine r_ltE (fun xq1 exq1 => ?_)
      refine r_iinc (pc := 104) (v := xq1) (lv1 := [some (.ref 383), some (.int a1), some (.int xq1), some (.int x3), none, none]) d_M_goMatings_104 rfl exq1.symm (Nat.le_of_ble_eq_true rfl) rfl ?_
      refine r_goto (pc := 107) (tgt := 2) d_M_goMatings_107 (by rfl) ?_
      exact r_wk (hk2 xq1 h) ⟨rfl, ⟨rfl, ⟨rfl, trivial⟩⟩⟩
    · refine r_iconst (pc := 30) (v := 0) d_M_goMatings_30 (by rfl) ?_
      refine r_istore (pc := 31) (lv1 := [some (.ref 383), some (.int a1), some (.int x2), some (.int x3), some (.int (0 : Int32)), none]) d_M_goMatings_31 (Nat.le_of_ble_eq_true rfl) rfl ?_
      exact r_wk (o_M_goMatings_l33 hn hk2 ih FU x2 x3 (0 : Int32) h) ⟨rfl, ⟨rfl, ⟨rfl, ⟨rfl, ⟨rfl, trivial⟩⟩⟩⟩⟩
def f_M_goMatings_l2  (a1 : Int32)  : Nat → Int32 → AH → Option AH
  | 0, _, _ => none
  | n + 1, x2, h =>
    if (1024 : Int32) ≤ x2 then
      some h
    else
      gx x2 1024 <|
      if (hI h 412 (ix x2)) = a1 then
        f_M_goMatings_l24 a1 (f_M_goMatings_l2 a1 n) FU x2 (0 : Int32) h
      else
        lt (x2 + (1 : Int32)) fun xq2 =>
        f_M_goMatings_l2 a1 n xq2 h
set_option maxHeartbeats 2000000 in
theorem o_M_goMatings_l2 {G : AE} {n : Nat} (hn : NN ≤ n)  {a1 : Int32}   : ∀ (n0 : Nat) (x2 : Int32) (h : AH), AJ G n y_M_goMatings (2) φV 2 [some (.ref 383), some (.int a1), some (.int x2), none, none, none] [] h (f_M_goMatings_l2 a1 n0 x2 h) := by
  intro n0
  induction n0 with
  | zero => intros; exact r_none
  | succ n0 ih =>
    intro x2 h
    rw [f_M_goMatings_l2]
    refine r_iload_n (pc := 2) (i := 2) d_M_goMatings_2 rfl rfl ?_
    refine r_sipush (pc := 3) (v := 1024) d_M_goMatings_3 (by rfl) ?_
    refine r_icmp_ge (pc := 6) (tgt := 110) d_M_goMatings_6 (by rfl) ?_ ?_
    · exact r_vret (pc := 110) rfl d_M_goMatings_110
    · refine r_aload_n (pc := 9) (i := 0) d_M_goMatings_9 rfl rfl ?_
      refine r_getf (pc := 10) (ci := 12) (k := 62) (C := "CricketHayModel") (T := F_12) (N := 73) (v := .ref 412) (fun s => Std.k s (lc hn rfl) kq_383) rfl (Nat.le_of_ble_eq_true rfl) rfl w_1148 (fun s => vr rfl (Std.r s (lc hn rfl) rq_383_62)) d_M_goMatings_10 ?_
      refine r_iload_n (pc := 13) (i := 2) d_M_goMatings_13 rfl rfl ?_
      refine r_gx (fun zq1 => ?_)
      refine r_iald (pc := 14) (n := 1024) (i0 := (ix x2)) (fun s => Std.k s (lc hn rfl) kq_412) zq1 rfl d_M_goMatings_14 ?_
      refine r_iload_n (pc := 15) (i := 1) d_M_goMatings_15 rfl rfl ?_
      refine r_icmp_eq (pc := 16) (tgt := 22) d_M_goMatings_16 (by rfl) ?_ ?_
      · refine r_iconst (pc := 22) (v := 0) d_M_goMatings_22 (by rfl) ?_
        refine r_istore_n (pc := 23) (i := 3) (lv1 := [some (.ref 383), some (.int a1), some (.int x2), some (.int (0 : Int32)), none, none]) d_M_goMatings_23 rfl (Nat.le_of_ble_eq_true rfl) rfl ?_
        exact r_wk (o_M_goMatings_l24 hn ih FU x2 (0 : Int32) h) ⟨rfl, ⟨rfl, ⟨rfl, ⟨rfl, trivial⟩⟩⟩⟩
      · refine r_goto (pc := 19) (tgt := 104) d_M_goMatings_19 (by rfl) ?_
        refine r_ltE (fun xq2 exq2 => ?_)
        refine r_iinc (pc := 104) (v := xq2) (lv1 := [some (.ref 383), some (.int a1), some (.int xq2), none, none, none]) d_M_goMatings_104 rfl exq2.symm (Nat.le_of_ble_eq_true rfl) rfl ?_
        refine r_goto (pc := 107) (tgt := 2) d_M_goMatings_107 (by rfl) ?_
        exact r_wk (ih xq2 h) ⟨rfl, ⟨rfl, ⟨rfl, trivial⟩⟩⟩
def f_M_goMatings  (a1 : Int32) (h : AH) : Option AH :=
  f_M_goMatings_l2 a1 FU (0 : Int32) h
set_option maxHeartbeats 2000000 in
theorem ok_M_goMatings {G : AE} {n : Nat} (hn : NN ≤ n)  (a1 : Int32) (h : AH) : OK G n y_M_goMatings (2) φV [.ref 383, .int a1] h (f_M_goMatings a1 h) := by
  refine ok_of (y := y_M_goMatings) (lv0 := [some (.ref 383), some (.int a1), none, none, none, none]) (by decide +kernel) (Nat.le_of_ble_eq_true rfl) ⟨rfl, ⟨rfl, trivial⟩⟩ ?_
  rw [f_M_goMatings]
  refine r_iconst (pc := 0) (v := 0) d_M_goMatings_0 (by rfl) ?_
  refine r_istore_n (pc := 1) (i := 2) (lv1 := [some (.ref 383), some (.int a1), some (.int (0 : Int32)), none, none, none]) d_M_goMatings_1 rfl (Nat.le_of_ble_eq_true rfl) rfl ?_
  exact r_wk (o_M_goMatings_l2 hn FU (0 : Int32) h) ⟨rfl, ⟨rfl, ⟨rfl, trivial⟩⟩⟩

def f_M_layMatings_l34    : Nat → Int32 → AH → Option AH
  | 0, _, _ => none
  | n + 1, x1, h =>
    if (10 : Int32) ≤ x1 then
      some h
    else
      bV (f_M_goMatings x1 h) fun hq1 =>
      lt (x1 + (1 : Int32)) fun xq2 =>
      f_M_layMatings_l34 n xq2 hq1
set_option maxHeartbeats 2000000 in
theorem o_M_layMatings_l34 {G : AE} {n : Nat} (hn : NN ≤ n)     : ∀ (n0 : Nat) (x1 : Int32) (h : AH), AJ G n y_M_layMatings (3) φV 34 [some (.ref 383), some (.int x1)] [] h (f_M_layMatings_l34 n0 x1 h) := by
  intro n0
  induction n0 with
  | zero => intros; exact r_none
  | succ n0 ih =>
    intro x1 h
    rw [f_M_layMatings_l34]
    refine r_iload_n (pc := 34) (i := 1) d_M_layMatings_34 rfl rfl ?_
    refine r_bipush (pc := 35) (v := 10) d_M_layMatings_35 (by rfl) ?_
    refine r_icmp_ge (pc := 37) (tgt := 51) d_M_layMatings_37 (by rfl) ?_ ?_
    · exact r_vret (pc := 51) rfl d_M_layMatings_51
    · refine r_aload_n (pc := 40) (i := 0) d_M_layMatings_40 rfl rfl ?_
      refine r_iload_n (pc := 41) (i := 1) d_M_layMatings_41 rfl rfl ?_
      refine r_cVv (pc := 42) (T := F_12) (N := 73) (st := []) (ok_M_goMatings hn x1 h) (fun s => Std.k s (lc hn rfl) kq_383) rfl w_1723 w_13 w_1720 w_1722 ws_107 hy_M_goMatings ⟨Nat.le_of_ble_eq_true rfl, Nat.le_of_ble_eq_true rfl⟩ ⟨Nat.le_of_ble_eq_true rfl, Nat.le_of_ble_eq_true rfl⟩ rfl (Nat.le_of_ble_eq_true rfl) d_M_layMatings_42 (fun hq1 => ?_)
      refine r_ltE (fun xq2 exq2 => ?_)
      refine r_iinc (pc := 45) (v := xq2) (lv1 := [some (.ref 383), some (.int xq2)]) d_M_layMatings_45 rfl exq2.symm (Nat.le_of_ble_eq_true rfl) rfl ?_
      refine r_goto (pc := 48) (tgt := 34) d_M_layMatings_48 (by rfl) ?_
      exact r_wk (ih xq2 hq1) ⟨rfl, ⟨rfl, trivial⟩⟩
def f_M_layMatings_l2    : Nat → Int32 → AH → Option AH
  | 0, _, _ => none
  | n + 1, x1, h =>
    if (1024 : Int32) ≤ x1 then
      bI (f_M_songsThere h) fun rq1 hq2 =>
      gx rq1 1024 <|
      lt (sI hq2 412 (ix rq1) (0 : Int32)) fun hq4 =>
      f_M_layMatings_l34 FU (0 : Int32) hq4
    else
      gx x1 1024 <|
      lt (sI h 412 (ix x1) (-1 : Int32)) fun hq6 =>
      lt (x1 + (1 : Int32)) fun xq7 =>
      f_M_layMatings_l2 n xq7 hq6
set_option maxHeartbeats 2000000 in
theorem o_M_layMatings_l2 {G : AE} {n : Nat} (hn : NN ≤ n)     : ∀ (n0 : Nat) (x1 : Int32) (h : AH), AJ G n y_M_layMatings (3) φV 2 [some (.ref 383), some (.int x1)] [] h (f_M_layMatings_l2 n0 x1 h) := by
  intro n0
  induction n0 with
  | zero => intros; exact r_none
  | succ n0 ih =>
    intro x1 h
    rw [f_M_layMatings_l2]
    refine r_iload_n (pc := 2) (i := 1) d_M_layMatings_2 rfl rfl ?_
    refine r_sipush (pc := 3) (v := 1024) d_M_layMatings_3 (by rfl) ?_
    refine r_icmp_ge (pc := 6) (tgt := 22) d_M_layMatings_6 (by rfl) ?_ ?_
    · refine r_aload_n (pc := 22) (i := 0) d_M_layMatings_22 rfl rfl ?_
      refine r_getf (pc := 23) (ci := 12) (k := 62) (C := "CricketHayModel") (T := F_12) (N := 73) (v := .ref 412) (fun s => Std.k s (lc hn rfl) kq_383) rfl (Nat.le_of_ble_eq_true rfl) rfl w_1148 (fun s => vr rfl (Std.r s (lc hn rfl) rq_383_62)) d_M_layMatings_23 ?_
      refine r_aload_n (pc := 26) (i := 0) d_M_layMatings_26 rfl rfl ?_
      refine r_cVi (pc := 27) (T := F_12) (N := 73) (st := [.ref 412]) (ok_M_songsThere hn h) (fun s => Std.k s (lc hn rfl) kq_383) rfl w_1719 w_13 w_1716 w_1718 ws_106 hy_M_songsThere ⟨Nat.le_of_ble_eq_true rfl, Nat.le_of_ble_eq_true rfl⟩ ⟨Nat.le_of_ble_eq_true rfl, Nat.le_of_ble_eq_true rfl⟩ rfl (Nat.le_of_ble_eq_true rfl) d_M_layMatings_27 (fun rq1 hq2 => ?_)
      refine r_iconst (pc := 30) (v := 0) d_M_layMatings_30 (by rfl) ?_
      refine r_gx (fun zq3 => ?_)
      refine r_iast (pc := 31) (n := 1024) (i0 := (ix rq1)) (fun s => Std.k s (lc hn rfl) kq_412) zq3 rfl (fun s => Std.sI s _ _ _) d_M_layMatings_31 ?_
      refine r_ltH (fun hq4 => ?_)
      refine r_iconst (pc := 32) (v := 0) d_M_layMatings_32 (by rfl) ?_
      refine r_istore_n (pc := 33) (i := 1) (lv1 := [some (.ref 383), some (.int (0 : Int32))]) d_M_layMatings_33 rfl (Nat.le_of_ble_eq_true rfl) rfl ?_
      exact r_wk (o_M_layMatings_l34 hn FU (0 : Int32) hq4) ⟨rfl, ⟨rfl, trivial⟩⟩
    · refine r_aload_n (pc := 9) (i := 0) d_M_layMatings_9 rfl rfl ?_
      refine r_getf (pc := 10) (ci := 12) (k := 62) (C := "CricketHayModel") (T := F_12) (N := 73) (v := .ref 412) (fun s => Std.k s (lc hn rfl) kq_383) rfl (Nat.le_of_ble_eq_true rfl) rfl w_1148 (fun s => vr rfl (Std.r s (lc hn rfl) rq_383_62)) d_M_layMatings_10 ?_
      refine r_iload_n (pc := 13) (i := 1) d_M_layMatings_13 rfl rfl ?_
      refine r_iconst (pc := 14) (v := -1) d_M_layMatings_14 (by rfl) ?_
      refine r_gx (fun zq5 => ?_)
      refine r_iast (pc := 15) (n := 1024) (i0 := (ix x1)) (fun s => Std.k s (lc hn rfl) kq_412) zq5 rfl (fun s => Std.sI s _ _ _) d_M_layMatings_15 ?_
      refine r_ltH (fun hq6 => ?_)
      refine r_ltE (fun xq7 exq7 => ?_)
      refine r_iinc (pc := 16) (v := xq7) (lv1 := [some (.ref 383), some (.int xq7)]) d_M_layMatings_16 rfl exq7.symm (Nat.le_of_ble_eq_true rfl) rfl ?_
      refine r_goto (pc := 19) (tgt := 2) d_M_layMatings_19 (by rfl) ?_
      exact r_wk (ih xq7 hq6) ⟨rfl, ⟨rfl, trivial⟩⟩
def f_M_layMatings   (h : AH) : Option AH :=
  f_M_layMatings_l2 FU (0 : Int32) h
set_option maxHeartbeats 2000000 in
theorem ok_M_layMatings {G : AE} {n : Nat} (hn : NN ≤ n)   (h : AH) : OK G n y_M_layMatings (3) φV [.ref 383] h (f_M_layMatings h) := by
  refine ok_of (y := y_M_layMatings) (lv0 := [some (.ref 383), none]) (by decide +kernel) (Nat.le_of_ble_eq_true rfl) ⟨rfl, trivial⟩ ?_
  rw [f_M_layMatings]
  refine r_iconst (pc := 0) (v := 0) d_M_layMatings_0 (by rfl) ?_
  refine r_istore_n (pc := 1) (i := 1) (lv1 := [some (.ref 383), some (.int (0 : Int32))]) d_M_layMatings_1 rfl (Nat.le_of_ble_eq_true rfl) rfl ?_
  exact r_wk (o_M_layMatings_l2 hn FU (0 : Int32) h) ⟨rfl, ⟨rfl, trivial⟩⟩

def f_M_song_b58  (a1 : Int32) (k20 : Int32 → Int32 → AH → Option (Int32 × AH)) (x3 : Int32) (h : AH) : Option (Int32 × AH) :=
  gx x3 1024 <|
  lt (hI h 412 (ix x3)) fun xq2 =>
  lt (x3 + (1 : Int32)) fun xq3 =>
  k20 xq2 xq3 h
set_option maxHeartbeats 2000000 in
theorem o_M_song_b58 {G : AE} {n : Nat} (hn : NN ≤ n)  {a1 : Int32}  {k20 : Int32 → Int32 → AH → Option (Int32 × AH)} (hk20 : ∀ (x2 : Int32) (x3 : Int32) (h : AH), AJ G n y_M_song (4) φI 20 [some (.ref 383), some (.int a1), some (.int x2), some (.int x3)] [] h (k20 x2 x3 h)) : ∀ (x3 : Int32) (h : AH), AJ G n y_M_song (4) φI 58 [some (.ref 383), some (.int a1), none, some (.int x3)] [] h (f_M_song_b58 a1 k20 x3 h) := by
  intro x3 h
  rw [f_M_song_b58]
  refine r_aload_n (pc := 58) (i := 0) d_M_song_58 rfl rfl ?_
  refine r_getf (pc := 59) (ci := 12) (k := 62) (C := "CricketHayModel") (T := F_12) (N := 73) (v := .ref 412) (fun s => Std.k s (lc hn rfl) kq_383) rfl (Nat.le_of_ble_eq_true rfl) rfl w_1148 (fun s => vr rfl (Std.r s (lc hn rfl) rq_383_62)) d_M_song_59 ?_
  refine r_iload_n (pc := 62) (i := 3) d_M_song_62 rfl rfl ?_
  refine r_gx (fun zq1 => ?_)
  refine r_iald (pc := 63) (n := 1024) (i0 := (ix x3)) (fun s => Std.k s (lc hn rfl) kq_412) zq1 rfl d_M_song_63 ?_
  refine r_ltI (fun xq2 => ?_)
  refine r_istore_n (pc := 64) (i := 2) (lv1 := [some (.ref 383), some (.int a1), some (.int xq2), some (.int x3)]) d_M_song_64 rfl (Nat.le_of_ble_eq_true rfl) rfl ?_
  refine r_ltE (fun xq3 exq3 => ?_)
  refine r_iinc (pc := 65) (v := xq3) (lv1 := [some (.ref 383), some (.int a1), some (.int xq2), some (.int xq3)]) d_M_song_65 rfl exq3.symm (Nat.le_of_ble_eq_true rfl) rfl ?_
  refine r_goto (pc := 68) (tgt := 20) d_M_song_68 (by rfl) ?_
  exact r_wk (hk20 xq2 xq3 h) ⟨rfl, ⟨rfl, ⟨rfl, ⟨rfl, trivial⟩⟩⟩⟩
def f_M_song_l20  (a1 : Int32)  : Nat → Int32 → Int32 → AH → Option (Int32 × AH)
  | 0, _, _, _ => none
  | n + 1, x2, x3, h =>
    if (1024 : Int32) ≤ x3 then
      some (x2, h)
    else
      bI (f_M_isSongIn x3 a1 h) fun rq1 hq2 =>
      if rq1 = 0 then
        lt (x3 + (1 : Int32)) fun xq3 =>
        f_M_song_l20 a1 n x2 xq3 hq2
      else
        gx x3 1024 <|
        if (hI hq2 412 (ix x3)) < 0 then
          lt (x3 + (1 : Int32)) fun xq5 =>
          f_M_song_l20 a1 n x2 xq5 hq2
        else
          if x2 < 0 then
            f_M_song_b58 a1 (f_M_song_l20 a1 n) x3 hq2
          else
            gx x3 1024 <|
            if x2 ≤ (hI hq2 412 (ix x3)) then
              lt (x3 + (1 : Int32)) fun xq7 =>
              f_M_song_l20 a1 n x2 xq7 hq2
            else
              f_M_song_b58 a1 (f_M_song_l20 a1 n) x3 hq2
set_option maxHeartbeats 2000000 in
theorem o_M_song_l20 {G : AE} {n : Nat} (hn : NN ≤ n)  {a1 : Int32}   : ∀ (n0 : Nat) (x2 : Int32) (x3 : Int32) (h : AH), AJ G n y_M_song (4) φI 20 [some (.ref 383), some (.int a1), some (.int x2), some (.int x3)] [] h (f_M_song_l20 a1 n0 x2 x3 h) := by
  intro n0
  induction n0 with
  | zero => intros; exact r_none
  | succ n0 ih =>
    intro x2 x3 h
    rw [f_M_song_l20]
    refine r_iload_n (pc := 20) (i := 3) d_M_song_20 rfl rfl ?_
    refine r_sipush (pc := 21) (v := 1024) d_M_song_21 (by rfl) ?_
    refine r_icmp_ge (pc := 24) (tgt := 71) d_M_song_24 (by rfl) ?_ ?_
    · refine r_iload_n (pc := 71) (i := 2) d_M_song_71 rfl rfl ?_
      exact r_iret (pc := 72) rfl d_M_song_72
    · refine r_iload_n (pc := 27) (i := 3) d_M_song_27 rfl rfl ?_
      refine r_iload_n (pc := 28) (i := 1) d_M_song_28 rfl rfl ?_
      refine r_cSi (pc := 29) (st := []) (ok_M_isSongIn hn x3 a1 h) w_1726 w_13 w_1724 w_1725 hy_M_isSongIn ⟨Nat.le_of_ble_eq_true rfl, Nat.le_of_ble_eq_true rfl⟩ ⟨Nat.le_of_ble_eq_true rfl, Nat.le_of_ble_eq_true rfl⟩ rfl (Nat.le_of_ble_eq_true rfl) d_M_song_29 (fun rq1 hq2 => ?_)
      refine r_if_eq (pc := 32) (tgt := 65) d_M_song_32 (by rfl) ?_ ?_
      · refine r_ltE (fun xq3 exq3 => ?_)
        refine r_iinc (pc := 65) (v := xq3) (lv1 := [some (.ref 383), some (.int a1), some (.int x2), some (.int xq3)]) d_M_song_65 rfl exq3.symm (Nat.le_of_ble_eq_true rfl) rfl ?_
        refine r_goto (pc := 68) (tgt := 20) d_M_song_68 (by rfl) ?_
        exact r_wk (ih x2 xq3 hq2) ⟨rfl, ⟨rfl, ⟨rfl, ⟨rfl, trivial⟩⟩⟩⟩
      · refine r_aload_n (pc := 35) (i := 0) d_M_song_35 rfl rfl ?_
        refine r_getf (pc := 36) (ci := 12) (k := 62) (C := "CricketHayModel") (T := F_12) (N := 73) (v := .ref 412) (fun s => Std.k s (lc hn rfl) kq_383) rfl (Nat.le_of_ble_eq_true rfl) rfl w_1148 (fun s => vr rfl (Std.r s (lc hn rfl) rq_383_62)) d_M_song_36 ?_
        refine r_iload_n (pc := 39) (i := 3) d_M_song_39 rfl rfl ?_
        refine r_gx (fun zq4 => ?_)
        refine r_iald (pc := 40) (n := 1024) (i0 := (ix x3)) (fun s => Std.k s (lc hn rfl) kq_412) zq4 rfl d_M_song_40 ?_
        refine r_if_lt (pc := 41) (tgt := 65) d_M_song_41 (by rfl) ?_ ?_
        · refine r_ltE (fun xq5 exq5 => ?_)
          refine r_iinc (pc := 65) (v := xq5) (lv1 := [some (.ref 383), some (.int a1), some (.int x2), some (.int xq5)]) d_M_song_65 rfl exq5.symm (Nat.le_of_ble_eq_true rfl) rfl ?_
          refine r_goto (pc := 68) (tgt := 20) d_M_song_68 (by rfl) ?_
          exact r_wk (ih x2 xq5 hq2) ⟨rfl, ⟨rfl, ⟨rfl, ⟨rfl, trivial⟩⟩⟩⟩
        · refine r_iload_n (pc := 44) (i := 2) d_M_song_44 rfl rfl ?_
          refine r_if_lt (pc := 45) (tgt := 58) d_M_song_45 (by rfl) ?_ ?_
          · exact r_wk (o_M_song_b58 hn ih x3 hq2) ⟨rfl, ⟨rfl, ⟨rfl, trivial⟩⟩⟩
          · refine r_aload_n (pc := 48) (i := 0) d_M_song_48 rfl rfl ?_
            refine r_getf (pc := 49) (ci := 12) (k := 62) (C := "CricketHayModel") (T := F_12) (N := 73) (v := .ref 412) (fun s => Std.k s (lc hn rfl) kq_383) rfl (Nat.le_of_ble_eq_true rfl) rfl w_1148 (fun s => vr rfl (Std.r s (lc hn rfl) rq_383_62)) d_M_song_49 ?_
            refine r_iload_n (pc := 52) (i := 3) d_M_song_52 rfl rfl ?_
            refine r_gx (fun zq6 => ?_)
            refine r_iald (pc := 53) (n := 1024) (i0 := (ix x3)) (fun s => Std.k s (lc hn rfl) kq_412) zq6 rfl d_M_song_53 ?_
            refine r_iload_n (pc := 54) (i := 2) d_M_song_54 rfl rfl ?_
            refine r_icmp_ge (pc := 55) (tgt := 65) d_M_song_55 (by rfl) ?_ ?_
            · refine r_ltE (fun xq7 exq7 => ?_)
              refine r_iinc (pc := 65) (v := xq7) (lv1 := [some (.ref 383), some (.int a1), some (.int x2), some (.int xq7)]) d_M_song_65 rfl exq7.symm (Nat.le_of_ble_eq_true rfl) rfl ?_
              refine r_goto (pc := 68) (tgt := 20) d_M_song_68 (by rfl) ?_
              exact r_wk (ih x2 xq7 hq2) ⟨rfl, ⟨rfl, ⟨rfl, ⟨rfl, trivial⟩⟩⟩⟩
            · exact r_wk (o_M_song_b58 hn ih x3 hq2) ⟨rfl, ⟨rfl, ⟨rfl, trivial⟩⟩⟩
def f_M_song  (a1 : Int32) (h : AH) : Option (Int32 × AH) :=
  bI (f_M_isIn a1 (0 : Int32) (9 : Int32) h) fun rq1 hq2 =>
  if ¬ rq1 = 0 then
    bV (f_M_layMatings hq2) fun hq3 =>
    f_M_song_l20 a1 FU (-1 : Int32) (0 : Int32) hq3
  else
    some ((-1 : Int32), hq2)
set_option maxHeartbeats 2000000 in
theorem ok_M_song {G : AE} {n : Nat} (hn : NN ≤ n)  (a1 : Int32) (h : AH) : OK G n y_M_song (4) φI [.ref 383, .int a1] h (f_M_song a1 h) := by
  refine ok_of (y := y_M_song) (lv0 := [some (.ref 383), some (.int a1), none, none]) (by decide +kernel) (Nat.le_of_ble_eq_true rfl) ⟨rfl, ⟨rfl, trivial⟩⟩ ?_
  rw [f_M_song]
  refine r_iload_n (pc := 0) (i := 1) d_M_song_0 rfl rfl ?_
  refine r_iconst (pc := 1) (v := 0) d_M_song_1 (by rfl) ?_
  refine r_bipush (pc := 2) (v := 9) d_M_song_2 (by rfl) ?_
  refine r_cSi (pc := 4) (st := []) (ok_M_isIn hn a1 (0 : Int32) (9 : Int32) h) w_1479 w_13 w_1477 w_1478 hy_M_isIn ⟨Nat.le_of_ble_eq_true rfl, Nat.le_of_ble_eq_true rfl⟩ ⟨Nat.le_of_ble_eq_true rfl, Nat.le_of_ble_eq_true rfl⟩ rfl (Nat.le_of_ble_eq_true rfl) d_M_song_4 (fun rq1 hq2 => ?_)
  refine r_if_ne (pc := 7) (tgt := 12) d_M_song_7 (by rfl) ?_ ?_
  · refine r_aload_n (pc := 12) (i := 0) d_M_song_12 rfl rfl ?_
    refine r_cVv (pc := 13) (T := F_12) (N := 73) (st := []) (ok_M_layMatings hn hq2) (fun s => Std.k s (lc hn rfl) kq_383) rfl w_1715 w_13 w_1712 w_1714 ws_105 hy_M_layMatings ⟨Nat.le_of_ble_eq_true rfl, Nat.le_of_ble_eq_true rfl⟩ ⟨Nat.le_of_ble_eq_true rfl, Nat.le_of_ble_eq_true rfl⟩ rfl (Nat.le_of_ble_eq_true rfl) d_M_song_13 (fun hq3 => ?_)
    refine r_iconst (pc := 16) (v := -1) d_M_song_16 (by rfl) ?_
    refine r_istore_n (pc := 17) (i := 2) (lv1 := [some (.ref 383), some (.int a1), some (.int (-1 : Int32)), none]) d_M_song_17 rfl (Nat.le_of_ble_eq_true rfl) rfl ?_
    refine r_iconst (pc := 18) (v := 0) d_M_song_18 (by rfl) ?_
    refine r_istore_n (pc := 19) (i := 3) (lv1 := [some (.ref 383), some (.int a1), some (.int (-1 : Int32)), some (.int (0 : Int32))]) d_M_song_19 rfl (Nat.le_of_ble_eq_true rfl) rfl ?_
    exact r_wk (o_M_song_l20 hn FU (-1 : Int32) (0 : Int32) hq3) ⟨rfl, ⟨rfl, ⟨rfl, ⟨rfl, trivial⟩⟩⟩⟩
  · refine r_iconst (pc := 10) (v := -1) d_M_song_10 (by rfl) ?_
    exact r_iret (pc := 11) rfl d_M_song_11

def f_M_songs_l20  (a1 : Int32)  : Nat → Int32 → Int32 → AH → Option (Int32 × AH)
  | 0, _, _, _ => none
  | n + 1, x2, x3, h =>
    if (1024 : Int32) ≤ x3 then
      some (x2, h)
    else
      gx x3 1024 <|
      bI (f_M_isIn (hI h 412 (ix x3)) (0 : Int32) a1 h) fun rq2 hq3 =>
      if rq2 = 0 then
        lt (x3 + (1 : Int32)) fun xq4 =>
        f_M_songs_l20 a1 n x2 xq4 hq3
      else
        lt (x2 ||| x3) fun xq5 =>
        lt (x3 + (1 : Int32)) fun xq6 =>
        f_M_songs_l20 a1 n xq5 xq6 hq3
set_option maxHeartbeats 2000000 in
theorem o_M_songs_l20 {G : AE} {n : Nat} (hn : NN ≤ n)  {a1 : Int32}   : ∀ (n0 : Nat) (x2 : Int32) (x3 : Int32) (h : AH), AJ G n y_M_songs (4) φI 20 [some (.ref 383), some (.int a1), some (.int x2), some (.int x3)] [] h (f_M_songs_l20 a1 n0 x2 x3 h) := by
  intro n0
  induction n0 with
  | zero => intros; exact r_none
  | succ n0 ih =>
    intro x2 x3 h
    rw [f_M_songs_l20]
    refine r_iload_n (pc := 20) (i := 3) d_M_songs_20 rfl rfl ?_
    refine r_sipush (pc := 21) (v := 1024) d_M_songs_21 (by rfl) ?_
    refine r_icmp_ge (pc := 24) (tgt := 51) d_M_songs_24 (by rfl) ?_ ?_
    · refine r_iload_n (pc := 51) (i := 2) d_M_songs_51 rfl rfl ?_
      exact r_iret (pc := 52) rfl d_M_songs_52
    · refine r_aload_n (pc := 27) (i := 0) d_M_songs_27 rfl rfl ?_
      refine r_getf (pc := 28) (ci := 12) (k := 62) (C := "CricketHayModel") (T := F_12) (N := 73) (v := .ref 412) (fun s => Std.k s (lc hn rfl) kq_383) rfl (Nat.le_of_ble_eq_true rfl) rfl w_1148 (fun s => vr rfl (Std.r s (lc hn rfl) rq_383_62)) d_M_songs_28 ?_
      refine r_iload_n (pc := 31) (i := 3) d_M_songs_31 rfl rfl ?_
      refine r_gx (fun zq1 => ?_)
      refine r_iald (pc := 32) (n := 1024) (i0 := (ix x3)) (fun s => Std.k s (lc hn rfl) kq_412) zq1 rfl d_M_songs_32 ?_
      refine r_iconst (pc := 33) (v := 0) d_M_songs_33 (by rfl) ?_
      refine r_iload_n (pc := 34) (i := 1) d_M_songs_34 rfl rfl ?_
      refine r_cSi (pc := 35) (st := []) (ok_M_isIn hn (hI h 412 (ix x3)) (0 : Int32) a1 h) w_1479 w_13 w_1477 w_1478 hy_M_isIn ⟨Nat.le_of_ble_eq_true rfl, Nat.le_of_ble_eq_true rfl⟩ ⟨Nat.le_of_ble_eq_true rfl, Nat.le_of_ble_eq_true rfl⟩ rfl (Nat.le_of_ble_eq_true rfl) d_M_songs_35 (fun rq2 hq3 => ?_)
      refine r_if_eq (pc := 38) (tgt := 45) d_M_songs_38 (by rfl) ?_ ?_
      · refine r_ltE (fun xq4 exq4 => ?_)
        refine r_iinc (pc := 45) (v := xq4) (lv1 := [some (.ref 383), some (.int a1), some (.int x2), some (.int xq4)]) d_M_songs_45 rfl exq4.symm (Nat.le_of_ble_eq_true rfl) rfl ?_
        refine r_goto (pc := 48) (tgt := 20) d_M_songs_48 (by rfl) ?_
        exact r_wk (ih x2 xq4 hq3) ⟨rfl, ⟨rfl, ⟨rfl, ⟨rfl, trivial⟩⟩⟩⟩
      · refine r_iload_n (pc := 41) (i := 2) d_M_songs_41 rfl rfl ?_
        refine r_iload_n (pc := 42) (i := 3) d_M_songs_42 rfl rfl ?_
        refine r_ior (pc := 43) d_M_songs_43 ?_
        refine r_ltI (fun xq5 => ?_)
        refine r_istore_n (pc := 44) (i := 2) (lv1 := [some (.ref 383), some (.int a1), some (.int xq5), some (.int x3)]) d_M_songs_44 rfl (Nat.le_of_ble_eq_true rfl) rfl ?_
        refine r_ltE (fun xq6 exq6 => ?_)
        refine r_iinc (pc := 45) (v := xq6) (lv1 := [some (.ref 383), some (.int a1), some (.int xq5), some (.int xq6)]) d_M_songs_45 rfl exq6.symm (Nat.le_of_ble_eq_true rfl) rfl ?_
        refine r_goto (pc := 48) (tgt := 20) d_M_songs_48 (by rfl) ?_
        exact r_wk (ih xq5 xq6 hq3) ⟨rfl, ⟨rfl, ⟨rfl, ⟨rfl, trivial⟩⟩⟩⟩
def f_M_songs  (a1 : Int32) (h : AH) : Option (Int32 × AH) :=
  bI (f_M_isIn a1 (0 : Int32) (9 : Int32) h) fun rq1 hq2 =>
  if ¬ rq1 = 0 then
    bV (f_M_layMatings hq2) fun hq3 =>
    f_M_songs_l20 a1 FU (0 : Int32) (0 : Int32) hq3
  else
    some ((-1 : Int32), hq2)
set_option maxHeartbeats 2000000 in
theorem ok_M_songs {G : AE} {n : Nat} (hn : NN ≤ n)  (a1 : Int32) (h : AH) : OK G n y_M_songs (4) φI [.ref 383, .int a1] h (f_M_songs a1 h) := by
  refine ok_of (y := y_M_songs) (lv0 := [some (.ref 383), some (.int a1), none, none]) (by decide +kernel) (Nat.le_of_ble_eq_true rfl) ⟨rfl, ⟨rfl, trivial⟩⟩ ?_
  rw [f_M_songs]
  refine r_iload_n (pc := 0) (i := 1) d_M_songs_0 rfl rfl ?_
  refine r_iconst (pc := 1) (v := 0) d_M_songs_1 (by rfl) ?_
  refine r_bipush (pc := 2) (v := 9) d_M_songs_2 (by rfl) ?_
  refine r_cSi (pc := 4) (st := []) (ok_M_isIn hn a1 (0 : Int32) (9 : Int32) h) w_1479 w_13 w_1477 w_1478 hy_M_isIn ⟨Nat.le_of_ble_eq_true rfl, Nat.le_of_ble_eq_true rfl⟩ ⟨Nat.le_of_ble_eq_true rfl, Nat.le_of_ble_eq_true rfl⟩ rfl (Nat.le_of_ble_eq_true rfl) d_M_songs_4 (fun rq1 hq2 => ?_)
  refine r_if_ne (pc := 7) (tgt := 12) d_M_songs_7 (by rfl) ?_ ?_
  · refine r_aload_n (pc := 12) (i := 0) d_M_songs_12 rfl rfl ?_
    refine r_cVv (pc := 13) (T := F_12) (N := 73) (st := []) (ok_M_layMatings hn hq2) (fun s => Std.k s (lc hn rfl) kq_383) rfl w_1715 w_13 w_1712 w_1714 ws_105 hy_M_layMatings ⟨Nat.le_of_ble_eq_true rfl, Nat.le_of_ble_eq_true rfl⟩ ⟨Nat.le_of_ble_eq_true rfl, Nat.le_of_ble_eq_true rfl⟩ rfl (Nat.le_of_ble_eq_true rfl) d_M_songs_13 (fun hq3 => ?_)
    refine r_iconst (pc := 16) (v := 0) d_M_songs_16 (by rfl) ?_
    refine r_istore_n (pc := 17) (i := 2) (lv1 := [some (.ref 383), some (.int a1), some (.int (0 : Int32)), none]) d_M_songs_17 rfl (Nat.le_of_ble_eq_true rfl) rfl ?_
    refine r_iconst (pc := 18) (v := 0) d_M_songs_18 (by rfl) ?_
    refine r_istore_n (pc := 19) (i := 3) (lv1 := [some (.ref 383), some (.int a1), some (.int (0 : Int32)), some (.int (0 : Int32))]) d_M_songs_19 rfl (Nat.le_of_ble_eq_true rfl) rfl ?_
    exact r_wk (o_M_songs_l20 hn FU (0 : Int32) (0 : Int32) hq3) ⟨rfl, ⟨rfl, ⟨rfl, ⟨rfl, trivial⟩⟩⟩⟩
  · refine r_iconst (pc := 10) (v := -1) d_M_songs_10 (by rfl) ?_
    exact r_iret (pc := 11) rfl d_M_songs_11

def f_M_lies  (a1 : Int32) (h : AH) : Option (Int32 × AH) :=
  bI (f_M_isIn a1 (0 : Int32) ((hI h 383 57) - (1 : Int32)) h) fun rq1 hq2 =>
  if rq1 = 0 then
    some ((-100 : Int32), hq2)
  else
    gx a1 12 <|
    some ((hI hq2 409 (ix a1)), hq2)
set_option maxHeartbeats 2000000 in
theorem ok_M_lies {G : AE} {n : Nat} (hn : NN ≤ n)  (a1 : Int32) (h : AH) : OK G n y_M_lies (2) φI [.ref 383, .int a1] h (f_M_lies a1 h) := by
  refine ok_of (y := y_M_lies) (lv0 := [some (.ref 383), some (.int a1)]) (by decide +kernel) (Nat.le_of_ble_eq_true rfl) ⟨rfl, ⟨rfl, trivial⟩⟩ ?_
  rw [f_M_lies]
  refine r_iload_n (pc := 0) (i := 1) d_M_lies_0 rfl rfl ?_
  refine r_iconst (pc := 1) (v := 0) d_M_lies_1 (by rfl) ?_
  refine r_aload_n (pc := 2) (i := 0) d_M_lies_2 rfl rfl ?_
  refine r_getf (pc := 3) (ci := 12) (k := 57) (C := "CricketHayModel") (T := F_12) (N := 73) (v := .int (hI h 383 57)) (fun s => Std.k s (lc hn rfl) kq_383) rfl (Nat.le_of_ble_eq_true rfl) rfl w_1143 (fun _ => rfl) d_M_lies_3 ?_
  refine r_iconst (pc := 6) (v := 1) d_M_lies_6 (by rfl) ?_
  refine r_isub (pc := 7) d_M_lies_7 ?_
  refine r_cSi (pc := 8) (st := []) (ok_M_isIn hn a1 (0 : Int32) ((hI h 383 57) - (1 : Int32)) h) w_1479 w_13 w_1477 w_1478 hy_M_isIn ⟨Nat.le_of_ble_eq_true rfl, Nat.le_of_ble_eq_true rfl⟩ ⟨Nat.le_of_ble_eq_true rfl, Nat.le_of_ble_eq_true rfl⟩ rfl (Nat.le_of_ble_eq_true rfl) d_M_lies_8 (fun rq1 hq2 => ?_)
  refine r_if_eq (pc := 11) (tgt := 23) d_M_lies_11 (by rfl) ?_ ?_
  · refine r_bipush (pc := 23) (v := -100) d_M_lies_23 (by rfl) ?_
    exact r_iret (pc := 25) rfl d_M_lies_25
  · refine r_aload_n (pc := 14) (i := 0) d_M_lies_14 rfl rfl ?_
    refine r_getf (pc := 15) (ci := 12) (k := 56) (C := "CricketHayModel") (T := F_12) (N := 73) (v := .ref 409) (fun s => Std.k s (lc hn rfl) kq_383) rfl (Nat.le_of_ble_eq_true rfl) rfl w_1142 (fun s => vr rfl (Std.r s (lc hn rfl) rq_383_56)) d_M_lies_15 ?_
    refine r_iload_n (pc := 18) (i := 1) d_M_lies_18 rfl rfl ?_
    refine r_gx (fun zq3 => ?_)
    refine r_iald (pc := 19) (n := 12) (i0 := (ix a1)) (fun s => Std.k s (lc hn rfl) kq_409) zq3 rfl d_M_lies_19 ?_
    refine r_goto (pc := 20) (tgt := 25) d_M_lies_20 (by rfl) ?_
    exact r_iret (pc := 25) rfl d_M_lies_25

def f_M_heard  (a1 : Int32) (a2 : Int32) (a3 : Int32) (h : AH) : Option (Int32 × AH) :=
  bI (f_M_isIn a1 (0 : Int32) (40 : Int32) h) fun rq1 hq2 =>
  if rq1 = 0 then
    some ((-1 : Int32), hq2)
  else
    bI (f_M_isIn a2 (0 : Int32) (99 : Int32) hq2) fun rq3 hq4 =>
    if rq3 = 0 then
      some ((-1 : Int32), hq4)
    else
      if ¬ (hI hq4 383 68) = (30 : Int32) then
        gx (hI hq4 383 68) 30 <|
        lt (sI hq4 413 (ix (hI hq4 383 68)) a1) fun hq6 =>
        gx (hI hq6 383 68) 30 <|
        lt (sI hq6 414 (ix (hI hq6 383 68)) a2) fun hq8 =>
        gx (hI hq8 383 68) 30 <|
        lt (sI hq8 417 (ix (hI hq8 383 68)) (vp_nar .boolean a3)) fun hq10 =>
        gx (hI hq10 383 68) 30 <|
        lt (sI hq10 415 (ix (hI hq10 383 68)) (hI hq10 383 69)) fun hq12 =>
        gx (hI hq12 383 68) 30 <|
        lt (sI hq12 416 (ix (hI hq12 383 68)) (-1 : Int32)) fun hq14 =>
        lt (sI hq14 383 68 ((hI hq14 383 68) + (1 : Int32))) fun hq15 =>
        some (((hI hq15 383 68) - (1 : Int32)), hq15)
      else
        some ((-1 : Int32), hq4)
set_option maxHeartbeats 2000000 in
theorem ok_M_heard {G : AE} {n : Nat} (hn : NN ≤ n)  (a1 : Int32) (a2 : Int32) (a3 : Int32) (h : AH) : OK G n y_M_heard (2) φI [.ref 383, .int a1, .int a2, .int a3] h (f_M_heard a1 a2 a3 h) := by
  refine ok_of (y := y_M_heard) (lv0 := [some (.ref 383), some (.int a1), some (.int a2), some (.int a3)]) (by decide +kernel) (Nat.le_of_ble_eq_true rfl) ⟨rfl, ⟨rfl, ⟨rfl, ⟨rfl, trivial⟩⟩⟩⟩ ?_
  rw [f_M_heard]
  refine r_iload_n (pc := 0) (i := 1) d_M_heard_0 rfl rfl ?_
  refine r_iconst (pc := 1) (v := 0) d_M_heard_1 (by rfl) ?_
  refine r_bipush (pc := 2) (v := 40) d_M_heard_2 (by rfl) ?_
  refine r_cSi (pc := 4) (st := []) (ok_M_isIn hn a1 (0 : Int32) (40 : Int32) h) w_1479 w_13 w_1477 w_1478 hy_M_isIn ⟨Nat.le_of_ble_eq_true rfl, Nat.le_of_ble_eq_true rfl⟩ ⟨Nat.le_of_ble_eq_true rfl, Nat.le_of_ble_eq_true rfl⟩ rfl (Nat.le_of_ble_eq_true rfl) d_M_heard_4 (fun rq1 hq2 => ?_)
  refine r_if_eq (pc := 7) (tgt := 29) d_M_heard_7 (by rfl) ?_ ?_
  · refine r_iconst (pc := 29) (v := -1) d_M_heard_29 (by rfl) ?_
    exact r_iret (pc := 30) rfl d_M_heard_30
  · refine r_iload_n (pc := 10) (i := 2) d_M_heard_10 rfl rfl ?_
    refine r_iconst (pc := 11) (v := 0) d_M_heard_11 (by rfl) ?_
    refine r_bipush (pc := 12) (v := 99) d_M_heard_12 (by rfl) ?_
    refine r_cSi (pc := 14) (st := []) (ok_M_isIn hn a2 (0 : Int32) (99 : Int32) hq2) w_1479 w_13 w_1477 w_1478 hy_M_isIn ⟨Nat.le_of_ble_eq_true rfl, Nat.le_of_ble_eq_true rfl⟩ ⟨Nat.le_of_ble_eq_true rfl, Nat.le_of_ble_eq_true rfl⟩ rfl (Nat.le_of_ble_eq_true rfl) d_M_heard_14 (fun rq3 hq4 => ?_)
    refine r_if_eq (pc := 17) (tgt := 29) d_M_heard_17 (by rfl) ?_ ?_
    · refine r_iconst (pc := 29) (v := -1) d_M_heard_29 (by rfl) ?_
      exact r_iret (pc := 30) rfl d_M_heard_30
    · refine r_aload_n (pc := 20) (i := 0) d_M_heard_20 rfl rfl ?_
      refine r_getf (pc := 21) (ci := 12) (k := 68) (C := "CricketHayModel") (T := F_12) (N := 73) (v := .int (hI hq4 383 68)) (fun s => Std.k s (lc hn rfl) kq_383) rfl (Nat.le_of_ble_eq_true rfl) rfl w_1154 (fun _ => rfl) d_M_heard_21 ?_
      refine r_bipush (pc := 24) (v := 30) d_M_heard_24 (by rfl) ?_
      refine r_icmp_ne (pc := 26) (tgt := 31) d_M_heard_26 (by rfl) ?_ ?_
      · refine r_aload_n (pc := 31) (i := 0) d_M_heard_31 rfl rfl ?_
        refine r_getf (pc := 32) (ci := 12) (k := 63) (C := "CricketHayModel") (T := F_12) (N := 73) (v := .ref 413) (fun s => Std.k s (lc hn rfl) kq_383) rfl (Nat.le_of_ble_eq_true rfl) rfl w_1149 (fun s => vr rfl (Std.r s (lc hn rfl) rq_383_63)) d_M_heard_32 ?_
        refine r_aload_n (pc := 35) (i := 0) d_M_heard_35 rfl rfl ?_
        refine r_getf (pc := 36) (ci := 12) (k := 68) (C := "CricketHayModel") (T := F_12) (N := 73) (v := .int (hI hq4 383 68)) (fun s => Std.k s (lc hn rfl) kq_383) rfl (Nat.le_of_ble_eq_true rfl) rfl w_1154 (fun _ => rfl) d_M_heard_36 ?_
        refine r_iload_n (pc := 39) (i := 1) d_M_heard_39 rfl rfl ?_
        refine r_gx (fun zq5 => ?_)
        refine r_iast (pc := 40) (n := 30) (i0 := (ix (hI hq4 383 68))) (fun s => Std.k s (lc hn rfl) kq_413) zq5 rfl (fun s => Std.sI s _ _ _) d_M_heard_40 ?_
        refine r_ltH (fun hq6 => ?_)
        refine r_aload_n (pc := 41) (i := 0) d_M_heard_41 rfl rfl ?_
        refine r_getf (pc := 42) (ci := 12) (k := 64) (C := "CricketHayModel") (T := F_12) (N := 73) (v := .ref 414) (fun s => Std.k s (lc hn rfl) kq_383) rfl (Nat.le_of_ble_eq_true rfl) rfl w_1150 (fun s => vr rfl (Std.r s (lc hn rfl) rq_383_64)) d_M_heard_42 ?_
        refine r_aload_n (pc := 45) (i := 0) d_M_heard_45 rfl rfl ?_
        refine r_getf (pc := 46) (ci := 12) (k := 68) (C := "CricketHayModel") (T := F_12) (N := 73) (v := .int (hI hq6 383 68)) (fun s => Std.k s (lc hn rfl) kq_383) rfl (Nat.le_of_ble_eq_true rfl) rfl w_1154 (fun _ => rfl) d_M_heard_46 ?_
        refine r_iload_n (pc := 49) (i := 2) d_M_heard_49 rfl rfl ?_
        refine r_gx (fun zq7 => ?_)
        refine r_iast (pc := 50) (n := 30) (i0 := (ix (hI hq6 383 68))) (fun s => Std.k s (lc hn rfl) kq_414) zq7 rfl (fun s => Std.sI s _ _ _) d_M_heard_50 ?_
        refine r_ltH (fun hq8 => ?_)
        refine r_aload_n (pc := 51) (i := 0) d_M_heard_51 rfl rfl ?_
        refine r_getf (pc := 52) (ci := 12) (k := 67) (C := "CricketHayModel") (T := F_12) (N := 73) (v := .ref 417) (fun s => Std.k s (lc hn rfl) kq_383) rfl (Nat.le_of_ble_eq_true rfl) rfl w_1153 (fun s => vr rfl (Std.r s (lc hn rfl) rq_383_67)) d_M_heard_52 ?_
        refine r_aload_n (pc := 55) (i := 0) d_M_heard_55 rfl rfl ?_
        refine r_getf (pc := 56) (ci := 12) (k := 68) (C := "CricketHayModel") (T := F_12) (N := 73) (v := .int (hI hq8 383 68)) (fun s => Std.k s (lc hn rfl) kq_383) rfl (Nat.le_of_ble_eq_true rfl) rfl w_1154 (fun _ => rfl) d_M_heard_56 ?_
        refine r_iload_n (pc := 59) (i := 3) d_M_heard_59 rfl rfl ?_
        refine r_gx (fun zq9 => ?_)
        refine r_zast (pc := 60) (n := 30) (i0 := (ix (hI hq8 383 68))) (fun s => Std.k s (lc hn rfl) kq_417) zq9 rfl (fun s => Std.sI s _ _ _) d_M_heard_60 ?_
        refine r_ltH (fun hq10 => ?_)
        refine r_aload_n (pc := 61) (i := 0) d_M_heard_61 rfl rfl ?_
        refine r_getf (pc := 62) (ci := 12) (k := 65) (C := "CricketHayModel") (T := F_12) (N := 73) (v := .ref 415) (fun s => Std.k s (lc hn rfl) kq_383) rfl (Nat.le_of_ble_eq_true rfl) rfl w_1151 (fun s => vr rfl (Std.r s (lc hn rfl) rq_383_65)) d_M_heard_62 ?_
        refine r_aload_n (pc := 65) (i := 0) d_M_heard_65 rfl rfl ?_
        refine r_getf (pc := 66) (ci := 12) (k := 68) (C := "CricketHayModel") (T := F_12) (N := 73) (v := .int (hI hq10 383 68)) (fun s => Std.k s (lc hn rfl) kq_383) rfl (Nat.le_of_ble_eq_true rfl) rfl w_1154 (fun _ => rfl) d_M_heard_66 ?_
        refine r_aload_n (pc := 69) (i := 0) d_M_heard_69 rfl rfl ?_
        refine r_getf (pc := 70) (ci := 12) (k := 69) (C := "CricketHayModel") (T := F_12) (N := 73) (v := .int (hI hq10 383 69)) (fun s => Std.k s (lc hn rfl) kq_383) rfl (Nat.le_of_ble_eq_true rfl) rfl w_1155 (fun _ => rfl) d_M_heard_70 ?_
        refine r_gx (fun zq11 => ?_)
        refine r_iast (pc := 73) (n := 30) (i0 := (ix (hI hq10 383 68))) (fun s => Std.k s (lc hn rfl) kq_415) zq11 rfl (fun s => Std.sI s _ _ _) d_M_heard_73 ?_
        refine r_ltH (fun hq12 => ?_)
        refine r_aload_n (pc := 74) (i := 0) d_M_heard_74 rfl rfl ?_
        refine r_getf (pc := 75) (ci := 12) (k := 66) (C := "CricketHayModel") (T := F_12) (N := 73) (v := .ref 416) (fun s => Std.k s (lc hn rfl) kq_383) rfl (Nat.le_of_ble_eq_true rfl) rfl w_1152 (fun s => vr rfl (Std.r s (lc hn rfl) rq_383_66)) d_M_heard_75 ?_
        refine r_aload_n (pc := 78) (i := 0) d_M_heard_78 rfl rfl ?_
        refine r_getf (pc := 79) (ci := 12) (k := 68) (C := "CricketHayModel") (T := F_12) (N := 73) (v := .int (hI hq12 383 68)) (fun s => Std.k s (lc hn rfl) kq_383) rfl (Nat.le_of_ble_eq_true rfl) rfl w_1154 (fun _ => rfl) d_M_heard_79 ?_
        refine r_iconst (pc := 82) (v := -1) d_M_heard_82 (by rfl) ?_
        refine r_gx (fun zq13 => ?_)
        refine r_iast (pc := 83) (n := 30) (i0 := (ix (hI hq12 383 68))) (fun s => Std.k s (lc hn rfl) kq_416) zq13 rfl (fun s => Std.sI s _ _ _) d_M_heard_83 ?_
        refine r_ltH (fun hq14 => ?_)
        refine r_aload_n (pc := 84) (i := 0) d_M_heard_84 rfl rfl ?_
        refine r_dup (pc := 85) d_M_heard_85 rfl ?_
        refine r_getf (pc := 86) (ci := 12) (k := 68) (C := "CricketHayModel") (T := F_12) (N := 73) (v := .int (hI hq14 383 68)) (fun s => Std.k s (lc hn rfl) kq_383) rfl (Nat.le_of_ble_eq_true rfl) rfl w_1154 (fun _ => rfl) d_M_heard_86 ?_
        refine r_iconst (pc := 89) (v := 1) d_M_heard_89 (by rfl) ?_
        refine r_iadd (pc := 90) d_M_heard_90 ?_
        refine r_putI (pc := 91) (ci := 12) (k := 68) (C := "CricketHayModel") (T := F_12) (N := 73) (fun s => Std.k s (lc hn rfl) kq_383) rfl (Nat.le_of_ble_eq_true rfl) rfl rfl w_1154 (fun _ _ => rfl) (fun _ => rfl) (fun _ => rfl) (fun s => Std.sI s _ _ _) d_M_heard_91 ?_
        refine r_ltH (fun hq15 => ?_)
        refine r_aload_n (pc := 94) (i := 0) d_M_heard_94 rfl rfl ?_
        refine r_getf (pc := 95) (ci := 12) (k := 68) (C := "CricketHayModel") (T := F_12) (N := 73) (v := .int (hI hq15 383 68)) (fun s => Std.k s (lc hn rfl) kq_383) rfl (Nat.le_of_ble_eq_true rfl) rfl w_1154 (fun _ => rfl) d_M_heard_95 ?_
        refine r_iconst (pc := 98) (v := 1) d_M_heard_98 (by rfl) ?_
        refine r_isub (pc := 99) d_M_heard_99 ?_
        exact r_iret (pc := 100) rfl d_M_heard_100
      · refine r_iconst (pc := 29) (v := -1) d_M_heard_29 (by rfl) ?_
        exact r_iret (pc := 30) rfl d_M_heard_30

def f_M_untell  (a1 : Int32) (h : AH) : Option (Int32 × AH) :=
  bI (f_M_isIn a1 (0 : Int32) ((hI h 383 68) - (1 : Int32)) h) fun rq1 hq2 =>
  if rq1 = 0 then
    some ((0 : Int32), hq2)
  else
    gx a1 30 <|
    if (hI hq2 416 (ix a1)) < 0 then
      gx a1 30 <|
      lt (sI hq2 416 (ix a1) (hI hq2 383 69)) fun hq5 =>
      some ((1 : Int32), hq5)
    else
      some ((0 : Int32), hq2)
set_option maxHeartbeats 2000000 in
theorem ok_M_untell {G : AE} {n : Nat} (hn : NN ≤ n)  (a1 : Int32) (h : AH) : OK G n y_M_untell (2) φI [.ref 383, .int a1] h (f_M_untell a1 h) := by
  refine ok_of (y := y_M_untell) (lv0 := [some (.ref 383), some (.int a1)]) (by decide +kernel) (Nat.le_of_ble_eq_true rfl) ⟨rfl, ⟨rfl, trivial⟩⟩ ?_
  rw [f_M_untell]
  refine r_iload_n (pc := 0) (i := 1) d_M_untell_0 rfl rfl ?_
  refine r_iconst (pc := 1) (v := 0) d_M_untell_1 (by rfl) ?_
  refine r_aload_n (pc := 2) (i := 0) d_M_untell_2 rfl rfl ?_
  refine r_getf (pc := 3) (ci := 12) (k := 68) (C := "CricketHayModel") (T := F_12) (N := 73) (v := .int (hI h 383 68)) (fun s => Std.k s (lc hn rfl) kq_383) rfl (Nat.le_of_ble_eq_true rfl) rfl w_1154 (fun _ => rfl) d_M_untell_3 ?_
  refine r_iconst (pc := 6) (v := 1) d_M_untell_6 (by rfl) ?_
  refine r_isub (pc := 7) d_M_untell_7 ?_
  refine r_cSi (pc := 8) (st := []) (ok_M_isIn hn a1 (0 : Int32) ((hI h 383 68) - (1 : Int32)) h) w_1479 w_13 w_1477 w_1478 hy_M_isIn ⟨Nat.le_of_ble_eq_true rfl, Nat.le_of_ble_eq_true rfl⟩ ⟨Nat.le_of_ble_eq_true rfl, Nat.le_of_ble_eq_true rfl⟩ rfl (Nat.le_of_ble_eq_true rfl) d_M_untell_8 (fun rq1 hq2 => ?_)
  refine r_if_eq (pc := 11) (tgt := 23) d_M_untell_11 (by rfl) ?_ ?_
  · refine r_iconst (pc := 23) (v := 0) d_M_untell_23 (by rfl) ?_
    exact r_zret (pc := 24) rfl rfl d_M_untell_24
  · refine r_aload_n (pc := 14) (i := 0) d_M_untell_14 rfl rfl ?_
    refine r_getf (pc := 15) (ci := 12) (k := 66) (C := "CricketHayModel") (T := F_12) (N := 73) (v := .ref 416) (fun s => Std.k s (lc hn rfl) kq_383) rfl (Nat.le_of_ble_eq_true rfl) rfl w_1152 (fun s => vr rfl (Std.r s (lc hn rfl) rq_383_66)) d_M_untell_15 ?_
    refine r_iload_n (pc := 18) (i := 1) d_M_untell_18 rfl rfl ?_
    refine r_gx (fun zq3 => ?_)
    refine r_iald (pc := 19) (n := 30) (i0 := (ix a1)) (fun s => Std.k s (lc hn rfl) kq_416) zq3 rfl d_M_untell_19 ?_
    refine r_if_lt (pc := 20) (tgt := 25) d_M_untell_20 (by rfl) ?_ ?_
    · refine r_aload_n (pc := 25) (i := 0) d_M_untell_25 rfl rfl ?_
      refine r_getf (pc := 26) (ci := 12) (k := 66) (C := "CricketHayModel") (T := F_12) (N := 73) (v := .ref 416) (fun s => Std.k s (lc hn rfl) kq_383) rfl (Nat.le_of_ble_eq_true rfl) rfl w_1152 (fun s => vr rfl (Std.r s (lc hn rfl) rq_383_66)) d_M_untell_26 ?_
      refine r_iload_n (pc := 29) (i := 1) d_M_untell_29 rfl rfl ?_
      refine r_aload_n (pc := 30) (i := 0) d_M_untell_30 rfl rfl ?_
      refine r_getf (pc := 31) (ci := 12) (k := 69) (C := "CricketHayModel") (T := F_12) (N := 73) (v := .int (hI hq2 383 69)) (fun s => Std.k s (lc hn rfl) kq_383) rfl (Nat.le_of_ble_eq_true rfl) rfl w_1155 (fun _ => rfl) d_M_untell_31 ?_
      refine r_gx (fun zq4 => ?_)
      refine r_iast (pc := 34) (n := 30) (i0 := (ix a1)) (fun s => Std.k s (lc hn rfl) kq_416) zq4 rfl (fun s => Std.sI s _ _ _) d_M_untell_34 ?_
      refine r_ltH (fun hq5 => ?_)
      refine r_iconst (pc := 35) (v := 1) d_M_untell_35 (by rfl) ?_
      exact r_zret (pc := 36) rfl rfl d_M_untell_36
    · refine r_iconst (pc := 23) (v := 0) d_M_untell_23 (by rfl) ?_
      exact r_zret (pc := 24) rfl rfl d_M_untell_24

def f_M_later  (a1 : Int32) (h : AH) : Option (Int32 × AH) :=
  if a1 < 0 then
    some ((-1 : Int32), h)
  else
    if (1000 : Int32) < a1 then
      some ((-1 : Int32), h)
    else
      if ((hI h 383 69) + a1) ≤ (100000 : Int32) then
        lt (sI h 383 69 ((hI h 383 69) + a1)) fun hq1 =>
        some ((hI hq1 383 69), hq1)
      else
        some ((-1 : Int32), h)
set_option maxHeartbeats 2000000 in
theorem ok_M_later {G : AE} {n : Nat} (hn : NN ≤ n)  (a1 : Int32) (h : AH) : OK G n y_M_later (1) φI [.ref 383, .int a1] h (f_M_later a1 h) := by
  refine ok_of (y := y_M_later) (lv0 := [some (.ref 383), some (.int a1)]) (by decide +kernel) (Nat.le_of_ble_eq_true rfl) ⟨rfl, ⟨rfl, trivial⟩⟩ ?_
  rw [f_M_later]
  refine r_iload_n (pc := 0) (i := 1) d_M_later_0 rfl rfl ?_
  refine r_if_lt (pc := 1) (tgt := 23) d_M_later_1 (by rfl) ?_ ?_
  · refine r_iconst (pc := 23) (v := -1) d_M_later_23 (by rfl) ?_
    exact r_iret (pc := 24) rfl d_M_later_24
  · refine r_iload_n (pc := 4) (i := 1) d_M_later_4 rfl rfl ?_
    refine r_sipush (pc := 5) (v := 1000) d_M_later_5 (by rfl) ?_
    refine r_icmp_gt (pc := 8) (tgt := 23) d_M_later_8 (by rfl) ?_ ?_
    · refine r_iconst (pc := 23) (v := -1) d_M_later_23 (by rfl) ?_
      exact r_iret (pc := 24) rfl d_M_later_24
    · refine r_aload_n (pc := 11) (i := 0) d_M_later_11 rfl rfl ?_
      refine r_getf (pc := 12) (ci := 12) (k := 69) (C := "CricketHayModel") (T := F_12) (N := 73) (v := .int (hI h 383 69)) (fun s => Std.k s (lc hn rfl) kq_383) rfl (Nat.le_of_ble_eq_true rfl) rfl w_1155 (fun _ => rfl) d_M_later_12 ?_
      refine r_iload_n (pc := 15) (i := 1) d_M_later_15 rfl rfl ?_
      refine r_iadd (pc := 16) d_M_later_16 ?_
      refine r_ldcw (pc := 17) w_1747 d_M_later_17 ?_
      refine r_icmp_le (pc := 20) (tgt := 25) d_M_later_20 (by rfl) ?_ ?_
      · refine r_aload_n (pc := 25) (i := 0) d_M_later_25 rfl rfl ?_
        refine r_dup (pc := 26) d_M_later_26 rfl ?_
        refine r_getf (pc := 27) (ci := 12) (k := 69) (C := "CricketHayModel") (T := F_12) (N := 73) (v := .int (hI h 383 69)) (fun s => Std.k s (lc hn rfl) kq_383) rfl (Nat.le_of_ble_eq_true rfl) rfl w_1155 (fun _ => rfl) d_M_later_27 ?_
        refine r_iload_n (pc := 30) (i := 1) d_M_later_30 rfl rfl ?_
        refine r_iadd (pc := 31) d_M_later_31 ?_
        refine r_putI (pc := 32) (ci := 12) (k := 69) (C := "CricketHayModel") (T := F_12) (N := 73) (fun s => Std.k s (lc hn rfl) kq_383) rfl (Nat.le_of_ble_eq_true rfl) rfl rfl w_1155 (fun _ _ => rfl) (fun _ => rfl) (fun _ => rfl) (fun s => Std.sI s _ _ _) d_M_later_32 ?_
        refine r_ltH (fun hq1 => ?_)
        refine r_aload_n (pc := 35) (i := 0) d_M_later_35 rfl rfl ?_
        refine r_getf (pc := 36) (ci := 12) (k := 69) (C := "CricketHayModel") (T := F_12) (N := 73) (v := .int (hI hq1 383 69)) (fun s => Std.k s (lc hn rfl) kq_383) rfl (Nat.le_of_ble_eq_true rfl) rfl w_1155 (fun _ => rfl) d_M_later_36 ?_
        exact r_iret (pc := 39) rfl d_M_later_39
      · refine r_iconst (pc := 23) (v := -1) d_M_later_23 (by rfl) ?_
        exact r_iret (pc := 24) rfl d_M_later_24

def f_M_isFit_b84  (a1 : Int32) (a2 : Int32) (a3 : Int32) (k6 : Int32 → Int32 → AH → Option (Int32 × AH)) (x5 : Int32) (v0 : Int32) (h : AH) : Option (Int32 × AH) :=
  gx x5 30 <|
  if ¬ v0 = (hI h 417 (ix x5)) then
    lt (x5 + (1 : Int32)) fun xq2 =>
    k6 (0 : Int32) xq2 h
  else
    lt (x5 + (1 : Int32)) fun xq3 =>
    k6 (1 : Int32) xq3 h
set_option maxHeartbeats 2000000 in
theorem o_M_isFit_b84 {G : AE} {n : Nat} (hn : NN ≤ n)  {a1 : Int32} {a2 : Int32} {a3 : Int32}  {k6 : Int32 → Int32 → AH → Option (Int32 × AH)} (hk6 : ∀ (x4 : Int32) (x5 : Int32) (h : AH), AJ G n y_M_isFit (5) φI 6 [some (.ref 383), some (.int a1), some (.int a2), some (.int a3), some (.int x4), some (.int x5)] [] h (k6 x4 x5 h)) : ∀ (x5 : Int32) (v0 : Int32) (h : AH), AJ G n y_M_isFit (5) φI 84 [some (.ref 383), some (.int a1), some (.int a2), some (.int a3), none, some (.int x5)] [.int v0] h (f_M_isFit_b84 a1 a2 a3 k6 x5 v0 h) := by
  intro x5 v0 h
  rw [f_M_isFit_b84]
  refine r_aload_n (pc := 84) (i := 0) d_M_isFit_84 rfl rfl ?_
  refine r_getf (pc := 85) (ci := 12) (k := 67) (C := "CricketHayModel") (T := F_12) (N := 73) (v := .ref 417) (fun s => Std.k s (lc hn rfl) kq_383) rfl (Nat.le_of_ble_eq_true rfl) rfl w_1153 (fun s => vr rfl (Std.r s (lc hn rfl) rq_383_67)) d_M_isFit_85 ?_
  refine r_iload (pc := 88) d_M_isFit_88 rfl ?_
  refine r_gx (fun zq1 => ?_)
  refine r_zald (pc := 90) (n := 30) (i0 := (ix x5)) (fun s => Std.k s (lc hn rfl) kq_417) zq1 rfl d_M_isFit_90 ?_
  refine r_icmp_ne (pc := 91) (tgt := 98) d_M_isFit_91 (by rfl) ?_ ?_
  · refine r_iconst (pc := 98) (v := 0) d_M_isFit_98 (by rfl) ?_
    refine r_istore (pc := 99) (lv1 := [some (.ref 383), some (.int a1), some (.int a2), some (.int a3), some (.int (0 : Int32)), some (.int x5)]) d_M_isFit_99 (Nat.le_of_ble_eq_true rfl) rfl ?_
    refine r_ltE (fun xq2 exq2 => ?_)
    refine r_iinc (pc := 101) (v := xq2) (lv1 := [some (.ref 383), some (.int a1), some (.int a2), some (.int a3), some (.int (0 : Int32)), some (.int xq2)]) d_M_isFit_101 rfl exq2.symm (Nat.le_of_ble_eq_true rfl) rfl ?_
    refine r_goto (pc := 104) (tgt := 6) d_M_isFit_104 (by rfl) ?_
    exact r_wk (hk6 (0 : Int32) xq2 h) ⟨rfl, ⟨rfl, ⟨rfl, ⟨rfl, ⟨rfl, ⟨rfl, trivial⟩⟩⟩⟩⟩⟩
  · refine r_iconst (pc := 94) (v := 1) d_M_isFit_94 (by rfl) ?_
    refine r_goto (pc := 95) (tgt := 99) d_M_isFit_95 (by rfl) ?_
    refine r_istore (pc := 99) (lv1 := [some (.ref 383), some (.int a1), some (.int a2), some (.int a3), some (.int (1 : Int32)), some (.int x5)]) d_M_isFit_99 (Nat.le_of_ble_eq_true rfl) rfl ?_
    refine r_ltE (fun xq3 exq3 => ?_)
    refine r_iinc (pc := 101) (v := xq3) (lv1 := [some (.ref 383), some (.int a1), some (.int a2), some (.int a3), some (.int (1 : Int32)), some (.int xq3)]) d_M_isFit_101 rfl exq3.symm (Nat.le_of_ble_eq_true rfl) rfl ?_
    refine r_goto (pc := 104) (tgt := 6) d_M_isFit_104 (by rfl) ?_
    exact r_wk (hk6 (1 : Int32) xq3 h) ⟨rfl, ⟨rfl, ⟨rfl, ⟨rfl, ⟨rfl, ⟨rfl, trivial⟩⟩⟩⟩⟩⟩
def f_M_isFit_b55  (a1 : Int32) (a2 : Int32) (a3 : Int32) (k6 : Int32 → Int32 → AH → Option (Int32 × AH)) (x5 : Int32) (h : AH) : Option (Int32 × AH) :=
  gx x5 30 <|
  bI (f_M_chirpsAt (hI h 413 (ix x5)) a1 a2 (0 : Int32) h) fun rq2 hq3 =>
  gx x5 30 <|
  if rq2 < (hI hq3 414 (ix x5)) then
    f_M_isFit_b84 a1 a2 a3 k6 x5 (0 : Int32) hq3
  else
    f_M_isFit_b84 a1 a2 a3 k6 x5 (1 : Int32) hq3
set_option maxHeartbeats 2000000 in
theorem o_M_isFit_b55 {G : AE} {n : Nat} (hn : NN ≤ n)  {a1 : Int32} {a2 : Int32} {a3 : Int32}  {k6 : Int32 → Int32 → AH → Option (Int32 × AH)} (hk6 : ∀ (x4 : Int32) (x5 : Int32) (h : AH), AJ G n y_M_isFit (5) φI 6 [some (.ref 383), some (.int a1), some (.int a2), some (.int a3), some (.int x4), some (.int x5)] [] h (k6 x4 x5 h)) : ∀ (x5 : Int32) (h : AH), AJ G n y_M_isFit (5) φI 55 [some (.ref 383), some (.int a1), some (.int a2), some (.int a3), none, some (.int x5)] [] h (f_M_isFit_b55 a1 a2 a3 k6 x5 h) := by
  intro x5 h
  rw [f_M_isFit_b55]
  refine r_aload_n (pc := 55) (i := 0) d_M_isFit_55 rfl rfl ?_
  refine r_aload_n (pc := 56) (i := 0) d_M_isFit_56 rfl rfl ?_
  refine r_getf (pc := 57) (ci := 12) (k := 63) (C := "CricketHayModel") (T := F_12) (N := 73) (v := .ref 413) (fun s => Std.k s (lc hn rfl) kq_383) rfl (Nat.le_of_ble_eq_true rfl) rfl w_1149 (fun s => vr rfl (Std.r s (lc hn rfl) rq_383_63)) d_M_isFit_57 ?_
  refine r_iload (pc := 60) d_M_isFit_60 rfl ?_
  refine r_gx (fun zq1 => ?_)
  refine r_iald (pc := 62) (n := 30) (i0 := (ix x5)) (fun s => Std.k s (lc hn rfl) kq_413) zq1 rfl d_M_isFit_62 ?_
  refine r_iload_n (pc := 63) (i := 1) d_M_isFit_63 rfl rfl ?_
  refine r_iload_n (pc := 64) (i := 2) d_M_isFit_64 rfl rfl ?_
  refine r_iconst (pc := 65) (v := 0) d_M_isFit_65 (by rfl) ?_
  refine r_cVi (pc := 66) (T := F_12) (N := 73) (st := []) (ok_M_chirpsAt hn (hI h 413 (ix x5)) a1 a2 (0 : Int32) h) (fun s => Std.k s (lc hn rfl) kq_383) rfl w_1520 w_13 w_1517 w_1519 ws_83 hy_M_chirpsAt ⟨Nat.le_of_ble_eq_true rfl, Nat.le_of_ble_eq_true rfl⟩ ⟨Nat.le_of_ble_eq_true rfl, Nat.le_of_ble_eq_true rfl⟩ rfl (Nat.le_of_ble_eq_true rfl) d_M_isFit_66 (fun rq2 hq3 => ?_)
  refine r_aload_n (pc := 69) (i := 0) d_M_isFit_69 rfl rfl ?_
  refine r_getf (pc := 70) (ci := 12) (k := 64) (C := "CricketHayModel") (T := F_12) (N := 73) (v := .ref 414) (fun s => Std.k s (lc hn rfl) kq_383) rfl (Nat.le_of_ble_eq_true rfl) rfl w_1150 (fun s => vr rfl (Std.r s (lc hn rfl) rq_383_64)) d_M_isFit_70 ?_
  refine r_iload (pc := 73) d_M_isFit_73 rfl ?_
  refine r_gx (fun zq4 => ?_)
  refine r_iald (pc := 75) (n := 30) (i0 := (ix x5)) (fun s => Std.k s (lc hn rfl) kq_414) zq4 rfl d_M_isFit_75 ?_
  refine r_icmp_lt (pc := 76) (tgt := 83) d_M_isFit_76 (by rfl) ?_ ?_
  · refine r_iconst (pc := 83) (v := 0) d_M_isFit_83 (by rfl) ?_
    exact r_wk (o_M_isFit_b84 hn hk6 x5 (0 : Int32) hq3) ⟨rfl, ⟨rfl, ⟨rfl, ⟨rfl, ⟨rfl, trivial⟩⟩⟩⟩⟩
  · refine r_iconst (pc := 79) (v := 1) d_M_isFit_79 (by rfl) ?_
    refine r_goto (pc := 80) (tgt := 84) d_M_isFit_80 (by rfl) ?_
    exact r_wk (o_M_isFit_b84 hn hk6 x5 (1 : Int32) hq3) ⟨rfl, ⟨rfl, ⟨rfl, ⟨rfl, ⟨rfl, trivial⟩⟩⟩⟩⟩
def f_M_isFit_l6  (a1 : Int32) (a2 : Int32) (a3 : Int32)  : Nat → Int32 → Int32 → AH → Option (Int32 × AH)
  | 0, _, _, _ => none
  | n + 1, x4, x5, h =>
    if (hI h 383 68) ≤ x5 then
      gb x4 <|
      some (x4, h)
    else
      if x4 = 0 then
        gb x4 <|
        some (x4, h)
      else
        gx x5 30 <|
        if a3 < (hI h 415 (ix x5)) then
          lt (x5 + (1 : Int32)) fun xq4 =>
          f_M_isFit_l6 a1 a2 a3 n x4 xq4 h
        else
          gx x5 30 <|
          if (hI h 416 (ix x5)) < 0 then
            f_M_isFit_b55 a1 a2 a3 (f_M_isFit_l6 a1 a2 a3 n) x5 h
          else
            gx x5 30 <|
            if a3 < (hI h 416 (ix x5)) then
              f_M_isFit_b55 a1 a2 a3 (f_M_isFit_l6 a1 a2 a3 n) x5 h
            else
              lt (x5 + (1 : Int32)) fun xq7 =>
              f_M_isFit_l6 a1 a2 a3 n x4 xq7 h
set_option maxHeartbeats 2000000 in
theorem o_M_isFit_l6 {G : AE} {n : Nat} (hn : NN ≤ n)  {a1 : Int32} {a2 : Int32} {a3 : Int32}   : ∀ (n0 : Nat) (x4 : Int32) (x5 : Int32) (h : AH), AJ G n y_M_isFit (5) φI 6 [some (.ref 383), some (.int a1), some (.int a2), some (.int a3), some (.int x4), some (.int x5)] [] h (f_M_isFit_l6 a1 a2 a3 n0 x4 x5 h) := by
  intro n0
  induction n0 with
  | zero => intros; exact r_none
  | succ n0 ih =>
    intro x4 x5 h
    rw [f_M_isFit_l6]
    refine r_iload (pc := 6) d_M_isFit_6 rfl ?_
    refine r_aload_n (pc := 8) (i := 0) d_M_isFit_8 rfl rfl ?_
    refine r_getf (pc := 9) (ci := 12) (k := 68) (C := "CricketHayModel") (T := F_12) (N := 73) (v := .int (hI h 383 68)) (fun s => Std.k s (lc hn rfl) kq_383) rfl (Nat.le_of_ble_eq_true rfl) rfl w_1154 (fun _ => rfl) d_M_isFit_9 ?_
    refine r_icmp_ge (pc := 12) (tgt := 107) d_M_isFit_12 (by rfl) ?_ ?_
    · refine r_iload (pc := 107) d_M_isFit_107 rfl ?_
      refine r_gb (fun zq1 => ?_)
      exact r_zret (pc := 109) rfl zq1 d_M_isFit_109
    · refine r_iload (pc := 15) d_M_isFit_15 rfl ?_
      refine r_if_eq (pc := 17) (tgt := 107) d_M_isFit_17 (by rfl) ?_ ?_
      · refine r_iload (pc := 107) d_M_isFit_107 rfl ?_
        refine r_gb (fun zq2 => ?_)
        exact r_zret (pc := 109) rfl zq2 d_M_isFit_109
      · refine r_aload_n (pc := 20) (i := 0) d_M_isFit_20 rfl rfl ?_
        refine r_getf (pc := 21) (ci := 12) (k := 65) (C := "CricketHayModel") (T := F_12) (N := 73) (v := .ref 415) (fun s => Std.k s (lc hn rfl) kq_383) rfl (Nat.le_of_ble_eq_true rfl) rfl w_1151 (fun s => vr rfl (Std.r s (lc hn rfl) rq_383_65)) d_M_isFit_21 ?_
        refine r_iload (pc := 24) d_M_isFit_24 rfl ?_
        refine r_gx (fun zq3 => ?_)
        refine r_iald (pc := 26) (n := 30) (i0 := (ix x5)) (fun s => Std.k s (lc hn rfl) kq_415) zq3 rfl d_M_isFit_26 ?_
        refine r_iload_n (pc := 27) (i := 3) d_M_isFit_27 rfl rfl ?_
        refine r_icmp_gt (pc := 28) (tgt := 101) d_M_isFit_28 (by rfl) ?_ ?_
        · refine r_ltE (fun xq4 exq4 => ?_)
          refine r_iinc (pc := 101) (v := xq4) (lv1 := [some (.ref 383), some (.int a1), some (.int a2), some (.int a3), some (.int x4), some (.int xq4)]) d_M_isFit_101 rfl exq4.symm (Nat.le_of_ble_eq_true rfl) rfl ?_
          refine r_goto (pc := 104) (tgt := 6) d_M_isFit_104 (by rfl) ?_
          exact r_wk (ih x4 xq4 h) ⟨rfl, ⟨rfl, ⟨rfl, ⟨rfl, ⟨rfl, ⟨rfl, trivial⟩⟩⟩⟩⟩⟩
        · refine r_aload_n (pc := 31) (i := 0) d_M_isFit_31 rfl rfl ?_
          refine r_getf (pc := 32) (ci := 12) (k := 66) (C := "CricketHayModel") (T := F_12) (N := 73) (v := .ref 416) (fun s => Std.k s (lc hn rfl) kq_383) rfl (Nat.le_of_ble_eq_true rfl) rfl w_1152 (fun s => vr rfl (Std.r s (lc hn rfl) rq_383_66)) d_M_isFit_32 ?_
          refine r_iload (pc := 35) d_M_isFit_35 rfl ?_
          refine r_gx (fun zq5 => ?_)
          refine r_iald (pc := 37) (n := 30) (i0 := (ix x5)) (fun s => Std.k s (lc hn rfl) kq_416) zq5 rfl d_M_isFit_37 ?_
          refine r_if_lt (pc := 38) (tgt := 55) d_M_isFit_38 (by rfl) ?_ ?_
          · exact r_wk (o_M_isFit_b55 hn ih x5 h) ⟨rfl, ⟨rfl, ⟨rfl, ⟨rfl, ⟨rfl, trivial⟩⟩⟩⟩⟩
          · refine r_aload_n (pc := 41) (i := 0) d_M_isFit_41 rfl rfl ?_
            refine r_getf (pc := 42) (ci := 12) (k := 66) (C := "CricketHayModel") (T := F_12) (N := 73) (v := .ref 416) (fun s => Std.k s (lc hn rfl) kq_383) rfl (Nat.le_of_ble_eq_true rfl) rfl w_1152 (fun s => vr rfl (Std.r s (lc hn rfl) rq_383_66)) d_M_isFit_42 ?_
            refine r_iload (pc := 45) d_M_isFit_45 rfl ?_
            refine r_gx (fun zq6 => ?_)
            refine r_iald (pc := 47) (n := 30) (i0 := (ix x5)) (fun s => Std.k s (lc hn rfl) kq_416) zq6 rfl d_M_isFit_47 ?_
            refine r_iload_n (pc := 48) (i := 3) d_M_isFit_48 rfl rfl ?_
            refine r_icmp_gt (pc := 49) (tgt := 55) d_M_isFit_49 (by rfl) ?_ ?_
            · exact r_wk (o_M_isFit_b55 hn ih x5 h) ⟨rfl, ⟨rfl, ⟨rfl, ⟨rfl, ⟨rfl, trivial⟩⟩⟩⟩⟩
            · refine r_goto (pc := 52) (tgt := 101) d_M_isFit_52 (by rfl) ?_
              refine r_ltE (fun xq7 exq7 => ?_)
              refine r_iinc (pc := 101) (v := xq7) (lv1 := [some (.ref 383), some (.int a1), some (.int a2), some (.int a3), some (.int x4), some (.int xq7)]) d_M_isFit_101 rfl exq7.symm (Nat.le_of_ble_eq_true rfl) rfl ?_
              refine r_goto (pc := 104) (tgt := 6) d_M_isFit_104 (by rfl) ?_
              exact r_wk (ih x4 xq7 h) ⟨rfl, ⟨rfl, ⟨rfl, ⟨rfl, ⟨rfl, ⟨rfl, trivial⟩⟩⟩⟩⟩⟩
def f_M_isFit  (a1 : Int32) (a2 : Int32) (a3 : Int32) (h : AH) : Option (Int32 × AH) :=
  f_M_isFit_l6 a1 a2 a3 FU (1 : Int32) (0 : Int32) h
set_option maxHeartbeats 2000000 in
theorem ok_M_isFit {G : AE} {n : Nat} (hn : NN ≤ n)  (a1 : Int32) (a2 : Int32) (a3 : Int32) (h : AH) : OK G n y_M_isFit (5) φI [.ref 383, .int a1, .int a2, .int a3] h (f_M_isFit a1 a2 a3 h) := by
  refine ok_of (y := y_M_isFit) (lv0 := [some (.ref 383), some (.int a1), some (.int a2), some (.int a3), none, none]) (by decide +kernel) (Nat.le_of_ble_eq_true rfl) ⟨rfl, ⟨rfl, ⟨rfl, ⟨rfl, trivial⟩⟩⟩⟩ ?_
  rw [f_M_isFit]
  refine r_iconst (pc := 0) (v := 1) d_M_isFit_0 (by rfl) ?_
  refine r_istore (pc := 1) (lv1 := [some (.ref 383), some (.int a1), some (.int a2), some (.int a3), some (.int (1 : Int32)), none]) d_M_isFit_1 (Nat.le_of_ble_eq_true rfl) rfl ?_
  refine r_iconst (pc := 3) (v := 0) d_M_isFit_3 (by rfl) ?_
  refine r_istore (pc := 4) (lv1 := [some (.ref 383), some (.int a1), some (.int a2), some (.int a3), some (.int (1 : Int32)), some (.int (0 : Int32))]) d_M_isFit_4 (Nat.le_of_ble_eq_true rfl) rfl ?_
  exact r_wk (o_M_isFit_l6 hn FU (1 : Int32) (0 : Int32) h) ⟨rfl, ⟨rfl, ⟨rfl, ⟨rfl, ⟨rfl, ⟨rfl, trivial⟩⟩⟩⟩⟩⟩

def f_M_layFits_l17  (a1 : Int32) (k8 : Int32 → Int32 → AH → Option (Int32 × AH)) : Nat → Int32 → Int32 → Int32 → AH → Option (Int32 × AH)
  | 0, _, _, _, _ => none
  | n + 1, x2, x3, x4, h =>
    if (10 : Int32) ≤ x4 then
      lt (x3 + (1 : Int32)) fun xq1 =>
      k8 x2 xq1 h
    else
      bI (f_M_isFit x3 x4 a1 h) fun rq2 hq3 =>
      gx (((10 : Int32) * x3) + x4) 100 <|
      lt (sI hq3 418 (ix (((10 : Int32) * x3) + x4)) (vp_nar .boolean rq2)) fun hq5 =>
      bI (f_M_truth rq2 hq5) fun rq6 hq7 =>
      lt (x2 + rq6) fun xq8 =>
      lt (x4 + (1 : Int32)) fun xq9 =>
      f_M_layFits_l17 a1 k8 n xq8 x3 xq9 hq7
set_option maxHeartbeats 2000000 in
theorem o_M_layFits_l17 {G : AE} {n : Nat} (hn : NN ≤ n)  {a1 : Int32}  {k8 : Int32 → Int32 → AH → Option (Int32 × AH)} (hk8 : ∀ (x2 : Int32) (x3 : Int32) (h : AH), AJ G n y_M_layFits (6) φI 8 [some (.ref 383), some (.int a1), some (.int x2), some (.int x3), none, none] [] h (k8 x2 x3 h)) : ∀ (n0 : Nat) (x2 : Int32) (x3 : Int32) (x4 : Int32) (h : AH), AJ G n y_M_layFits (6) φI 17 [some (.ref 383), some (.int a1), some (.int x2), some (.int x3), some (.int x4), none] [] h (f_M_layFits_l17 a1 k8 n0 x2 x3 x4 h) := by
  intro n0
  induction n0 with
  | zero => intros; exact r_none
  | succ n0 ih =>
    intro x2 x3 x4 h
    rw [f_M_layFits_l17]
    refine r_iload (pc := 17) d_M_layFits_17 rfl ?_
    refine r_bipush (pc := 19) (v := 10) d_M_layFits_19 (by rfl) ?_
    refine r_icmp_ge (pc := 21) (tgt := 62) d_M_layFits_21 (by rfl) ?_ ?_
    · refine r_ltE (fun xq1 exq1 => ?_)
      refine r_iinc (pc := 62) (v := xq1) (lv1 := [some (.ref 383), some (.int a1), some (.int x2), some (.int xq1), some (.int x4), none]) d_M_layFits_62 rfl exq1.symm (Nat.le_of_ble_eq_true rfl) rfl ?_
      refine r_goto (pc := 65) (tgt := 8) d_M_layFits_65 (by rfl) ?_
      exact r_wk (hk8 x2 xq1 h) ⟨rfl, ⟨rfl, ⟨rfl, ⟨rfl, trivial⟩⟩⟩⟩
    · refine r_aload_n (pc := 24) (i := 0) d_M_layFits_24 rfl rfl ?_
      refine r_iload_n (pc := 25) (i := 3) d_M_layFits_25 rfl rfl ?_
      refine r_iload (pc := 26) d_M_layFits_26 rfl ?_
      refine r_iload_n (pc := 28) (i := 1) d_M_layFits_28 rfl rfl ?_
      refine r_cVi (pc := 29) (T := F_12) (N := 73) (st := []) (ok_M_isFit hn x3 x4 a1 h) (fun s => Std.k s (lc hn rfl) kq_383) rfl w_1759 w_13 w_1756 w_1758 ws_109 hy_M_isFit ⟨Nat.le_of_ble_eq_true rfl, Nat.le_of_ble_eq_true rfl⟩ ⟨Nat.le_of_ble_eq_true rfl, Nat.le_of_ble_eq_true rfl⟩ rfl (Nat.le_of_ble_eq_true rfl) d_M_layFits_29 (fun rq2 hq3 => ?_)
      refine r_istore (pc := 32) (lv1 := [some (.ref 383), some (.int a1), some (.int x2), some (.int x3), some (.int x4), some (.int rq2)]) d_M_layFits_32 (Nat.le_of_ble_eq_true rfl) rfl ?_
      refine r_aload_n (pc := 34) (i := 0) d_M_layFits_34 rfl rfl ?_
      refine r_getf (pc := 35) (ci := 12) (k := 70) (C := "CricketHayModel") (T := F_12) (N := 73) (v := .ref 418) (fun s => Std.k s (lc hn rfl) kq_383) rfl (Nat.le_of_ble_eq_true rfl) rfl w_1156 (fun s => vr rfl (Std.r s (lc hn rfl) rq_383_70)) d_M_layFits_35 ?_
      refine r_bipush (pc := 38) (v := 10) d_M_layFits_38 (by rfl) ?_
      refine r_iload_n (pc := 40) (i := 3) d_M_layFits_40 rfl rfl ?_
      refine r_imul (pc := 41) d_M_layFits_41 ?_
      refine r_iload (pc := 42) d_M_layFits_42 rfl ?_
      refine r_iadd (pc := 44) d_M_layFits_44 ?_
      refine r_iload (pc := 45) d_M_layFits_45 rfl ?_
      refine r_gx (fun zq4 => ?_)
      refine r_zast (pc := 47) (n := 100) (i0 := (ix (((10 : Int32) * x3) + x4))) (fun s => Std.k s (lc hn rfl) kq_418) zq4 rfl (fun s => Std.sI s _ _ _) d_M_layFits_47 ?_
      refine r_ltH (fun hq5 => ?_)
      refine r_iload_n (pc := 48) (i := 2) d_M_layFits_48 rfl rfl ?_
      refine r_iload (pc := 49) d_M_layFits_49 rfl ?_
      refine r_cSi (pc := 51) (st := [.int x2]) (ok_M_truth hn rq2 hq5) w_1490 w_13 w_1488 w_1489 hy_M_truth ⟨Nat.le_of_ble_eq_true rfl, Nat.le_of_ble_eq_true rfl⟩ ⟨Nat.le_of_ble_eq_true rfl, Nat.le_of_ble_eq_true rfl⟩ rfl (Nat.le_of_ble_eq_true rfl) d_M_layFits_51 (fun rq6 hq7 => ?_)
      refine r_iadd (pc := 54) d_M_layFits_54 ?_
      refine r_ltI (fun xq8 => ?_)
      refine r_istore_n (pc := 55) (i := 2) (lv1 := [some (.ref 383), some (.int a1), some (.int xq8), some (.int x3), some (.int x4), some (.int rq2)]) d_M_layFits_55 rfl (Nat.le_of_ble_eq_true rfl) rfl ?_
      refine r_ltE (fun xq9 exq9 => ?_)
      refine r_iinc (pc := 56) (v := xq9) (lv1 := [some (.ref 383), some (.int a1), some (.int xq8), some (.int x3), some (.int xq9), some (.int rq2)]) d_M_layFits_56 rfl exq9.symm (Nat.le_of_ble_eq_true rfl) rfl ?_
      refine r_goto (pc := 59) (tgt := 17) d_M_layFits_59 (by rfl) ?_
      exact r_wk (ih xq8 x3 xq9 hq7) ⟨rfl, ⟨rfl, ⟨rfl, ⟨rfl, ⟨rfl, trivial⟩⟩⟩⟩⟩
def f_M_layFits_l8  (a1 : Int32)  : Nat → Int32 → Int32 → AH → Option (Int32 × AH)
  | 0, _, _, _ => none
  | n + 1, x2, x3, h =>
    if (10 : Int32) ≤ x3 then
      some (x2, h)
    else
      f_M_layFits_l17 a1 (f_M_layFits_l8 a1 n) FU x2 x3 (0 : Int32) h
set_option maxHeartbeats 2000000 in
theorem o_M_layFits_l8 {G : AE} {n : Nat} (hn : NN ≤ n)  {a1 : Int32}   : ∀ (n0 : Nat) (x2 : Int32) (x3 : Int32) (h : AH), AJ G n y_M_layFits (6) φI 8 [some (.ref 383), some (.int a1), some (.int x2), some (.int x3), none, none] [] h (f_M_layFits_l8 a1 n0 x2 x3 h) := by
  intro n0
  induction n0 with
  | zero => intros; exact r_none
  | succ n0 ih =>
    intro x2 x3 h
    rw [f_M_layFits_l8]
    refine r_iload_n (pc := 8) (i := 3) d_M_layFits_8 rfl rfl ?_
    refine r_bipush (pc := 9) (v := 10) d_M_layFits_9 (by rfl) ?_
    refine r_icmp_ge (pc := 11) (tgt := 68) d_M_layFits_11 (by rfl) ?_ ?_
    · refine r_iload_n (pc := 68) (i := 2) d_M_layFits_68 rfl rfl ?_
      exact r_iret (pc := 69) rfl d_M_layFits_69
    · refine r_iconst (pc := 14) (v := 0) d_M_layFits_14 (by rfl) ?_
      refine r_istore (pc := 15) (lv1 := [some (.ref 383), some (.int a1), some (.int x2), some (.int x3), some (.int (0 : Int32)), none]) d_M_layFits_15 (Nat.le_of_ble_eq_true rfl) rfl ?_
      exact r_wk (o_M_layFits_l17 hn ih FU x2 x3 (0 : Int32) h) ⟨rfl, ⟨rfl, ⟨rfl, ⟨rfl, ⟨rfl, trivial⟩⟩⟩⟩⟩
def f_M_layFits  (a1 : Int32) (h : AH) : Option (Int32 × AH) :=
  bV (f_M_load h) fun hq1 =>
  f_M_layFits_l8 a1 FU (0 : Int32) (0 : Int32) hq1
set_option maxHeartbeats 2000000 in
theorem ok_M_layFits {G : AE} {n : Nat} (hn : NN ≤ n)  (a1 : Int32) (h : AH) : OK G n y_M_layFits (6) φI [.ref 383, .int a1] h (f_M_layFits a1 h) := by
  refine ok_of (y := y_M_layFits) (lv0 := [some (.ref 383), some (.int a1), none, none, none, none]) (by decide +kernel) (Nat.le_of_ble_eq_true rfl) ⟨rfl, ⟨rfl, trivial⟩⟩ ?_
  rw [f_M_layFits]
  refine r_aload_n (pc := 0) (i := 0) d_M_layFits_0 rfl rfl ?_
  refine r_cVv (pc := 1) (T := F_12) (N := 73) (st := []) (ok_M_load hn h) (fun s => Std.k s (lc hn rfl) kq_383) rfl w_1483 w_13 w_1480 w_1482 ws_76 hy_M_load ⟨Nat.le_of_ble_eq_true rfl, Nat.le_of_ble_eq_true rfl⟩ ⟨Nat.le_of_ble_eq_true rfl, Nat.le_of_ble_eq_true rfl⟩ rfl (Nat.le_of_ble_eq_true rfl) d_M_layFits_1 (fun hq1 => ?_)
  refine r_iconst (pc := 4) (v := 0) d_M_layFits_4 (by rfl) ?_
  refine r_istore_n (pc := 5) (i := 2) (lv1 := [some (.ref 383), some (.int a1), some (.int (0 : Int32)), none, none, none]) d_M_layFits_5 rfl (Nat.le_of_ble_eq_true rfl) rfl ?_
  refine r_iconst (pc := 6) (v := 0) d_M_layFits_6 (by rfl) ?_
  refine r_istore_n (pc := 7) (i := 3) (lv1 := [some (.ref 383), some (.int a1), some (.int (0 : Int32)), some (.int (0 : Int32)), none, none]) d_M_layFits_7 rfl (Nat.le_of_ble_eq_true rfl) rfl ?_
  exact r_wk (o_M_layFits_l8 hn FU (0 : Int32) (0 : Int32) hq1) ⟨rfl, ⟨rfl, ⟨rfl, ⟨rfl, trivial⟩⟩⟩⟩

def f_M_fits  (a1 : Int32) (h : AH) : Option (Int32 × AH) :=
  bI (f_M_layFits a1 h) fun rq1 hq2 =>
  some (rq1, hq2)
set_option maxHeartbeats 2000000 in
theorem ok_M_fits {G : AE} {n : Nat} (hn : NN ≤ n)  (a1 : Int32) (h : AH) : OK G n y_M_fits (7) φI [.ref 383, .int a1] h (f_M_fits a1 h) := by
  refine ok_of (y := y_M_fits) (lv0 := [some (.ref 383), some (.int a1)]) (by decide +kernel) (Nat.le_of_ble_eq_true rfl) ⟨rfl, ⟨rfl, trivial⟩⟩ ?_
  rw [f_M_fits]
  refine r_aload_n (pc := 0) (i := 0) d_M_fits_0 rfl rfl ?_
  refine r_iload_n (pc := 1) (i := 1) d_M_fits_1 rfl rfl ?_
  refine r_cVi (pc := 2) (T := F_12) (N := 73) (st := []) (ok_M_layFits hn a1 h) (fun s => Std.k s (lc hn rfl) kq_383) rfl w_1755 w_13 w_1752 w_1754 ws_108 hy_M_layFits ⟨Nat.le_of_ble_eq_true rfl, Nat.le_of_ble_eq_true rfl⟩ ⟨Nat.le_of_ble_eq_true rfl, Nat.le_of_ble_eq_true rfl⟩ rfl (Nat.le_of_ble_eq_true rfl) d_M_fits_2 (fun rq1 hq2 => ?_)
  exact r_iret (pc := 5) rfl d_M_fits_5

def f_M_sure_b49  (a1 : Int32) (k14 : Int32 → Int32 → AH → Option (Int32 × AH)) (x3 : Int32) (x4 : Int32) (h : AH) : Option (Int32 × AH) :=
  lt (x3 + (1 : Int32)) fun xq1 =>
  k14 x4 xq1 h
set_option maxHeartbeats 2000000 in
theorem o_M_sure_b49 {G : AE} {n : Nat} (hn : NN ≤ n)  {a1 : Int32}  {k14 : Int32 → Int32 → AH → Option (Int32 × AH)} (hk14 : ∀ (x2 : Int32) (x3 : Int32) (h : AH), AJ G n y_M_sure (7) φI 14 [some (.ref 383), none, some (.int x2), some (.int x3), none] [] h (k14 x2 x3 h)) : ∀ (x3 : Int32) (x4 : Int32) (h : AH), AJ G n y_M_sure (7) φI 49 [some (.ref 383), none, none, some (.int x3), some (.int x4)] [] h (f_M_sure_b49 a1 k14 x3 x4 h) := by
  intro x3 x4 h
  rw [f_M_sure_b49]
  refine r_iload (pc := 49) d_M_sure_49 rfl ?_
  refine r_goto (pc := 51) (tgt := 56) d_M_sure_51 (by rfl) ?_
  refine r_istore_n (pc := 56) (i := 2) (lv1 := [some (.ref 383), none, some (.int x4), some (.int x3), some (.int x4)]) d_M_sure_56 rfl (Nat.le_of_ble_eq_true rfl) rfl ?_
  refine r_ltE (fun xq1 exq1 => ?_)
  refine r_iinc (pc := 57) (v := xq1) (lv1 := [some (.ref 383), none, some (.int x4), some (.int xq1), some (.int x4)]) d_M_sure_57 rfl exq1.symm (Nat.le_of_ble_eq_true rfl) rfl ?_
  refine r_goto (pc := 60) (tgt := 14) d_M_sure_60 (by rfl) ?_
  exact r_wk (hk14 x4 xq1 h) ⟨rfl, ⟨rfl, ⟨rfl, trivial⟩⟩⟩
def f_M_sure_l14  (a1 : Int32)  : Nat → Int32 → Int32 → AH → Option (Int32 × AH)
  | 0, _, _, _ => none
  | n + 1, x2, x3, h =>
    if (100 : Int32) ≤ x3 then
      some (x2, h)
    else
      gx x3 100 <|
      if ¬ (hI h 418 (ix x3)) = 0 then
        lt (x3 / (10 : Int32)) fun xq2 =>
        if x2 = (-1 : Int32) then
          f_M_sure_b49 a1 (f_M_sure_l14 a1 n) x3 xq2 h
        else
          if ¬ x2 = xq2 then
            lt (x3 + (1 : Int32)) fun xq3 =>
            f_M_sure_l14 a1 n (-2 : Int32) xq3 h
          else
            f_M_sure_b49 a1 (f_M_sure_l14 a1 n) x3 xq2 h
      else
        lt (x3 + (1 : Int32)) fun xq4 =>
        f_M_sure_l14 a1 n x2 xq4 h
set_option maxHeartbeats 2000000 in
theorem o_M_sure_l14 {G : AE} {n : Nat} (hn : NN ≤ n)  {a1 : Int32}   : ∀ (n0 : Nat) (x2 : Int32) (x3 : Int32) (h : AH), AJ G n y_M_sure (7) φI 14 [some (.ref 383), none, some (.int x2), some (.int x3), none] [] h (f_M_sure_l14 a1 n0 x2 x3 h) := by
  intro n0
  induction n0 with
  | zero => intros; exact r_none
  | succ n0 ih =>
    intro x2 x3 h
    rw [f_M_sure_l14]
    refine r_iload_n (pc := 14) (i := 3) d_M_sure_14 rfl rfl ?_
    refine r_bipush (pc := 15) (v := 100) d_M_sure_15 (by rfl) ?_
    refine r_icmp_ge (pc := 17) (tgt := 63) d_M_sure_17 (by rfl) ?_ ?_
    · refine r_iload_n (pc := 63) (i := 2) d_M_sure_63 rfl rfl ?_
      exact r_iret (pc := 64) rfl d_M_sure_64
    · refine r_aload_n (pc := 20) (i := 0) d_M_sure_20 rfl rfl ?_
      refine r_getf (pc := 21) (ci := 12) (k := 70) (C := "CricketHayModel") (T := F_12) (N := 73) (v := .ref 418) (fun s => Std.k s (lc hn rfl) kq_383) rfl (Nat.le_of_ble_eq_true rfl) rfl w_1156 (fun s => vr rfl (Std.r s (lc hn rfl) rq_383_70)) d_M_sure_21 ?_
      refine r_iload_n (pc := 24) (i := 3) d_M_sure_24 rfl rfl ?_
      refine r_gx (fun zq1 => ?_)
      refine r_zald (pc := 25) (n := 100) (i0 := (ix x3)) (fun s => Std.k s (lc hn rfl) kq_418) zq1 rfl d_M_sure_25 ?_
      refine r_if_ne (pc := 26) (tgt := 32) d_M_sure_26 (by rfl) ?_ ?_
      · refine r_iload_n (pc := 32) (i := 3) d_M_sure_32 rfl rfl ?_
        refine r_bipush (pc := 33) (v := 10) d_M_sure_33 (by rfl) ?_
        refine r_idivC (pc := 35) (by decide) d_M_sure_35 ?_
        refine r_ltI (fun xq2 => ?_)
        refine r_istore (pc := 36) (lv1 := [some (.ref 383), none, some (.int x2), some (.int x3), some (.int xq2)]) d_M_sure_36 (Nat.le_of_ble_eq_true rfl) rfl ?_
        refine r_iload_n (pc := 38) (i := 2) d_M_sure_38 rfl rfl ?_
        refine r_iconst (pc := 39) (v := -1) d_M_sure_39 (by rfl) ?_
        refine r_icmp_eq (pc := 40) (tgt := 49) d_M_sure_40 (by rfl) ?_ ?_
        · exact r_wk (o_M_sure_b49 hn ih x3 xq2 h) ⟨rfl, ⟨rfl, ⟨rfl, trivial⟩⟩⟩
        · refine r_iload_n (pc := 43) (i := 2) d_M_sure_43 rfl rfl ?_
          refine r_iload (pc := 44) d_M_sure_44 rfl ?_
          refine r_icmp_ne (pc := 46) (tgt := 54) d_M_sure_46 (by rfl) ?_ ?_
          · refine r_bipush (pc := 54) (v := -2) d_M_sure_54 (by rfl) ?_
            refine r_istore_n (pc := 56) (i := 2) (lv1 := [some (.ref 383), none, some (.int (-2 : Int32)), some (.int x3), some (.int xq2)]) d_M_sure_56 rfl (Nat.le_of_ble_eq_true rfl) rfl ?_
            refine r_ltE (fun xq3 exq3 => ?_)
            refine r_iinc (pc := 57) (v := xq3) (lv1 := [some (.ref 383), none, some (.int (-2 : Int32)), some (.int xq3), some (.int xq2)]) d_M_sure_57 rfl exq3.symm (Nat.le_of_ble_eq_true rfl) rfl ?_
            refine r_goto (pc := 60) (tgt := 14) d_M_sure_60 (by rfl) ?_
            exact r_wk (ih (-2 : Int32) xq3 h) ⟨rfl, ⟨rfl, ⟨rfl, trivial⟩⟩⟩
          · exact r_wk (o_M_sure_b49 hn ih x3 xq2 h) ⟨rfl, ⟨rfl, ⟨rfl, trivial⟩⟩⟩
      · refine r_goto (pc := 29) (tgt := 57) d_M_sure_29 (by rfl) ?_
        refine r_ltE (fun xq4 exq4 => ?_)
        refine r_iinc (pc := 57) (v := xq4) (lv1 := [some (.ref 383), none, some (.int x2), some (.int xq4), none]) d_M_sure_57 rfl exq4.symm (Nat.le_of_ble_eq_true rfl) rfl ?_
        refine r_goto (pc := 60) (tgt := 14) d_M_sure_60 (by rfl) ?_
        exact r_wk (ih x2 xq4 h) ⟨rfl, ⟨rfl, ⟨rfl, trivial⟩⟩⟩
def f_M_sure  (a1 : Int32) (h : AH) : Option (Int32 × AH) :=
  bI (f_M_layFits a1 h) fun rq1 hq2 =>
  if ¬ rq1 = 0 then
    f_M_sure_l14 a1 FU (-1 : Int32) (0 : Int32) hq2
  else
    some ((-1 : Int32), hq2)
set_option maxHeartbeats 2000000 in
theorem ok_M_sure {G : AE} {n : Nat} (hn : NN ≤ n)  (a1 : Int32) (h : AH) : OK G n y_M_sure (7) φI [.ref 383, .int a1] h (f_M_sure a1 h) := by
  refine ok_of (y := y_M_sure) (lv0 := [some (.ref 383), some (.int a1), none, none, none]) (by decide +kernel) (Nat.le_of_ble_eq_true rfl) ⟨rfl, ⟨rfl, trivial⟩⟩ ?_
  rw [f_M_sure]
  refine r_aload_n (pc := 0) (i := 0) d_M_sure_0 rfl rfl ?_
  refine r_iload_n (pc := 1) (i := 1) d_M_sure_1 rfl rfl ?_
  refine r_cVi (pc := 2) (T := F_12) (N := 73) (st := []) (ok_M_layFits hn a1 h) (fun s => Std.k s (lc hn rfl) kq_383) rfl w_1755 w_13 w_1752 w_1754 ws_108 hy_M_layFits ⟨Nat.le_of_ble_eq_true rfl, Nat.le_of_ble_eq_true rfl⟩ ⟨Nat.le_of_ble_eq_true rfl, Nat.le_of_ble_eq_true rfl⟩ rfl (Nat.le_of_ble_eq_true rfl) d_M_sure_2 (fun rq1 hq2 => ?_)
  refine r_if_ne (pc := 5) (tgt := 10) d_M_sure_5 (by rfl) ?_ ?_
  · refine r_iconst (pc := 10) (v := -1) d_M_sure_10 (by rfl) ?_
    refine r_istore_n (pc := 11) (i := 2) (lv1 := [some (.ref 383), some (.int a1), some (.int (-1 : Int32)), none, none]) d_M_sure_11 rfl (Nat.le_of_ble_eq_true rfl) rfl ?_
    refine r_iconst (pc := 12) (v := 0) d_M_sure_12 (by rfl) ?_
    refine r_istore_n (pc := 13) (i := 3) (lv1 := [some (.ref 383), some (.int a1), some (.int (-1 : Int32)), some (.int (0 : Int32)), none]) d_M_sure_13 rfl (Nat.le_of_ble_eq_true rfl) rfl ?_
    exact r_wk (o_M_sure_l14 hn FU (-1 : Int32) (0 : Int32) hq2) ⟨rfl, ⟨rfl, ⟨rfl, trivial⟩⟩⟩
  · refine r_iconst (pc := 8) (v := -1) d_M_sure_8 (by rfl) ?_
    exact r_iret (pc := 9) rfl d_M_sure_9

def f_M_loudAt_b48  (a1 : Int32) (a2 : Int32) (k5 : Int32 → Int32 → AH → Option (Int32 × AH)) (x4 : Int32) (v0 : Int32) (v1 : Int32) (h : AH) : Option (Int32 × AH) :=
  bI (f_M_truth v1 h) fun rq1 hq2 =>
  lt (v0 + rq1) fun xq3 =>
  lt (x4 + (1 : Int32)) fun xq4 =>
  k5 xq3 xq4 hq2
set_option maxHeartbeats 2000000 in
theorem o_M_loudAt_b48 {G : AE} {n : Nat} (hn : NN ≤ n)  {a1 : Int32} {a2 : Int32}  {k5 : Int32 → Int32 → AH → Option (Int32 × AH)} (hk5 : ∀ (x3 : Int32) (x4 : Int32) (h : AH), AJ G n y_M_loudAt (5) φI 5 [some (.ref 383), some (.int a1), some (.int a2), some (.int x3), some (.int x4)] [] h (k5 x3 x4 h)) : ∀ (x4 : Int32) (v0 : Int32) (v1 : Int32) (h : AH), AJ G n y_M_loudAt (5) φI 48 [some (.ref 383), some (.int a1), some (.int a2), none, some (.int x4)] [.int v1, .int v0] h (f_M_loudAt_b48 a1 a2 k5 x4 v0 v1 h) := by
  intro x4 v0 v1 h
  rw [f_M_loudAt_b48]
  refine r_cSi (pc := 48) (st := [.int v0]) (ok_M_truth hn v1 h) w_1490 w_13 w_1488 w_1489 hy_M_truth ⟨Nat.le_of_ble_eq_true rfl, Nat.le_of_ble_eq_true rfl⟩ ⟨Nat.le_of_ble_eq_true rfl, Nat.le_of_ble_eq_true rfl⟩ rfl (Nat.le_of_ble_eq_true rfl) d_M_loudAt_48 (fun rq1 hq2 => ?_)
  refine r_iadd (pc := 51) d_M_loudAt_51 ?_
  refine r_ltI (fun xq3 => ?_)
  refine r_istore_n (pc := 52) (i := 3) (lv1 := [some (.ref 383), some (.int a1), some (.int a2), some (.int xq3), some (.int x4)]) d_M_loudAt_52 rfl (Nat.le_of_ble_eq_true rfl) rfl ?_
  refine r_ltE (fun xq4 exq4 => ?_)
  refine r_iinc (pc := 53) (v := xq4) (lv1 := [some (.ref 383), some (.int a1), some (.int a2), some (.int xq3), some (.int xq4)]) d_M_loudAt_53 rfl exq4.symm (Nat.le_of_ble_eq_true rfl) rfl ?_
  refine r_goto (pc := 56) (tgt := 5) d_M_loudAt_56 (by rfl) ?_
  exact r_wk (hk5 xq3 xq4 hq2) ⟨rfl, ⟨rfl, ⟨rfl, ⟨rfl, ⟨rfl, trivial⟩⟩⟩⟩⟩
def f_M_loudAt_b47  (a1 : Int32) (a2 : Int32) (k5 : Int32 → Int32 → AH → Option (Int32 × AH)) (x4 : Int32) (v0 : Int32) (h : AH) : Option (Int32 × AH) :=
  f_M_loudAt_b48 a1 a2 k5 x4 v0 (0 : Int32) h
set_option maxHeartbeats 2000000 in
theorem o_M_loudAt_b47 {G : AE} {n : Nat} (hn : NN ≤ n)  {a1 : Int32} {a2 : Int32}  {k5 : Int32 → Int32 → AH → Option (Int32 × AH)} (hk5 : ∀ (x3 : Int32) (x4 : Int32) (h : AH), AJ G n y_M_loudAt (5) φI 5 [some (.ref 383), some (.int a1), some (.int a2), some (.int x3), some (.int x4)] [] h (k5 x3 x4 h)) : ∀ (x4 : Int32) (v0 : Int32) (h : AH), AJ G n y_M_loudAt (5) φI 47 [some (.ref 383), some (.int a1), some (.int a2), none, some (.int x4)] [.int v0] h (f_M_loudAt_b47 a1 a2 k5 x4 v0 h) := by
  intro x4 v0 h
  rw [f_M_loudAt_b47]
  refine r_iconst (pc := 47) (v := 0) d_M_loudAt_47 (by rfl) ?_
  exact r_wk (o_M_loudAt_b48 hn hk5 x4 v0 (0 : Int32) h) ⟨rfl, ⟨rfl, ⟨rfl, ⟨rfl, trivial⟩⟩⟩⟩
def f_M_loudAt_l5  (a1 : Int32) (a2 : Int32)  : Nat → Int32 → Int32 → AH → Option (Int32 × AH)
  | 0, _, _, _ => none
  | n + 1, x3, x4, h =>
    if (100 : Int32) ≤ x4 then
      some (x3, h)
    else
      gx x4 100 <|
      if (hI h 418 (ix x4)) = 0 then
        f_M_loudAt_b47 a1 a2 (f_M_loudAt_l5 a1 a2 n) x4 x3 h
      else
        bI (f_M_chirpsAt a1 (x4 / (10 : Int32)) (x4 - x4 / (10 : Int32) * (10 : Int32)) (0 : Int32) h) fun rq2 hq3 =>
        if rq2 < a2 then
          f_M_loudAt_b47 a1 a2 (f_M_loudAt_l5 a1 a2 n) x4 x3 hq3
        else
          f_M_loudAt_b48 a1 a2 (f_M_loudAt_l5 a1 a2 n) x4 x3 (1 : Int32) hq3
set_option maxHeartbeats 2000000 in
theorem o_M_loudAt_l5 {G : AE} {n : Nat} (hn : NN ≤ n)  {a1 : Int32} {a2 : Int32}   : ∀ (n0 : Nat) (x3 : Int32) (x4 : Int32) (h : AH), AJ G n y_M_loudAt (5) φI 5 [some (.ref 383), some (.int a1), some (.int a2), some (.int x3), some (.int x4)] [] h (f_M_loudAt_l5 a1 a2 n0 x3 x4 h) := by
  intro n0
  induction n0 with
  | zero => intros; exact r_none
  | succ n0 ih =>
    intro x3 x4 h
    rw [f_M_loudAt_l5]
    refine r_iload (pc := 5) d_M_loudAt_5 rfl ?_
    refine r_bipush (pc := 7) (v := 100) d_M_loudAt_7 (by rfl) ?_
    refine r_icmp_ge (pc := 9) (tgt := 59) d_M_loudAt_9 (by rfl) ?_ ?_
    · refine r_iload_n (pc := 59) (i := 3) d_M_loudAt_59 rfl rfl ?_
      exact r_iret (pc := 60) rfl d_M_loudAt_60
    · refine r_iload_n (pc := 12) (i := 3) d_M_loudAt_12 rfl rfl ?_
      refine r_aload_n (pc := 13) (i := 0) d_M_loudAt_13 rfl rfl ?_
      refine r_getf (pc := 14) (ci := 12) (k := 70) (C := "CricketHayModel") (T := F_12) (N := 73) (v := .ref 418) (fun s => Std.k s (lc hn rfl) kq_383) rfl (Nat.le_of_ble_eq_true rfl) rfl w_1156 (fun s => vr rfl (Std.r s (lc hn rfl) rq_383_70)) d_M_loudAt_14 ?_
      refine r_iload (pc := 17) d_M_loudAt_17 rfl ?_
      refine r_gx (fun zq1 => ?_)
      refine r_zald (pc := 19) (n := 100) (i0 := (ix x4)) (fun s => Std.k s (lc hn rfl) kq_418) zq1 rfl d_M_loudAt_19 ?_
      refine r_if_eq (pc := 20) (tgt := 47) d_M_loudAt_20 (by rfl) ?_ ?_
      · exact r_wk (o_M_loudAt_b47 hn ih x4 x3 h) ⟨rfl, ⟨rfl, ⟨rfl, ⟨rfl, trivial⟩⟩⟩⟩
      · refine r_aload_n (pc := 23) (i := 0) d_M_loudAt_23 rfl rfl ?_
        refine r_iload_n (pc := 24) (i := 1) d_M_loudAt_24 rfl rfl ?_
        refine r_iload (pc := 25) d_M_loudAt_25 rfl ?_
        refine r_bipush (pc := 27) (v := 10) d_M_loudAt_27 (by rfl) ?_
        refine r_idivC (pc := 29) (by decide) d_M_loudAt_29 ?_
        refine r_iload (pc := 30) d_M_loudAt_30 rfl ?_
        refine r_bipush (pc := 32) (v := 10) d_M_loudAt_32 (by rfl) ?_
        refine r_iremC (pc := 34) (by decide) d_M_loudAt_34 ?_
        refine r_iconst (pc := 35) (v := 0) d_M_loudAt_35 (by rfl) ?_
        refine r_cVi (pc := 36) (T := F_12) (N := 73) (st := [.int x3]) (ok_M_chirpsAt hn a1 (x4 / (10 : Int32)) (x4 - x4 / (10 : Int32) * (10 : Int32)) (0 : Int32) h) (fun s => Std.k s (lc hn rfl) kq_383) rfl w_1520 w_13 w_1517 w_1519 ws_83 hy_M_chirpsAt ⟨Nat.le_of_ble_eq_true rfl, Nat.le_of_ble_eq_true rfl⟩ ⟨Nat.le_of_ble_eq_true rfl, Nat.le_of_ble_eq_true rfl⟩ rfl (Nat.le_of_ble_eq_true rfl) d_M_loudAt_36 (fun rq2 hq3 => ?_)
        refine r_iload_n (pc := 39) (i := 2) d_M_loudAt_39 rfl rfl ?_
        refine r_icmp_lt (pc := 40) (tgt := 47) d_M_loudAt_40 (by rfl) ?_ ?_
        · exact r_wk (o_M_loudAt_b47 hn ih x4 x3 hq3) ⟨rfl, ⟨rfl, ⟨rfl, ⟨rfl, trivial⟩⟩⟩⟩
        · refine r_iconst (pc := 43) (v := 1) d_M_loudAt_43 (by rfl) ?_
          refine r_goto (pc := 44) (tgt := 48) d_M_loudAt_44 (by rfl) ?_
          exact r_wk (o_M_loudAt_b48 hn ih x4 x3 (1 : Int32) hq3) ⟨rfl, ⟨rfl, ⟨rfl, ⟨rfl, trivial⟩⟩⟩⟩
def f_M_loudAt  (a1 : Int32) (a2 : Int32) (h : AH) : Option (Int32 × AH) :=
  f_M_loudAt_l5 a1 a2 FU (0 : Int32) (0 : Int32) h
set_option maxHeartbeats 2000000 in
theorem ok_M_loudAt {G : AE} {n : Nat} (hn : NN ≤ n)  (a1 : Int32) (a2 : Int32) (h : AH) : OK G n y_M_loudAt (5) φI [.ref 383, .int a1, .int a2] h (f_M_loudAt a1 a2 h) := by
  refine ok_of (y := y_M_loudAt) (lv0 := [some (.ref 383), some (.int a1), some (.int a2), none, none]) (by decide +kernel) (Nat.le_of_ble_eq_true rfl) ⟨rfl, ⟨rfl, ⟨rfl, trivial⟩⟩⟩ ?_
  rw [f_M_loudAt]
  refine r_iconst (pc := 0) (v := 0) d_M_loudAt_0 (by rfl) ?_
  refine r_istore_n (pc := 1) (i := 3) (lv1 := [some (.ref 383), some (.int a1), some (.int a2), some (.int (0 : Int32)), none]) d_M_loudAt_1 rfl (Nat.le_of_ble_eq_true rfl) rfl ?_
  refine r_iconst (pc := 2) (v := 0) d_M_loudAt_2 (by rfl) ?_
  refine r_istore (pc := 3) (lv1 := [some (.ref 383), some (.int a1), some (.int a2), some (.int (0 : Int32)), some (.int (0 : Int32))]) d_M_loudAt_3 (Nat.le_of_ble_eq_true rfl) rfl ?_
  exact r_wk (o_M_loudAt_l5 hn FU (0 : Int32) (0 : Int32) h) ⟨rfl, ⟨rfl, ⟨rfl, ⟨rfl, ⟨rfl, trivial⟩⟩⟩⟩⟩

def f_M_ask_b107  (a1 : Int32) (a2 : Int32) (a3 : Int32)  (x5 : Int32) (x6 : Int32) (h : AH) : Option (Int32 × AH) :=
  if 0 ≤ x5 then
    if ¬ a2 = 0 then
      some (x6, h)
    else
      some (x5, h)
  else
    some ((-1 : Int32), h)
set_option maxHeartbeats 2000000 in
theorem o_M_ask_b107 {G : AE} {n : Nat} (hn : NN ≤ n)  {a1 : Int32} {a2 : Int32} {a3 : Int32}   : ∀ (x5 : Int32) (x6 : Int32) (h : AH), AJ G n y_M_ask (7) φI 107 [none, none, some (.int a2), none, none, some (.int x5), some (.int x6), none, none, none] [] h (f_M_ask_b107 a1 a2 a3 x5 x6 h) := by
  intro x5 x6 h
  rw [f_M_ask_b107]
  refine r_iload (pc := 107) d_M_ask_107 rfl ?_
  refine r_if_ge (pc := 109) (tgt := 116) d_M_ask_109 (by rfl) ?_ ?_
  · refine r_iload_n (pc := 116) (i := 2) d_M_ask_116 rfl rfl ?_
    refine r_if_ne (pc := 117) (tgt := 125) d_M_ask_117 (by rfl) ?_ ?_
    · refine r_iload (pc := 125) d_M_ask_125 rfl ?_
      exact r_iret (pc := 127) rfl d_M_ask_127
    · refine r_iload (pc := 120) d_M_ask_120 rfl ?_
      refine r_goto (pc := 122) (tgt := 127) d_M_ask_122 (by rfl) ?_
      exact r_iret (pc := 127) rfl d_M_ask_127
  · refine r_iconst (pc := 112) (v := -1) d_M_ask_112 (by rfl) ?_
    refine r_goto (pc := 113) (tgt := 127) d_M_ask_113 (by rfl) ?_
    exact r_iret (pc := 127) rfl d_M_ask_127
def f_M_ask_b81  (a1 : Int32) (a2 : Int32) (a3 : Int32) (k40 : Int32 → Int32 → Int32 → Int32 → AH → Option (Int32 × AH)) (x4 : Int32) (x5 : Int32) (x6 : Int32) (x7 : Int32) (v0 : Int32) (h : AH) : Option (Int32 × AH) :=
  if v0 < x6 then
    lt (x7 + (1 : Int32)) fun xq1 =>
    k40 x4 x7 v0 xq1 h
  else
    lt (x7 + (1 : Int32)) fun xq2 =>
    k40 x4 x5 x6 xq2 h
set_option maxHeartbeats 2000000 in
theorem o_M_ask_b81 {G : AE} {n : Nat} (hn : NN ≤ n)  {a1 : Int32} {a2 : Int32} {a3 : Int32}  {k40 : Int32 → Int32 → Int32 → Int32 → AH → Option (Int32 × AH)} (hk40 : ∀ (x4 : Int32) (x5 : Int32) (x6 : Int32) (x7 : Int32) (h : AH), AJ G n y_M_ask (7) φI 40 [some (.ref 383), some (.int a1), some (.int a2), none, some (.int x4), some (.int x5), some (.int x6), some (.int x7), none, none] [] h (k40 x4 x5 x6 x7 h)) : ∀ (x4 : Int32) (x5 : Int32) (x6 : Int32) (x7 : Int32) (v0 : Int32) (h : AH), AJ G n y_M_ask (7) φI 81 [some (.ref 383), some (.int a1), some (.int a2), none, some (.int x4), some (.int x5), some (.int x6), some (.int x7), none, none] [.int v0] h (f_M_ask_b81 a1 a2 a3 k40 x4 x5 x6 x7 v0 h) := by
  intro x4 x5 x6 x7 v0 h
  rw [f_M_ask_b81]
  refine r_istore (pc := 81) (lv1 := [some (.ref 383), some (.int a1), some (.int a2), none, some (.int x4), some (.int x5), some (.int x6), some (.int x7), none, some (.int v0)]) d_M_ask_81 (Nat.le_of_ble_eq_true rfl) rfl ?_
  refine r_iload (pc := 83) d_M_ask_83 rfl ?_
  refine r_iload (pc := 85) d_M_ask_85 rfl ?_
  refine r_icmp_lt (pc := 87) (tgt := 93) d_M_ask_87 (by rfl) ?_ ?_
  · refine r_iload (pc := 93) d_M_ask_93 rfl ?_
    refine r_istore (pc := 95) (lv1 := [some (.ref 383), some (.int a1), some (.int a2), none, some (.int x4), some (.int x7), some (.int x6), some (.int x7), none, some (.int v0)]) d_M_ask_95 (Nat.le_of_ble_eq_true rfl) rfl ?_
    refine r_iload (pc := 97) d_M_ask_97 rfl ?_
    refine r_istore (pc := 99) (lv1 := [some (.ref 383), some (.int a1), some (.int a2), none, some (.int x4), some (.int x7), some (.int v0), some (.int x7), none, some (.int v0)]) d_M_ask_99 (Nat.le_of_ble_eq_true rfl) rfl ?_
    refine r_ltE (fun xq1 exq1 => ?_)
    refine r_iinc (pc := 101) (v := xq1) (lv1 := [some (.ref 383), some (.int a1), some (.int a2), none, some (.int x4), some (.int x7), some (.int v0), some (.int xq1), none, some (.int v0)]) d_M_ask_101 rfl exq1.symm (Nat.le_of_ble_eq_true rfl) rfl ?_
    refine r_goto (pc := 104) (tgt := 40) d_M_ask_104 (by rfl) ?_
    exact r_wk (hk40 x4 x7 v0 xq1 h) ⟨rfl, ⟨rfl, ⟨rfl, ⟨rfl, ⟨rfl, ⟨rfl, ⟨rfl, trivial⟩⟩⟩⟩⟩⟩⟩
  · refine r_goto (pc := 90) (tgt := 101) d_M_ask_90 (by rfl) ?_
    refine r_ltE (fun xq2 exq2 => ?_)
    refine r_iinc (pc := 101) (v := xq2) (lv1 := [some (.ref 383), some (.int a1), some (.int a2), none, some (.int x4), some (.int x5), some (.int x6), some (.int xq2), none, some (.int v0)]) d_M_ask_101 rfl exq2.symm (Nat.le_of_ble_eq_true rfl) rfl ?_
    refine r_goto (pc := 104) (tgt := 40) d_M_ask_104 (by rfl) ?_
    exact r_wk (hk40 x4 x5 x6 xq2 h) ⟨rfl, ⟨rfl, ⟨rfl, ⟨rfl, ⟨rfl, ⟨rfl, ⟨rfl, trivial⟩⟩⟩⟩⟩⟩⟩
def f_M_ask_l40  (a1 : Int32) (a2 : Int32) (a3 : Int32)  : Nat → Int32 → Int32 → Int32 → Int32 → AH → Option (Int32 × AH)
  | 0, _, _, _, _, _ => none
  | n + 1, x4, x5, x6, x7, h =>
    if (40 : Int32) < x7 then
      f_M_ask_b107 a1 a2 a3 x5 x6 h
    else
      if x4 ≤ 0 then
        f_M_ask_b107 a1 a2 a3 x5 x6 h
      else
        bI (f_M_loudAt x7 a1 h) fun rq1 hq2 =>
        if rq1 ≤ (x4 - rq1) then
          f_M_ask_b81 a1 a2 a3 (f_M_ask_l40 a1 a2 a3 n) x4 x5 x6 x7 (x4 - rq1) hq2
        else
          f_M_ask_b81 a1 a2 a3 (f_M_ask_l40 a1 a2 a3 n) x4 x5 x6 x7 rq1 hq2
set_option maxHeartbeats 2000000 in
theorem o_M_ask_l40 {G : AE} {n : Nat} (hn : NN ≤ n)  {a1 : Int32} {a2 : Int32} {a3 : Int32}   : ∀ (n0 : Nat) (x4 : Int32) (x5 : Int32) (x6 : Int32) (x7 : Int32) (h : AH), AJ G n y_M_ask (7) φI 40 [some (.ref 383), some (.int a1), some (.int a2), none, some (.int x4), some (.int x5), some (.int x6), some (.int x7), none, none] [] h (f_M_ask_l40 a1 a2 a3 n0 x4 x5 x6 x7 h) := by
  intro n0
  induction n0 with
  | zero => intros; exact r_none
  | succ n0 ih =>
    intro x4 x5 x6 x7 h
    rw [f_M_ask_l40]
    refine r_iload (pc := 40) d_M_ask_40 rfl ?_
    refine r_bipush (pc := 42) (v := 40) d_M_ask_42 (by rfl) ?_
    refine r_icmp_gt (pc := 44) (tgt := 107) d_M_ask_44 (by rfl) ?_ ?_
    · exact r_wk (o_M_ask_b107 hn x5 x6 h) ⟨rfl, ⟨rfl, ⟨rfl, trivial⟩⟩⟩
    · refine r_iload (pc := 47) d_M_ask_47 rfl ?_
      refine r_if_le (pc := 49) (tgt := 107) d_M_ask_49 (by rfl) ?_ ?_
      · exact r_wk (o_M_ask_b107 hn x5 x6 h) ⟨rfl, ⟨rfl, ⟨rfl, trivial⟩⟩⟩
      · refine r_aload_n (pc := 52) (i := 0) d_M_ask_52 rfl rfl ?_
        refine r_iload (pc := 53) d_M_ask_53 rfl ?_
        refine r_iload_n (pc := 55) (i := 1) d_M_ask_55 rfl rfl ?_
        refine r_cVi (pc := 56) (T := F_12) (N := 73) (st := []) (ok_M_loudAt hn x7 a1 h) (fun s => Std.k s (lc hn rfl) kq_383) rfl w_1771 w_13 w_1768 w_1770 ws_110 hy_M_loudAt ⟨Nat.le_of_ble_eq_true rfl, Nat.le_of_ble_eq_true rfl⟩ ⟨Nat.le_of_ble_eq_true rfl, Nat.le_of_ble_eq_true rfl⟩ rfl (Nat.le_of_ble_eq_true rfl) d_M_ask_56 (fun rq1 hq2 => ?_)
        refine r_istore (pc := 59) (lv1 := [some (.ref 383), some (.int a1), some (.int a2), none, some (.int x4), some (.int x5), some (.int x6), some (.int x7), some (.int rq1), none]) d_M_ask_59 (Nat.le_of_ble_eq_true rfl) rfl ?_
        refine r_iload (pc := 61) d_M_ask_61 rfl ?_
        refine r_iload (pc := 63) d_M_ask_63 rfl ?_
        refine r_iload (pc := 65) d_M_ask_65 rfl ?_
        refine r_isub (pc := 67) d_M_ask_67 ?_
        refine r_icmp_le (pc := 68) (tgt := 76) d_M_ask_68 (by rfl) ?_ ?_
        · refine r_iload (pc := 76) d_M_ask_76 rfl ?_
          refine r_iload (pc := 78) d_M_ask_78 rfl ?_
          refine r_isub (pc := 80) d_M_ask_80 ?_
          exact r_wk (o_M_ask_b81 hn ih x4 x5 x6 x7 (x4 - rq1) hq2) ⟨rfl, ⟨rfl, ⟨rfl, ⟨rfl, ⟨rfl, ⟨rfl, ⟨rfl, trivial⟩⟩⟩⟩⟩⟩⟩
        · refine r_iload (pc := 71) d_M_ask_71 rfl ?_
          refine r_goto (pc := 73) (tgt := 81) d_M_ask_73 (by rfl) ?_
          exact r_wk (o_M_ask_b81 hn ih x4 x5 x6 x7 rq1 hq2) ⟨rfl, ⟨rfl, ⟨rfl, ⟨rfl, ⟨rfl, ⟨rfl, ⟨rfl, trivial⟩⟩⟩⟩⟩⟩⟩
def f_M_ask  (a1 : Int32) (a2 : Int32) (a3 : Int32) (h : AH) : Option (Int32 × AH) :=
  bI (f_M_isIn a1 (0 : Int32) (99 : Int32) h) fun rq1 hq2 =>
  if rq1 = 0 then
    some ((-1 : Int32), hq2)
  else
    bI (f_M_isIn a2 (0 : Int32) (1 : Int32) hq2) fun rq3 hq4 =>
    if ¬ rq3 = 0 then
      bI (f_M_layFits a3 hq4) fun rq5 hq6 =>
      lt (rq5 + (1 : Int32)) fun xq7 =>
      f_M_ask_l40 a1 a2 a3 FU rq5 (-1 : Int32) xq7 (0 : Int32) hq6
    else
      some ((-1 : Int32), hq4)
set_option maxHeartbeats 2000000 in
theorem ok_M_ask {G : AE} {n : Nat} (hn : NN ≤ n)  (a1 : Int32) (a2 : Int32) (a3 : Int32) (h : AH) : OK G n y_M_ask (7) φI [.ref 383, .int a1, .int a2, .int a3] h (f_M_ask a1 a2 a3 h) := by
  refine ok_of (y := y_M_ask) (lv0 := [some (.ref 383), some (.int a1), some (.int a2), some (.int a3), none, none, none, none, none, none]) (by decide +kernel) (Nat.le_of_ble_eq_true rfl) ⟨rfl, ⟨rfl, ⟨rfl, ⟨rfl, trivial⟩⟩⟩⟩ ?_
  rw [f_M_ask]
  refine r_iload_n (pc := 0) (i := 1) d_M_ask_0 rfl rfl ?_
  refine r_iconst (pc := 1) (v := 0) d_M_ask_1 (by rfl) ?_
  refine r_bipush (pc := 2) (v := 99) d_M_ask_2 (by rfl) ?_
  refine r_cSi (pc := 4) (st := []) (ok_M_isIn hn a1 (0 : Int32) (99 : Int32) h) w_1479 w_13 w_1477 w_1478 hy_M_isIn ⟨Nat.le_of_ble_eq_true rfl, Nat.le_of_ble_eq_true rfl⟩ ⟨Nat.le_of_ble_eq_true rfl, Nat.le_of_ble_eq_true rfl⟩ rfl (Nat.le_of_ble_eq_true rfl) d_M_ask_4 (fun rq1 hq2 => ?_)
  refine r_if_eq (pc := 7) (tgt := 19) d_M_ask_7 (by rfl) ?_ ?_
  · refine r_iconst (pc := 19) (v := -1) d_M_ask_19 (by rfl) ?_
    exact r_iret (pc := 20) rfl d_M_ask_20
  · refine r_iload_n (pc := 10) (i := 2) d_M_ask_10 rfl rfl ?_
    refine r_iconst (pc := 11) (v := 0) d_M_ask_11 (by rfl) ?_
    refine r_iconst (pc := 12) (v := 1) d_M_ask_12 (by rfl) ?_
    refine r_cSi (pc := 13) (st := []) (ok_M_isIn hn a2 (0 : Int32) (1 : Int32) hq2) w_1479 w_13 w_1477 w_1478 hy_M_isIn ⟨Nat.le_of_ble_eq_true rfl, Nat.le_of_ble_eq_true rfl⟩ ⟨Nat.le_of_ble_eq_true rfl, Nat.le_of_ble_eq_true rfl⟩ rfl (Nat.le_of_ble_eq_true rfl) d_M_ask_13 (fun rq3 hq4 => ?_)
    refine r_if_ne (pc := 16) (tgt := 21) d_M_ask_16 (by rfl) ?_ ?_
    · refine r_aload_n (pc := 21) (i := 0) d_M_ask_21 rfl rfl ?_
      refine r_iload_n (pc := 22) (i := 3) d_M_ask_22 rfl rfl ?_
      refine r_cVi (pc := 23) (T := F_12) (N := 73) (st := []) (ok_M_layFits hn a3 hq4) (fun s => Std.k s (lc hn rfl) kq_383) rfl w_1755 w_13 w_1752 w_1754 ws_108 hy_M_layFits ⟨Nat.le_of_ble_eq_true rfl, Nat.le_of_ble_eq_true rfl⟩ ⟨Nat.le_of_ble_eq_true rfl, Nat.le_of_ble_eq_true rfl⟩ rfl (Nat.le_of_ble_eq_true rfl) d_M_ask_23 (fun rq5 hq6 => ?_)
      refine r_istore (pc := 26) (lv1 := [some (.ref 383), some (.int a1), some (.int a2), some (.int a3), some (.int rq5), none, none, none, none, none]) d_M_ask_26 (Nat.le_of_ble_eq_true rfl) rfl ?_
      refine r_iconst (pc := 28) (v := -1) d_M_ask_28 (by rfl) ?_
      refine r_istore (pc := 29) (lv1 := [some (.ref 383), some (.int a1), some (.int a2), some (.int a3), some (.int rq5), some (.int (-1 : Int32)), none, none, none, none]) d_M_ask_29 (Nat.le_of_ble_eq_true rfl) rfl ?_
      refine r_iload (pc := 31) d_M_ask_31 rfl ?_
      refine r_iconst (pc := 33) (v := 1) d_M_ask_33 (by rfl) ?_
      refine r_iadd (pc := 34) d_M_ask_34 ?_
      refine r_ltI (fun xq7 => ?_)
      refine r_istore (pc := 35) (lv1 := [some (.ref 383), some (.int a1), some (.int a2), some (.int a3), some (.int rq5), some (.int (-1 : Int32)), some (.int xq7), none, none, none]) d_M_ask_35 (Nat.le_of_ble_eq_true rfl) rfl ?_
      refine r_iconst (pc := 37) (v := 0) d_M_ask_37 (by rfl) ?_
      refine r_istore (pc := 38) (lv1 := [some (.ref 383), some (.int a1), some (.int a2), some (.int a3), some (.int rq5), some (.int (-1 : Int32)), some (.int xq7), some (.int (0 : Int32)), none, none]) d_M_ask_38 (Nat.le_of_ble_eq_true rfl) rfl ?_
      exact r_wk (o_M_ask_l40 hn FU rq5 (-1 : Int32) xq7 (0 : Int32) hq6) ⟨rfl, ⟨rfl, ⟨rfl, ⟨rfl, ⟨rfl, ⟨rfl, ⟨rfl, trivial⟩⟩⟩⟩⟩⟩⟩
    · refine r_iconst (pc := 19) (v := -1) d_M_ask_19 (by rfl) ?_
      exact r_iret (pc := 20) rfl d_M_ask_20

def f_M_isBox  (a0 : Int32) (h : AH) : Option (Int32 × AH) :=
  if a0 < 0 then
    some ((0 : Int32), h)
  else
    if (3 : Int32) ≤ a0 then
      some ((0 : Int32), h)
    else
      some ((1 : Int32), h)
set_option maxHeartbeats 2000000 in
theorem ok_M_isBox {G : AE} {n : Nat} (hn : NN ≤ n)  (a0 : Int32) (h : AH) : OK G n y_M_isBox (1) φI [.int a0] h (f_M_isBox a0 h) := by
  refine ok_of (y := y_M_isBox) (lv0 := [some (.int a0)]) (by decide +kernel) (Nat.le_of_ble_eq_true rfl) ⟨rfl, trivial⟩ ?_
  rw [f_M_isBox]
  refine r_iload_n (pc := 0) (i := 0) d_M_isBox_0 rfl rfl ?_
  refine r_if_lt (pc := 1) (tgt := 13) d_M_isBox_1 (by rfl) ?_ ?_
  · refine r_iconst (pc := 13) (v := 0) d_M_isBox_13 (by rfl) ?_
    exact r_zret (pc := 14) rfl rfl d_M_isBox_14
  · refine r_iload_n (pc := 4) (i := 0) d_M_isBox_4 rfl rfl ?_
    refine r_iconst (pc := 5) (v := 3) d_M_isBox_5 (by rfl) ?_
    refine r_icmp_ge (pc := 6) (tgt := 13) d_M_isBox_6 (by rfl) ?_ ?_
    · refine r_iconst (pc := 13) (v := 0) d_M_isBox_13 (by rfl) ?_
      exact r_zret (pc := 14) rfl rfl d_M_isBox_14
    · refine r_iconst (pc := 9) (v := 1) d_M_isBox_9 (by rfl) ?_
      refine r_goto (pc := 10) (tgt := 14) d_M_isBox_10 (by rfl) ?_
      exact r_zret (pc := 14) rfl rfl d_M_isBox_14

def f_M_image_l18  (a1 : Int32)  : Nat → Int32 → AH → Option (Int32 × AH)
  | 0, _, _ => none
  | n + 1, x2, h =>
    if (35 : Int32) ≤ x2 then
      some ((hI h 405 33), h)
    else
      gx x2 35 <|
      gx (((35 : Int32) * a1) + x2) 105 <|
      lt (sI h 420 (ix (((35 : Int32) * a1) + x2)) (hI h 405 (ix x2))) fun hq3 =>
      lt (x2 + (1 : Int32)) fun xq4 =>
      f_M_image_l18 a1 n xq4 hq3
set_option maxHeartbeats 2000000 in
theorem o_M_image_l18 {G : AE} {n : Nat} (hn : NN ≤ n)  {a1 : Int32}   : ∀ (n0 : Nat) (x2 : Int32) (h : AH), AJ G n y_M_image (2) φI 18 [some (.ref 383), some (.int a1), some (.int x2)] [] h (f_M_image_l18 a1 n0 x2 h) := by
  intro n0
  induction n0 with
  | zero => intros; exact r_none
  | succ n0 ih =>
    intro x2 h
    rw [f_M_image_l18]
    refine r_iload_n (pc := 18) (i := 2) d_M_image_18 rfl rfl ?_
    refine r_bipush (pc := 19) (v := 35) d_M_image_19 (by rfl) ?_
    refine r_icmp_ge (pc := 21) (tgt := 47) d_M_image_21 (by rfl) ?_ ?_
    · refine r_aload_n (pc := 47) (i := 0) d_M_image_47 rfl rfl ?_
      refine r_getf (pc := 48) (ci := 12) (k := 50) (C := "CricketHayModel") (T := F_12) (N := 73) (v := .ref 405) (fun s => Std.k s (lc hn rfl) kq_383) rfl (Nat.le_of_ble_eq_true rfl) rfl w_1136 (fun s => vr rfl (Std.r s (lc hn rfl) rq_383_50)) d_M_image_48 ?_
      refine r_bipush (pc := 51) (v := 33) d_M_image_51 (by rfl) ?_
      refine r_iald (pc := 53) (n := 35) (i0 := 33) (fun s => Std.k s (lc hn rfl) kq_405) (vin (k := 33) rfl rfl) rfl d_M_image_53 ?_
      exact r_iret (pc := 54) rfl d_M_image_54
    · refine r_aload_n (pc := 24) (i := 0) d_M_image_24 rfl rfl ?_
      refine r_getf (pc := 25) (ci := 12) (k := 72) (C := "CricketHayModel") (T := F_12) (N := 73) (v := .ref 420) (fun s => Std.k s (lc hn rfl) kq_383) rfl (Nat.le_of_ble_eq_true rfl) rfl w_1158 (fun s => vr rfl (Std.r s (lc hn rfl) rq_383_72)) d_M_image_25 ?_
      refine r_bipush (pc := 28) (v := 35) d_M_image_28 (by rfl) ?_
      refine r_iload_n (pc := 30) (i := 1) d_M_image_30 rfl rfl ?_
      refine r_imul (pc := 31) d_M_image_31 ?_
      refine r_iload_n (pc := 32) (i := 2) d_M_image_32 rfl rfl ?_
      refine r_iadd (pc := 33) d_M_image_33 ?_
      refine r_aload_n (pc := 34) (i := 0) d_M_image_34 rfl rfl ?_
      refine r_getf (pc := 35) (ci := 12) (k := 50) (C := "CricketHayModel") (T := F_12) (N := 73) (v := .ref 405) (fun s => Std.k s (lc hn rfl) kq_383) rfl (Nat.le_of_ble_eq_true rfl) rfl w_1136 (fun s => vr rfl (Std.r s (lc hn rfl) rq_383_50)) d_M_image_35 ?_
      refine r_iload_n (pc := 38) (i := 2) d_M_image_38 rfl rfl ?_
      refine r_gx (fun zq1 => ?_)
      refine r_iald (pc := 39) (n := 35) (i0 := (ix x2)) (fun s => Std.k s (lc hn rfl) kq_405) zq1 rfl d_M_image_39 ?_
      refine r_gx (fun zq2 => ?_)
      refine r_iast (pc := 40) (n := 105) (i0 := (ix (((35 : Int32) * a1) + x2))) (fun s => Std.k s (lc hn rfl) kq_420) zq2 rfl (fun s => Std.sI s _ _ _) d_M_image_40 ?_
      refine r_ltH (fun hq3 => ?_)
      refine r_ltE (fun xq4 exq4 => ?_)
      refine r_iinc (pc := 41) (v := xq4) (lv1 := [some (.ref 383), some (.int a1), some (.int xq4)]) d_M_image_41 rfl exq4.symm (Nat.le_of_ble_eq_true rfl) rfl ?_
      refine r_goto (pc := 44) (tgt := 18) d_M_image_44 (by rfl) ?_
      exact r_wk (ih xq4 hq3) ⟨rfl, ⟨rfl, ⟨rfl, trivial⟩⟩⟩
def f_M_image  (a1 : Int32) (h : AH) : Option (Int32 × AH) :=
  bI (f_M_isBox a1 h) fun rq1 hq2 =>
  if ¬ rq1 = 0 then
    gx a1 3 <|
    lt (sI hq2 419 (ix a1) (vp_nar .boolean (1 : Int32))) fun hq4 =>
    f_M_image_l18 a1 FU (0 : Int32) hq4
  else
    some ((-1 : Int32), hq2)
set_option maxHeartbeats 2000000 in
theorem ok_M_image {G : AE} {n : Nat} (hn : NN ≤ n)  (a1 : Int32) (h : AH) : OK G n y_M_image (2) φI [.ref 383, .int a1] h (f_M_image a1 h) := by
  refine ok_of (y := y_M_image) (lv0 := [some (.ref 383), some (.int a1), none]) (by decide +kernel) (Nat.le_of_ble_eq_true rfl) ⟨rfl, ⟨rfl, trivial⟩⟩ ?_
  rw [f_M_image]
  refine r_iload_n (pc := 0) (i := 1) d_M_image_0 rfl rfl ?_
  refine r_cSi (pc := 1) (st := []) (ok_M_isBox hn a1 h) w_1778 w_13 w_1776 w_1777 hy_M_isBox ⟨Nat.le_of_ble_eq_true rfl, Nat.le_of_ble_eq_true rfl⟩ ⟨Nat.le_of_ble_eq_true rfl, Nat.le_of_ble_eq_true rfl⟩ rfl (Nat.le_of_ble_eq_true rfl) d_M_image_1 (fun rq1 hq2 => ?_)
  refine r_if_ne (pc := 4) (tgt := 9) d_M_image_4 (by rfl) ?_ ?_
  · refine r_aload_n (pc := 9) (i := 0) d_M_image_9 rfl rfl ?_
    refine r_getf (pc := 10) (ci := 12) (k := 71) (C := "CricketHayModel") (T := F_12) (N := 73) (v := .ref 419) (fun s => Std.k s (lc hn rfl) kq_383) rfl (Nat.le_of_ble_eq_true rfl) rfl w_1157 (fun s => vr rfl (Std.r s (lc hn rfl) rq_383_71)) d_M_image_10 ?_
    refine r_iload_n (pc := 13) (i := 1) d_M_image_13 rfl rfl ?_
    refine r_iconst (pc := 14) (v := 1) d_M_image_14 (by rfl) ?_
    refine r_gx (fun zq3 => ?_)
    refine r_zast (pc := 15) (n := 3) (i0 := (ix a1)) (fun s => Std.k s (lc hn rfl) kq_419) zq3 rfl (fun s => Std.sI s _ _ _) d_M_image_15 ?_
    refine r_ltH (fun hq4 => ?_)
    refine r_iconst (pc := 16) (v := 0) d_M_image_16 (by rfl) ?_
    refine r_istore_n (pc := 17) (i := 2) (lv1 := [some (.ref 383), some (.int a1), some (.int (0 : Int32))]) d_M_image_17 rfl (Nat.le_of_ble_eq_true rfl) rfl ?_
    exact r_wk (o_M_image_l18 hn FU (0 : Int32) hq4) ⟨rfl, ⟨rfl, ⟨rfl, trivial⟩⟩⟩
  · refine r_iconst (pc := 7) (v := -1) d_M_image_7 (by rfl) ?_
    exact r_iret (pc := 8) rfl d_M_image_8

def f_M_back_l20  (a1 : Int32)  : Nat → Int32 → AH → Option (Int32 × AH)
  | 0, _, _ => none
  | n + 1, x2, h =>
    if (35 : Int32) ≤ x2 then
      lt (sI h 383 53 (0 : Int32)) fun hq1 =>
      lt (sI hq1 383 54 (0 : Int32)) fun hq2 =>
      some ((hI hq2 405 33), hq2)
    else
      gx (((35 : Int32) * a1) + x2) 105 <|
      gx x2 35 <|
      lt (sI h 405 (ix x2) (hI h 420 (ix (((35 : Int32) * a1) + x2)))) fun hq5 =>
      lt (x2 + (1 : Int32)) fun xq6 =>
      f_M_back_l20 a1 n xq6 hq5
set_option maxHeartbeats 2000000 in
theorem o_M_back_l20 {G : AE} {n : Nat} (hn : NN ≤ n)  {a1 : Int32}   : ∀ (n0 : Nat) (x2 : Int32) (h : AH), AJ G n y_M_back (2) φI 20 [some (.ref 383), some (.int a1), some (.int x2)] [] h (f_M_back_l20 a1 n0 x2 h) := by
  intro n0
  induction n0 with
  | zero => intros; exact r_none
  | succ n0 ih =>
    intro x2 h
    rw [f_M_back_l20]
    refine r_iload_n (pc := 20) (i := 2) d_M_back_20 rfl rfl ?_
    refine r_bipush (pc := 21) (v := 35) d_M_back_21 (by rfl) ?_
    refine r_icmp_ge (pc := 23) (tgt := 49) d_M_back_23 (by rfl) ?_ ?_
    · refine r_aload_n (pc := 49) (i := 0) d_M_back_49 rfl rfl ?_
      refine r_iconst (pc := 50) (v := 0) d_M_back_50 (by rfl) ?_
      refine r_putI (pc := 51) (ci := 12) (k := 53) (C := "CricketHayModel") (T := F_12) (N := 73) (fun s => Std.k s (lc hn rfl) kq_383) rfl (Nat.le_of_ble_eq_true rfl) rfl rfl w_1139 (fun _ _ => rfl) (fun _ => rfl) (fun _ => rfl) (fun s => Std.sI s _ _ _) d_M_back_51 ?_
      refine r_ltH (fun hq1 => ?_)
      refine r_aload_n (pc := 54) (i := 0) d_M_back_54 rfl rfl ?_
      refine r_iconst (pc := 55) (v := 0) d_M_back_55 (by rfl) ?_
      refine r_putI (pc := 56) (ci := 12) (k := 54) (C := "CricketHayModel") (T := F_12) (N := 73) (fun s => Std.k s (lc hn rfl) kq_383) rfl (Nat.le_of_ble_eq_true rfl) rfl rfl w_1140 (fun _ _ => rfl) (fun _ => rfl) (fun _ => rfl) (fun s => Std.sI s _ _ _) d_M_back_56 ?_
      refine r_ltH (fun hq2 => ?_)
      refine r_aload_n (pc := 59) (i := 0) d_M_back_59 rfl rfl ?_
      refine r_getf (pc := 60) (ci := 12) (k := 50) (C := "CricketHayModel") (T := F_12) (N := 73) (v := .ref 405) (fun s => Std.k s (lc hn rfl) kq_383) rfl (Nat.le_of_ble_eq_true rfl) rfl w_1136 (fun s => vr rfl (Std.r s (lc hn rfl) rq_383_50)) d_M_back_60 ?_
      refine r_bipush (pc := 63) (v := 33) d_M_back_63 (by rfl) ?_
      refine r_iald (pc := 65) (n := 35) (i0 := 33) (fun s => Std.k s (lc hn rfl) kq_405) (vin (k := 33) rfl rfl) rfl d_M_back_65 ?_
      exact r_iret (pc := 66) rfl d_M_back_66
    · refine r_aload_n (pc := 26) (i := 0) d_M_back_26 rfl rfl ?_
      refine r_getf (pc := 27) (ci := 12) (k := 50) (C := "CricketHayModel") (T := F_12) (N := 73) (v := .ref 405) (fun s => Std.k s (lc hn rfl) kq_383) rfl (Nat.le_of_ble_eq_true rfl) rfl w_1136 (fun s => vr rfl (Std.r s (lc hn rfl) rq_383_50)) d_M_back_27 ?_
      refine r_iload_n (pc := 30) (i := 2) d_M_back_30 rfl rfl ?_
      refine r_aload_n (pc := 31) (i := 0) d_M_back_31 rfl rfl ?_
      refine r_getf (pc := 32) (ci := 12) (k := 72) (C := "CricketHayModel") (T := F_12) (N := 73) (v := .ref 420) (fun s => Std.k s (lc hn rfl) kq_383) rfl (Nat.le_of_ble_eq_true rfl) rfl w_1158 (fun s => vr rfl (Std.r s (lc hn rfl) rq_383_72)) d_M_back_32 ?_
      refine r_bipush (pc := 35) (v := 35) d_M_back_35 (by rfl) ?_
      refine r_iload_n (pc := 37) (i := 1) d_M_back_37 rfl rfl ?_
      refine r_imul (pc := 38) d_M_back_38 ?_
      refine r_iload_n (pc := 39) (i := 2) d_M_back_39 rfl rfl ?_
      refine r_iadd (pc := 40) d_M_back_40 ?_
      refine r_gx (fun zq3 => ?_)
      refine r_iald (pc := 41) (n := 105) (i0 := (ix (((35 : Int32) * a1) + x2))) (fun s => Std.k s (lc hn rfl) kq_420) zq3 rfl d_M_back_41 ?_
      refine r_gx (fun zq4 => ?_)
      refine r_iast (pc := 42) (n := 35) (i0 := (ix x2)) (fun s => Std.k s (lc hn rfl) kq_405) zq4 rfl (fun s => Std.sI s _ _ _) d_M_back_42 ?_
      refine r_ltH (fun hq5 => ?_)
      refine r_ltE (fun xq6 exq6 => ?_)
      refine r_iinc (pc := 43) (v := xq6) (lv1 := [some (.ref 383), some (.int a1), some (.int xq6)]) d_M_back_43 rfl exq6.symm (Nat.le_of_ble_eq_true rfl) rfl ?_
      refine r_goto (pc := 46) (tgt := 20) d_M_back_46 (by rfl) ?_
      exact r_wk (ih xq6 hq5) ⟨rfl, ⟨rfl, ⟨rfl, trivial⟩⟩⟩
def f_M_back  (a1 : Int32) (h : AH) : Option (Int32 × AH) :=
  bI (f_M_isBox a1 h) fun rq1 hq2 =>
  if rq1 = 0 then
    some ((-1 : Int32), hq2)
  else
    gx a1 3 <|
    if ¬ (hI hq2 419 (ix a1)) = 0 then
      f_M_back_l20 a1 FU (0 : Int32) hq2
    else
      some ((-1 : Int32), hq2)
set_option maxHeartbeats 2000000 in
theorem ok_M_back {G : AE} {n : Nat} (hn : NN ≤ n)  (a1 : Int32) (h : AH) : OK G n y_M_back (2) φI [.ref 383, .int a1] h (f_M_back a1 h) := by
  refine ok_of (y := y_M_back) (lv0 := [some (.ref 383), some (.int a1), none]) (by decide +kernel) (Nat.le_of_ble_eq_true rfl) ⟨rfl, ⟨rfl, trivial⟩⟩ ?_
  rw [f_M_back]
  refine r_iload_n (pc := 0) (i := 1) d_M_back_0 rfl rfl ?_
  refine r_cSi (pc := 1) (st := []) (ok_M_isBox hn a1 h) w_1778 w_13 w_1776 w_1777 hy_M_isBox ⟨Nat.le_of_ble_eq_true rfl, Nat.le_of_ble_eq_true rfl⟩ ⟨Nat.le_of_ble_eq_true rfl, Nat.le_of_ble_eq_true rfl⟩ rfl (Nat.le_of_ble_eq_true rfl) d_M_back_1 (fun rq1 hq2 => ?_)
  refine r_if_eq (pc := 4) (tgt := 16) d_M_back_4 (by rfl) ?_ ?_
  · refine r_iconst (pc := 16) (v := -1) d_M_back_16 (by rfl) ?_
    exact r_iret (pc := 17) rfl d_M_back_17
  · refine r_aload_n (pc := 7) (i := 0) d_M_back_7 rfl rfl ?_
    refine r_getf (pc := 8) (ci := 12) (k := 71) (C := "CricketHayModel") (T := F_12) (N := 73) (v := .ref 419) (fun s => Std.k s (lc hn rfl) kq_383) rfl (Nat.le_of_ble_eq_true rfl) rfl w_1157 (fun s => vr rfl (Std.r s (lc hn rfl) rq_383_71)) d_M_back_8 ?_
    refine r_iload_n (pc := 11) (i := 1) d_M_back_11 rfl rfl ?_
    refine r_gx (fun zq3 => ?_)
    refine r_zald (pc := 12) (n := 3) (i0 := (ix a1)) (fun s => Std.k s (lc hn rfl) kq_419) zq3 rfl d_M_back_12 ?_
    refine r_if_ne (pc := 13) (tgt := 18) d_M_back_13 (by rfl) ?_ ?_
    · refine r_iconst (pc := 18) (v := 0) d_M_back_18 (by rfl) ?_
      refine r_istore_n (pc := 19) (i := 2) (lv1 := [some (.ref 383), some (.int a1), some (.int (0 : Int32))]) d_M_back_19 rfl (Nat.le_of_ble_eq_true rfl) rfl ?_
      exact r_wk (o_M_back_l20 hn FU (0 : Int32) hq2) ⟨rfl, ⟨rfl, ⟨rfl, trivial⟩⟩⟩
    · refine r_iconst (pc := 16) (v := -1) d_M_back_16 (by rfl) ?_
      exact r_iret (pc := 17) rfl d_M_back_17

def f_M_about  (a1 : Int32) (h : AH) : Option (Int32 × AH) :=
  if a1 = (0 : Int32) then
    some ((hI h 383 43), h)
  else
  if a1 = (1 : Int32) then
    some ((hI h 383 42), h)
  else
  if a1 = (2 : Int32) then
    some ((hI h 383 46), h)
  else
  if a1 = (3 : Int32) then
    some ((hI h 405 32), h)
  else
  if a1 = (4 : Int32) then
    some ((hI h 405 33), h)
  else
  if a1 = (5 : Int32) then
    some ((hI h 405 34), h)
  else
  if a1 = (6 : Int32) then
    some ((hI h 405 31), h)
  else
  if a1 = (7 : Int32) then
    some ((hI h 383 53), h)
  else
  if a1 = (8 : Int32) then
    some ((hI h 383 54), h)
  else
  if a1 = (9 : Int32) then
    some ((hI h 383 68), h)
  else
  if a1 = (10 : Int32) then
    some ((hI h 383 69), h)
  else
  if a1 = (11 : Int32) then
    some ((hI h 383 1), h)
  else
  if a1 = (12 : Int32) then
    some ((hI h 383 23), h)
  else
  if a1 = (13 : Int32) then
    some ((hI h 383 57), h)
  else
    some ((-1 : Int32), h)
set_option maxHeartbeats 2000000 in
theorem ok_M_about {G : AE} {n : Nat} (hn : NN ≤ n)  (a1 : Int32) (h : AH) : OK G n y_M_about (1) φI [.ref 383, .int a1] h (f_M_about a1 h) := by
  refine ok_of (y := y_M_about) (lv0 := [some (.ref 383), some (.int a1)]) (by decide +kernel) (Nat.le_of_ble_eq_true rfl) ⟨rfl, ⟨rfl, trivial⟩⟩ ?_
  rw [f_M_about]
  refine r_iload_n (pc := 0) (i := 1) d_M_about_0 rfl rfl ?_
  refine r_split (fun cq1 => ?_) (fun cq1 => ?_)
  · refine r_tableIn (pc := 1) (tgt := 72) d_M_about_1 (by rw [cq1]; decide) (by rw [cq1]; decide) (by rw [cq1] <;> rfl) (by rfl) ?_
    refine r_aload_n (pc := 72) (i := 0) d_M_about_72 rfl rfl ?_
    refine r_getf (pc := 73) (ci := 12) (k := 43) (C := "CricketHayModel") (T := F_12) (N := 73) (v := .int (hI h 383 43)) (fun s => Std.k s (lc hn rfl) kq_383) rfl (Nat.le_of_ble_eq_true rfl) rfl w_1129 (fun _ => rfl) d_M_about_73 ?_
    exact r_iret (pc := 76) rfl d_M_about_76
  refine r_split (fun cq2 => ?_) (fun cq2 => ?_)
  · refine r_tableIn (pc := 1) (tgt := 77) d_M_about_1 (by rw [cq2]; decide) (by rw [cq2]; decide) (by rw [cq2] <;> rfl) (by rfl) ?_
    refine r_aload_n (pc := 77) (i := 0) d_M_about_77 rfl rfl ?_
    refine r_getf (pc := 78) (ci := 12) (k := 42) (C := "CricketHayModel") (T := F_12) (N := 73) (v := .int (hI h 383 42)) (fun s => Std.k s (lc hn rfl) kq_383) rfl (Nat.le_of_ble_eq_true rfl) rfl w_1128 (fun _ => rfl) d_M_about_78 ?_
    exact r_iret (pc := 81) rfl d_M_about_81
  refine r_split (fun cq3 => ?_) (fun cq3 => ?_)
  · refine r_tableIn (pc := 1) (tgt := 82) d_M_about_1 (by rw [cq3]; decide) (by rw [cq3]; decide) (by rw [cq3] <;> rfl) (by rfl) ?_
    refine r_aload_n (pc := 82) (i := 0) d_M_about_82 rfl rfl ?_
    refine r_getf (pc := 83) (ci := 12) (k := 46) (C := "CricketHayModel") (T := F_12) (N := 73) (v := .int (hI h 383 46)) (fun s => Std.k s (lc hn rfl) kq_383) rfl (Nat.le_of_ble_eq_true rfl) rfl w_1132 (fun _ => rfl) d_M_about_83 ?_
    exact r_iret (pc := 86) rfl d_M_about_86
  refine r_split (fun cq4 => ?_) (fun cq4 => ?_)
  · refine r_tableIn (pc := 1) (tgt := 87) d_M_about_1 (by rw [cq4]; decide) (by rw [cq4]; decide) (by rw [cq4] <;> rfl) (by rfl) ?_
    refine r_aload_n (pc := 87) (i := 0) d_M_about_87 rfl rfl ?_
    refine r_getf (pc := 88) (ci := 12) (k := 50) (C := "CricketHayModel") (T := F_12) (N := 73) (v := .ref 405) (fun s => Std.k s (lc hn rfl) kq_383) rfl (Nat.le_of_ble_eq_true rfl) rfl w_1136 (fun s => vr rfl (Std.r s (lc hn rfl) rq_383_50)) d_M_about_88 ?_
    refine r_bipush (pc := 91) (v := 32) d_M_about_91 (by rfl) ?_
    refine r_iald (pc := 93) (n := 35) (i0 := 32) (fun s => Std.k s (lc hn rfl) kq_405) (vin (k := 32) rfl rfl) rfl d_M_about_93 ?_
    exact r_iret (pc := 94) rfl d_M_about_94
  refine r_split (fun cq5 => ?_) (fun cq5 => ?_)
  · refine r_tableIn (pc := 1) (tgt := 95) d_M_about_1 (by rw [cq5]; decide) (by rw [cq5]; decide) (by rw [cq5] <;> rfl) (by rfl) ?_
    refine r_aload_n (pc := 95) (i := 0) d_M_about_95 rfl rfl ?_
    refine r_getf (pc := 96) (ci := 12) (k := 50) (C := "CricketHayModel") (T := F_12) (N := 73) (v := .ref 405) (fun s => Std.k s (lc hn rfl) kq_383) rfl (Nat.le_of_ble_eq_true rfl) rfl w_1136 (fun s => vr rfl (Std.r s (lc hn rfl) rq_383_50)) d_M_about_96 ?_
    refine r_bipush (pc := 99) (v := 33) d_M_about_99 (by rfl) ?_
    refine r_iald (pc := 101) (n := 35) (i0 := 33) (fun s => Std.k s (lc hn rfl) kq_405) (vin (k := 33) rfl rfl) rfl d_M_about_101 ?_
    exact r_iret (pc := 102) rfl d_M_about_102
  refine r_split (fun cq6 => ?_) (fun cq6 => ?_)
  · refine r_tableIn (pc := 1) (tgt := 103) d_M_about_1 (by rw [cq6]; decide) (by rw [cq6]; decide) (by rw [cq6] <;> rfl) (by rfl) ?_
    refine r_aload_n (pc := 103) (i := 0) d_M_about_103 rfl rfl ?_
    refine r_getf (pc := 104) (ci := 12) (k := 50) (C := "CricketHayModel") (T := F_12) (N := 73) (v := .ref 405) (fun s => Std.k s (lc hn rfl) kq_383) rfl (Nat.le_of_ble_eq_true rfl) rfl w_1136 (fun s => vr rfl (Std.r s (lc hn rfl) rq_383_50)) d_M_about_104 ?_
    refine r_bipush (pc := 107) (v := 34) d_M_about_107 (by rfl) ?_
    refine r_iald (pc := 109) (n := 35) (i0 := 34) (fun s => Std.k s (lc hn rfl) kq_405) (vin (k := 34) rfl rfl) rfl d_M_about_109 ?_
    exact r_iret (pc := 110) rfl d_M_about_110
  refine r_split (fun cq7 => ?_) (fun cq7 => ?_)
  · refine r_tableIn (pc := 1) (tgt := 111) d_M_about_1 (by rw [cq7]; decide) (by rw [cq7]; decide) (by rw [cq7] <;> rfl) (by rfl) ?_
    refine r_aload_n (pc := 111) (i := 0) d_M_about_111 rfl rfl ?_
    refine r_getf (pc := 112) (ci := 12) (k := 50) (C := "CricketHayModel") (T := F_12) (N := 73) (v := .ref 405) (fun s => Std.k s (lc hn rfl) kq_383) rfl (Nat.le_of_ble_eq_true rfl) rfl w_1136 (fun s => vr rfl (Std.r s (lc hn rfl) rq_383_50)) d_M_about_112 ?_
    refine r_bipush (pc := 115) (v := 31) d_M_about_115 (by rfl) ?_
    refine r_iald (pc := 117) (n := 35) (i0 := 31) (fun s => Std.k s (lc hn rfl) kq_405) (vin (k := 31) rfl rfl) rfl d_M_about_117 ?_
    exact r_iret (pc := 118) rfl d_M_about_118
  refine r_split (fun cq8 => ?_) (fun cq8 => ?_)
  · refine r_tableIn (pc := 1) (tgt := 119) d_M_about_1 (by rw [cq8]; decide) (by rw [cq8]; decide) (by rw [cq8] <;> rfl) (by rfl) ?_
    refine r_aload_n (pc := 119) (i := 0) d_M_about_119 rfl rfl ?_
    refine r_getf (pc := 120) (ci := 12) (k := 53) (C := "CricketHayModel") (T := F_12) (N := 73) (v := .int (hI h 383 53)) (fun s => Std.k s (lc hn rfl) kq_383) rfl (Nat.le_of_ble_eq_true rfl) rfl w_1139 (fun _ => rfl) d_M_about_120 ?_
    exact r_iret (pc := 123) rfl d_M_about_123
  refine r_split (fun cq9 => ?_) (fun cq9 => ?_)
  · refine r_tableIn (pc := 1) (tgt := 124) d_M_about_1 (by rw [cq9]; decide) (by rw [cq9]; decide) (by rw [cq9] <;> rfl) (by rfl) ?_
    refine r_aload_n (pc := 124) (i := 0) d_M_about_124 rfl rfl ?_
    refine r_getf (pc := 125) (ci := 12) (k := 54) (C := "CricketHayModel") (T := F_12) (N := 73) (v := .int (hI h 383 54)) (fun s => Std.k s (lc hn rfl) kq_383) rfl (Nat.le_of_ble_eq_true rfl) rfl w_1140 (fun _ => rfl) d_M_about_125 ?_
    exact r_iret (pc := 128) rfl d_M_about_128
  refine r_split (fun cq10 => ?_) (fun cq10 => ?_)
  · refine r_tableIn (pc := 1) (tgt := 129) d_M_about_1 (by rw [cq10]; decide) (by rw [cq10]; decide) (by rw [cq10] <;> rfl) (by rfl) ?_
    refine r_aload_n (pc := 129) (i := 0) d_M_about_129 rfl rfl ?_
    refine r_getf (pc := 130) (ci := 12) (k := 68) (C := "CricketHayModel") (T := F_12) (N := 73) (v := .int (hI h 383 68)) (fun s => Std.k s (lc hn rfl) kq_383) rfl (Nat.le_of_ble_eq_true rfl) rfl w_1154 (fun _ => rfl) d_M_about_130 ?_
    exact r_iret (pc := 133) rfl d_M_about_133
  refine r_split (fun cq11 => ?_) (fun cq11 => ?_)
  · refine r_tableIn (pc := 1) (tgt := 134) d_M_about_1 (by rw [cq11]; decide) (by rw [cq11]; decide) (by rw [cq11] <;> rfl) (by rfl) ?_
    refine r_aload_n (pc := 134) (i := 0) d_M_about_134 rfl rfl ?_
    refine r_getf (pc := 135) (ci := 12) (k := 69) (C := "CricketHayModel") (T := F_12) (N := 73) (v := .int (hI h 383 69)) (fun s => Std.k s (lc hn rfl) kq_383) rfl (Nat.le_of_ble_eq_true rfl) rfl w_1155 (fun _ => rfl) d_M_about_135 ?_
    exact r_iret (pc := 138) rfl d_M_about_138
  refine r_split (fun cq12 => ?_) (fun cq12 => ?_)
  · refine r_tableIn (pc := 1) (tgt := 139) d_M_about_1 (by rw [cq12]; decide) (by rw [cq12]; decide) (by rw [cq12] <;> rfl) (by rfl) ?_
    refine r_aload_n (pc := 139) (i := 0) d_M_about_139 rfl rfl ?_
    refine r_getf (pc := 140) (ci := 12) (k := 1) (C := "CricketHayModel") (T := F_12) (N := 73) (v := .int (hI h 383 1)) (fun s => Std.k s (lc hn rfl) kq_383) rfl (Nat.le_of_ble_eq_true rfl) rfl w_1087 (fun _ => rfl) d_M_about_140 ?_
    exact r_iret (pc := 143) rfl d_M_about_143
  refine r_split (fun cq13 => ?_) (fun cq13 => ?_)
  · refine r_tableIn (pc := 1) (tgt := 144) d_M_about_1 (by rw [cq13]; decide) (by rw [cq13]; decide) (by rw [cq13] <;> rfl) (by rfl) ?_
    refine r_aload_n (pc := 144) (i := 0) d_M_about_144 rfl rfl ?_
    refine r_getf (pc := 145) (ci := 12) (k := 23) (C := "CricketHayModel") (T := F_12) (N := 73) (v := .int (hI h 383 23)) (fun s => Std.k s (lc hn rfl) kq_383) rfl (Nat.le_of_ble_eq_true rfl) rfl w_1109 (fun _ => rfl) d_M_about_145 ?_
    exact r_iret (pc := 148) rfl d_M_about_148
  refine r_split (fun cq14 => ?_) (fun cq14 => ?_)
  · refine r_tableIn (pc := 1) (tgt := 149) d_M_about_1 (by rw [cq14]; decide) (by rw [cq14]; decide) (by rw [cq14] <;> rfl) (by rfl) ?_
    refine r_aload_n (pc := 149) (i := 0) d_M_about_149 rfl rfl ?_
    refine r_getf (pc := 150) (ci := 12) (k := 57) (C := "CricketHayModel") (T := F_12) (N := 73) (v := .int (hI h 383 57)) (fun s => Std.k s (lc hn rfl) kq_383) rfl (Nat.le_of_ble_eq_true rfl) rfl w_1143 (fun _ => rfl) d_M_about_150 ?_
    exact r_iret (pc := 153) rfl d_M_about_153
  refine r_tableD (pc := 1) (tgt := 154) d_M_about_1 [0, 1, 2, 3, 4, 5, 6, 7, 8, 9, 10, 11, 12, 13] (List.forall_mem_cons.mpr ⟨lv_neT cq1 (show ((0 : Int32)).toInt = 0 from rfl), List.forall_mem_cons.mpr ⟨lv_neT cq2 (show ((1 : Int32)).toInt = 1 from rfl), List.forall_mem_cons.mpr ⟨lv_neT cq3 (show ((2 : Int32)).toInt = 2 from rfl), List.forall_mem_cons.mpr ⟨lv_neT cq4 (show ((3 : Int32)).toInt = 3 from rfl), List.forall_mem_cons.mpr ⟨lv_neT cq5 (show ((4 : Int32)).toInt = 4 from rfl), List.forall_mem_cons.mpr ⟨lv_neT cq6 (show ((5 : Int32)).toInt = 5 from rfl), List.forall_mem_cons.mpr ⟨lv_neT cq7 (show ((6 : Int32)).toInt = 6 from rfl), List.forall_mem_cons.mpr ⟨lv_neT cq8 (show ((7 : Int32)).toInt = 7 from rfl), List.forall_mem_cons.mpr ⟨lv_neT cq9 (show ((8 : Int32)).toInt = 8 from rfl), List.forall_mem_cons.mpr ⟨lv_neT cq10 (show ((9 : Int32)).toInt = 9 from rfl), List.forall_mem_cons.mpr ⟨lv_neT cq11 (show ((10 : Int32)).toInt = 10 from rfl), List.forall_mem_cons.mpr ⟨lv_neT cq12 (show ((11 : Int32)).toInt = 11 from rfl), List.forall_mem_cons.mpr ⟨lv_neT cq13 (show ((12 : Int32)).toInt = 12 from rfl), List.forall_mem_cons.mpr ⟨lv_neT cq14 (show ((13 : Int32)).toInt = 13 from rfl), List.forall_mem_nil _⟩⟩⟩⟩⟩⟩⟩⟩⟩⟩⟩⟩⟩⟩) (by decide) (by rfl) ?_
  refine r_iconst (pc := 154) (v := -1) d_M_about_154 (by rfl) ?_
  exact r_iret (pc := 155) rfl d_M_about_155
