theorem w_1141 : Cond.fieldLink "CricketHayModel" 94 "CricketHayModel" "prices" "[I" ∈ lw_good := q_t 1141 (by decide +kernel) rfl
theorem w_1142 : Cond.fieldLink "CricketHayModel" 97 "CricketHayModel" "lies" "[I" ∈ lw_good := q_t 1142 (by decide +kernel) rfl
theorem w_1144 : Cond.fieldLink "CricketHayModel" 100 "CricketHayModel" "seller" "[I" ∈ lw_good := q_t 1144 (by decide +kernel) rfl
theorem w_1145 : Cond.fieldLink "CricketHayModel" 103 "CricketHayModel" "sold" "[I" ∈ lw_good := q_t 1145 (by decide +kernel) rfl
theorem w_1146 : Cond.fieldLink "CricketHayModel" 459 "CricketHayModel" "soldMany" "I" ∈ lw_good := q_t 1146 (by decide +kernel) rfl
theorem w_1147 : Cond.fieldLink "CricketHayModel" 462 "CricketHayModel" "soldPaid" "I" ∈ lw_good := q_t 1147 (by decide +kernel) rfl
theorem w_1565 : Cond.methodLink "CricketHayModel" 437 ⟨"CricketHayModel", "isThere", "(I)Z"⟩ ∈ lw_good := q_t 1565 (by decide +kernel) rfl
theorem w_1567 : Cond.instanceMethod ⟨"CricketHayModel", "isThere", "(I)Z"⟩ ∈ lw_good := q_t 1567 (by decide +kernel) rfl
theorem w_1568 : Cond.code ⟨"CricketHayModel", "isThere", "(I)Z"⟩ prog_14_method_67_code 2 (some .boolean) ∈ lw_good := q_t 1568 (by decide +kernel) rfl
theorem w_1577 : Cond.methodLink "CricketHayModel" 440 ⟨"CricketHayModel", "goHour", "()V"⟩ ∈ lw_good := q_t 1577 (by decide +kernel) rfl
theorem w_1579 : Cond.instanceMethod ⟨"CricketHayModel", "goHour", "()V"⟩ ∈ lw_good := q_t 1579 (by decide +kernel) rfl
theorem w_1580 : Cond.code ⟨"CricketHayModel", "goHour", "()V"⟩ prog_14_method_56_code 1 none ∈ lw_good := q_t 1580 (by decide +kernel) rfl
theorem w_1593 : Cond.methodLink "CricketHayModel" 443 ⟨"CricketHayModel", "exchange", "(I)V"⟩ ∈ lw_good := q_t 1593 (by decide +kernel) rfl
theorem w_1595 : Cond.instanceMethod ⟨"CricketHayModel", "exchange", "(I)V"⟩ ∈ lw_good := q_t 1595 (by decide +kernel) rfl
theorem w_1596 : Cond.code ⟨"CricketHayModel", "exchange", "(I)V"⟩ prog_14_method_65_code 4 none ∈ lw_good := q_t 1596 (by decide +kernel) rfl
theorem w_1605 : Cond.methodLink "CricketHayModel" 446 ⟨"CricketHayModel", "goFar", "(I)V"⟩ ∈ lw_good := q_t 1605 (by decide +kernel) rfl
theorem w_1607 : Cond.instanceMethod ⟨"CricketHayModel", "goFar", "(I)V"⟩ ∈ lw_good := q_t 1607 (by decide +kernel) rfl
theorem w_1608 : Cond.code ⟨"CricketHayModel", "goFar", "(I)V"⟩ prog_14_method_73_code 3 none ∈ lw_good := q_t 1608 (by decide +kernel) rfl
theorem w_1613 : Cond.methodLink "CricketHayModel" 449 ⟨"CricketHayModel", "edge", "(IIIZ)I"⟩ ∈ lw_good := q_t 1613 (by decide +kernel) rfl
theorem w_1615 : Cond.instanceMethod ⟨"CricketHayModel", "edge", "(IIIZ)I"⟩ ∈ lw_good := q_t 1615 (by decide +kernel) rfl
theorem w_1616 : Cond.code ⟨"CricketHayModel", "edge", "(IIIZ)I"⟩ prog_14_method_75_code 9 (some .int) ∈ lw_good := q_t 1616 (by decide +kernel) rfl
theorem w_1633 : Cond.methodLink "CricketHayModel" 468 ⟨"CricketHayModel", "laySellers", "(I)Z"⟩ ∈ lw_good := q_t 1633 (by decide +kernel) rfl
theorem w_1635 : Cond.instanceMethod ⟨"CricketHayModel", "laySellers", "(I)Z"⟩ ∈ lw_good := q_t 1635 (by decide +kernel) rfl
theorem w_1636 : Cond.code ⟨"CricketHayModel", "laySellers", "(I)Z"⟩ prog_14_method_83_code 5 (some .boolean) ∈ lw_good := q_t 1636 (by decide +kernel) rfl
theorem w_1637 : Cond.methodLink "CricketHayModel" 465 ⟨"CricketHayModel", "canSell", "(II)Z"⟩ ∈ lw_good := q_t 1637 (by decide +kernel) rfl
theorem w_1639 : Cond.instanceMethod ⟨"CricketHayModel", "canSell", "(II)Z"⟩ ∈ lw_good := q_t 1639 (by decide +kernel) rfl
theorem w_1640 : Cond.code ⟨"CricketHayModel", "canSell", "(II)Z"⟩ prog_14_method_82_code 3 (some .boolean) ∈ lw_good := q_t 1640 (by decide +kernel) rfl
theorem w_1641 : Cond.methodLink "CricketHayModel" 453 ⟨"CricketHayModel", "wants", "(I)Z"⟩ ∈ lw_good := q_t 1641 (by decide +kernel) rfl
theorem w_1643 : Cond.instanceMethod ⟨"CricketHayModel", "wants", "(I)Z"⟩ ∈ lw_good := q_t 1643 (by decide +kernel) rfl
theorem w_1644 : Cond.code ⟨"CricketHayModel", "wants", "(I)Z"⟩ prog_14_method_80_code 2 (some .boolean) ∈ lw_good := q_t 1644 (by decide +kernel) rfl
theorem w_1645 : Cond.methodLink "CricketHayModel" 456 ⟨"CricketHayModel", "over", "(I)I"⟩ ∈ lw_good := q_t 1645 (by decide +kernel) rfl
theorem w_1647 : Cond.instanceMethod ⟨"CricketHayModel", "over", "(I)I"⟩ ∈ lw_good := q_t 1647 (by decide +kernel) rfl
theorem w_1648 : Cond.code ⟨"CricketHayModel", "over", "(I)I"⟩ prog_14_method_81_code 2 (some .int) ∈ lw_good := q_t 1648 (by decide +kernel) rfl
theorem w_1653 : Cond.constant "CricketHayModel" 471 (-1000000) ∈ lw_good := q_t 1653 (by decide +kernel) rfl
theorem w_1654 : Cond.methodLink "CricketHayModel" 472 ⟨"CricketHayModel", "allPrices", "()I"⟩ ∈ lw_good := q_t 1654 (by decide +kernel) rfl
theorem w_1656 : Cond.instanceMethod ⟨"CricketHayModel", "allPrices", "()I"⟩ ∈ lw_good := q_t 1656 (by decide +kernel) rfl
theorem w_1657 : Cond.code ⟨"CricketHayModel", "allPrices", "()I"⟩ prog_14_method_85_code 4 (some .int) ∈ lw_good := q_t 1657 (by decide +kernel) rfl
theorem w_1670 : Cond.methodLink "CricketHayModel" 479 ⟨"CricketHayModel", "isRest", "(IIIII)Z"⟩ ∈ lw_good := q_t 1670 (by decide +kernel) rfl
theorem w_1672 : Cond.instanceMethod ⟨"CricketHayModel", "isRest", "(IIIII)Z"⟩ ∈ lw_good := q_t 1672 (by decide +kernel) rfl
theorem w_1673 : Cond.code ⟨"CricketHayModel", "isRest", "(IIIII)Z"⟩ prog_14_method_90_code 10 (some .boolean) ∈ lw_good := q_t 1673 (by decide +kernel) rfl
theorem w_1674 : Cond.methodLink "CricketHayModel" 475 ⟨"CricketHayModel", "payOf", "(IIIIIZ)I"⟩ ∈ lw_good := q_t 1674 (by decide +kernel) rfl
theorem w_1676 : Cond.instanceMethod ⟨"CricketHayModel", "payOf", "(IIIIIZ)I"⟩ ∈ lw_good := q_t 1676 (by decide +kernel) rfl
theorem w_1677 : Cond.code ⟨"CricketHayModel", "payOf", "(IIIIIZ)I"⟩ prog_14_method_89_code 9 (some .int) ∈ lw_good := q_t 1677 (by decide +kernel) rfl
theorem w_1682 : Cond.methodLink "CricketHayModel" 483 ⟨"CricketHayModel", "canOdds", "(IIII)Z"⟩ ∈ lw_good := q_t 1682 (by decide +kernel) rfl
theorem w_1684 : Cond.instanceMethod ⟨"CricketHayModel", "canOdds", "(IIII)Z"⟩ ∈ lw_good := q_t 1684 (by decide +kernel) rfl
theorem w_1685 : Cond.code ⟨"CricketHayModel", "canOdds", "(IIII)Z"⟩ prog_14_method_95_code 5 (some .boolean) ∈ lw_good := q_t 1685 (by decide +kernel) rfl
theorem w_1686 : Cond.methodLink "CricketHayModel" 487 ⟨"CricketHayModel", "shareOf", "(II)I"⟩ ∈ lw_good := q_t 1686 (by decide +kernel) rfl
theorem w_1688 : Cond.instanceMethod ⟨"CricketHayModel", "shareOf", "(II)I"⟩ ∈ lw_good := q_t 1688 (by decide +kernel) rfl
theorem w_1689 : Cond.code ⟨"CricketHayModel", "shareOf", "(II)I"⟩ prog_14_method_93_code 6 (some .int) ∈ lw_good := q_t 1689 (by decide +kernel) rfl
theorem w_1690 : Cond.methodLink "CricketHayModel" 490 ⟨"CricketHayModel", "hundreds", "(I)I"⟩ ∈ lw_good := q_t 1690 (by decide +kernel) rfl
theorem w_1691 : Cond.static ⟨"CricketHayModel", "hundreds", "(I)I"⟩ ∈ lw_good := q_t 1691 (by decide +kernel) rfl
theorem w_1692 : Cond.code ⟨"CricketHayModel", "hundreds", "(I)I"⟩ prog_14_method_94_code 3 (some .int) ∈ lw_good := q_t 1692 (by decide +kernel) rfl
theorem w_1693 : Cond.methodLink "CricketHayModel" 493 ⟨"CricketHayModel", "divisor", "(II)I"⟩ ∈ lw_good := q_t 1693 (by decide +kernel) rfl
theorem w_1694 : Cond.static ⟨"CricketHayModel", "divisor", "(II)I"⟩ ∈ lw_good := q_t 1694 (by decide +kernel) rfl
theorem w_1695 : Cond.code ⟨"CricketHayModel", "divisor", "(II)I"⟩ prog_14_method_92_code 5 (some .int) ∈ lw_good := q_t 1695 (by decide +kernel) rfl
theorem ws_88 : Cond.selects "CricketHayModel" ⟨"CricketHayModel", "isThere", "(I)Z"⟩ ⟨"CricketHayModel", "isThere", "(I)Z"⟩ ∈ lw_good := q_s 88 (by decide +kernel) rfl
theorem ws_89 : Cond.selects "CricketHayModel" ⟨"CricketHayModel", "goHour", "()V"⟩ ⟨"CricketHayModel", "goHour", "()V"⟩ ∈ lw_good := q_s 89 (by decide +kernel) rfl
theorem ws_92 : Cond.selects "CricketHayModel" ⟨"CricketHayModel", "exchange", "(I)V"⟩ ⟨"CricketHayModel", "exchange", "(I)V"⟩ ∈ lw_good := q_s 92 (by decide +kernel) rfl
theorem ws_93 : Cond.selects "CricketHayModel" ⟨"CricketHayModel", "goFar", "(I)V"⟩ ⟨"CricketHayModel", "goFar", "(I)V"⟩ ∈ lw_good := q_s 93 (by decide +kernel) rfl
theorem ws_94 : Cond.selects "CricketHayModel" ⟨"CricketHayModel", "edge", "(IIIZ)I"⟩ ⟨"CricketHayModel", "edge", "(IIIZ)I"⟩ ∈ lw_good := q_s 94 (by decide +kernel) rfl
theorem ws_95 : Cond.selects "CricketHayModel" ⟨"CricketHayModel", "laySellers", "(I)Z"⟩ ⟨"CricketHayModel", "laySellers", "(I)Z"⟩ ∈ lw_good := q_s 95 (by decide +kernel) rfl
theorem ws_96 : Cond.selects "CricketHayModel" ⟨"CricketHayModel", "canSell", "(II)Z"⟩ ⟨"CricketHayModel", "canSell", "(II)Z"⟩ ∈ lw_good := q_s 96 (by decide +kernel) rfl
theorem ws_97 : Cond.selects "CricketHayModel" ⟨"CricketHayModel", "wants", "(I)Z"⟩ ⟨"CricketHayModel", "wants", "(I)Z"⟩ ∈ lw_good := q_s 97 (by decide +kernel) rfl
theorem ws_98 : Cond.selects "CricketHayModel" ⟨"CricketHayModel", "over", "(I)I"⟩ ⟨"CricketHayModel", "over", "(I)I"⟩ ∈ lw_good := q_s 98 (by decide +kernel) rfl
theorem ws_99 : Cond.selects "CricketHayModel" ⟨"CricketHayModel", "allPrices", "()I"⟩ ⟨"CricketHayModel", "allPrices", "()I"⟩ ∈ lw_good := q_s 99 (by decide +kernel) rfl
theorem ws_100 : Cond.selects "CricketHayModel" ⟨"CricketHayModel", "isRest", "(IIIII)Z"⟩ ⟨"CricketHayModel", "isRest", "(IIIII)Z"⟩ ∈ lw_good := q_s 100 (by decide +kernel) rfl
theorem ws_101 : Cond.selects "CricketHayModel" ⟨"CricketHayModel", "payOf", "(IIIIIZ)I"⟩ ⟨"CricketHayModel", "payOf", "(IIIIIZ)I"⟩ ∈ lw_good := q_s 101 (by decide +kernel) rfl
theorem ws_102 : Cond.selects "CricketHayModel" ⟨"CricketHayModel", "canOdds", "(IIII)Z"⟩ ⟨"CricketHayModel", "canOdds", "(IIII)Z"⟩ ∈ lw_good := q_s 102 (by decide +kernel) rfl
theorem ws_103 : Cond.selects "CricketHayModel" ⟨"CricketHayModel", "shareOf", "(II)I"⟩ ⟨"CricketHayModel", "shareOf", "(II)I"⟩ ∈ lw_good := q_s 103 (by decide +kernel) rfl
abbrev y_M_isThere : MI := (⟨"CricketHayModel", "isThere", "(I)Z"⟩, prog_14_method_67_code, 2, (some .boolean))
theorem hy_M_isThere : y_M_isThere.1.cls ≠ "java/lang/invoke/MethodHandle" ∧ y_M_isThere.1.cls ≠ "java/lang/invoke/VarHandle" ∧ (parseMethodDescriptor y_M_isThere.1.desc).map (fun d => d.parameters.length) = some 1 := by decide +kernel
theorem d_M_isThere_0 : decode y_M_isThere.2.1 0 = .ok (.aload_n 0, 1) := by decide +kernel
theorem d_M_isThere_1 : decode y_M_isThere.2.1 1 = .ok (.iload_n 1, 1) := by decide +kernel
theorem d_M_isThere_2 : decode y_M_isThere.2.1 2 = .ok (.invokevirtual 385, 3) := by decide +kernel
theorem d_M_isThere_5 : decode y_M_isThere.2.1 5 = .ok (.ifCond .eq 21, 3) := by decide +kernel
theorem d_M_isThere_8 : decode y_M_isThere.2.1 8 = .ok (.aload_n 0, 1) := by decide +kernel
theorem d_M_isThere_9 : decode y_M_isThere.2.1 9 = .ok (.getfield 85, 3) := by decide +kernel
theorem d_M_isThere_12 : decode y_M_isThere.2.1 12 = .ok (.bipush 30, 2) := by decide +kernel
theorem d_M_isThere_14 : decode y_M_isThere.2.1 14 = .ok (.iaload, 1) := by decide +kernel
theorem d_M_isThere_15 : decode y_M_isThere.2.1 15 = .ok (.iload_n 1, 1) := by decide +kernel
theorem d_M_isThere_16 : decode y_M_isThere.2.1 16 = .ok (.ishr, 1) := by decide +kernel
theorem d_M_isThere_17 : decode y_M_isThere.2.1 17 = .ok (.iconst 1, 1) := by decide +kernel
theorem d_M_isThere_18 : decode y_M_isThere.2.1 18 = .ok (.iand, 1) := by decide +kernel
theorem d_M_isThere_19 : decode y_M_isThere.2.1 19 = .ok (.ifCond .ne 7, 3) := by decide +kernel
theorem d_M_isThere_22 : decode y_M_isThere.2.1 22 = .ok (.iconst 1, 1) := by decide +kernel
theorem d_M_isThere_23 : decode y_M_isThere.2.1 23 = .ok (.goto 4, 3) := by decide +kernel
theorem d_M_isThere_26 : decode y_M_isThere.2.1 26 = .ok (.iconst 0, 1) := by decide +kernel
theorem d_M_isThere_27 : decode y_M_isThere.2.1 27 = .ok (.ireturn, 1) := by decide +kernel

abbrev y_M_breathe : MI := (⟨"CricketHayModel", "breathe", "(II)I"⟩, prog_14_method_68_code, 4, (some .int))
theorem hy_M_breathe : y_M_breathe.1.cls ≠ "java/lang/invoke/MethodHandle" ∧ y_M_breathe.1.cls ≠ "java/lang/invoke/VarHandle" ∧ (parseMethodDescriptor y_M_breathe.1.desc).map (fun d => d.parameters.length) = some 2 := by decide +kernel
theorem d_M_breathe_0 : decode y_M_breathe.2.1 0 = .ok (.aload_n 0, 1) := by decide +kernel
theorem d_M_breathe_1 : decode y_M_breathe.2.1 1 = .ok (.iload_n 1, 1) := by decide +kernel
theorem d_M_breathe_2 : decode y_M_breathe.2.1 2 = .ok (.invokevirtual 437, 3) := by decide +kernel
theorem d_M_breathe_5 : decode y_M_breathe.2.1 5 = .ok (.ifCond .eq 26, 3) := by decide +kernel
theorem d_M_breathe_8 : decode y_M_breathe.2.1 8 = .ok (.iload_n 2, 1) := by decide +kernel
theorem d_M_breathe_9 : decode y_M_breathe.2.1 9 = .ok (.bipush (-5), 2) := by decide +kernel
theorem d_M_breathe_11 : decode y_M_breathe.2.1 11 = .ok (.iconst 5, 1) := by decide +kernel
theorem d_M_breathe_12 : decode y_M_breathe.2.1 12 = .ok (.invokestatic 381, 3) := by decide +kernel
theorem d_M_breathe_15 : decode y_M_breathe.2.1 15 = .ok (.ifCond .eq 16, 3) := by decide +kernel
theorem d_M_breathe_18 : decode y_M_breathe.2.1 18 = .ok (.aload_n 0, 1) := by decide +kernel
theorem d_M_breathe_19 : decode y_M_breathe.2.1 19 = .ok (.getfield 85, 3) := by decide +kernel
theorem d_M_breathe_22 : decode y_M_breathe.2.1 22 = .ok (.bipush 24, 2) := by decide +kernel
theorem d_M_breathe_24 : decode y_M_breathe.2.1 24 = .ok (.iload_n 1, 1) := by decide +kernel
theorem d_M_breathe_25 : decode y_M_breathe.2.1 25 = .ok (.iadd, 1) := by decide +kernel
theorem d_M_breathe_26 : decode y_M_breathe.2.1 26 = .ok (.iaload, 1) := by decide +kernel
theorem d_M_breathe_27 : decode y_M_breathe.2.1 27 = .ok (.iload_n 2, 1) := by decide +kernel
theorem d_M_breathe_28 : decode y_M_breathe.2.1 28 = .ok (.if_icmp .ne 6, 3) := by decide +kernel
theorem d_M_breathe_31 : decode y_M_breathe.2.1 31 = .ok (.bipush (-100), 2) := by decide +kernel
theorem d_M_breathe_33 : decode y_M_breathe.2.1 33 = .ok (.ireturn, 1) := by decide +kernel
theorem d_M_breathe_34 : decode y_M_breathe.2.1 34 = .ok (.aload_n 0, 1) := by decide +kernel
theorem d_M_breathe_35 : decode y_M_breathe.2.1 35 = .ok (.invokevirtual 434, 3) := by decide +kernel
theorem d_M_breathe_38 : decode y_M_breathe.2.1 38 = .ok (.aload_n 0, 1) := by decide +kernel
theorem d_M_breathe_39 : decode y_M_breathe.2.1 39 = .ok (.getfield 85, 3) := by decide +kernel
theorem d_M_breathe_42 : decode y_M_breathe.2.1 42 = .ok (.bipush 24, 2) := by decide +kernel
theorem d_M_breathe_44 : decode y_M_breathe.2.1 44 = .ok (.iload_n 1, 1) := by decide +kernel
theorem d_M_breathe_45 : decode y_M_breathe.2.1 45 = .ok (.iadd, 1) := by decide +kernel
theorem d_M_breathe_46 : decode y_M_breathe.2.1 46 = .ok (.iaload, 1) := by decide +kernel
theorem d_M_breathe_47 : decode y_M_breathe.2.1 47 = .ok (.istore_n 3, 1) := by decide +kernel
theorem d_M_breathe_48 : decode y_M_breathe.2.1 48 = .ok (.aload_n 0, 1) := by decide +kernel
theorem d_M_breathe_49 : decode y_M_breathe.2.1 49 = .ok (.getfield 85, 3) := by decide +kernel
theorem d_M_breathe_52 : decode y_M_breathe.2.1 52 = .ok (.bipush 24, 2) := by decide +kernel
theorem d_M_breathe_54 : decode y_M_breathe.2.1 54 = .ok (.iload_n 1, 1) := by decide +kernel
theorem d_M_breathe_55 : decode y_M_breathe.2.1 55 = .ok (.iadd, 1) := by decide +kernel
theorem d_M_breathe_56 : decode y_M_breathe.2.1 56 = .ok (.iload_n 2, 1) := by decide +kernel
theorem d_M_breathe_57 : decode y_M_breathe.2.1 57 = .ok (.iastore, 1) := by decide +kernel
theorem d_M_breathe_58 : decode y_M_breathe.2.1 58 = .ok (.iload_n 3, 1) := by decide +kernel
theorem d_M_breathe_59 : decode y_M_breathe.2.1 59 = .ok (.ireturn, 1) := by decide +kernel

abbrev y_M_free : MI := (⟨"CricketHayModel", "free", "(I)I"⟩, prog_14_method_69_code, 3, (some .int))
theorem hy_M_free : y_M_free.1.cls ≠ "java/lang/invoke/MethodHandle" ∧ y_M_free.1.cls ≠ "java/lang/invoke/VarHandle" ∧ (parseMethodDescriptor y_M_free.1.desc).map (fun d => d.parameters.length) = some 1 := by decide +kernel
theorem d_M_free_0 : decode y_M_free.2.1 0 = .ok (.aload_n 0, 1) := by decide +kernel
theorem d_M_free_1 : decode y_M_free.2.1 1 = .ok (.iload_n 1, 1) := by decide +kernel
theorem d_M_free_2 : decode y_M_free.2.1 2 = .ok (.invokevirtual 437, 3) := by decide +kernel
theorem d_M_free_5 : decode y_M_free.2.1 5 = .ok (.ifCond .ne 5, 3) := by decide +kernel
theorem d_M_free_8 : decode y_M_free.2.1 8 = .ok (.iconst (-1), 1) := by decide +kernel
theorem d_M_free_9 : decode y_M_free.2.1 9 = .ok (.ireturn, 1) := by decide +kernel
theorem d_M_free_10 : decode y_M_free.2.1 10 = .ok (.aload_n 0, 1) := by decide +kernel
theorem d_M_free_11 : decode y_M_free.2.1 11 = .ok (.invokevirtual 421, 3) := by decide +kernel
theorem d_M_free_14 : decode y_M_free.2.1 14 = .ok (.aload_n 0, 1) := by decide +kernel
theorem d_M_free_15 : decode y_M_free.2.1 15 = .ok (.iload_n 1, 1) := by decide +kernel
theorem d_M_free_16 : decode y_M_free.2.1 16 = .ok (.invokevirtual 411, 3) := by decide +kernel
theorem d_M_free_19 : decode y_M_free.2.1 19 = .ok (.istore_n 2, 1) := by decide +kernel
theorem d_M_free_20 : decode y_M_free.2.1 20 = .ok (.aload_n 0, 1) := by decide +kernel
theorem d_M_free_21 : decode y_M_free.2.1 21 = .ok (.invokevirtual 434, 3) := by decide +kernel
theorem d_M_free_24 : decode y_M_free.2.1 24 = .ok (.aload_n 0, 1) := by decide +kernel
theorem d_M_free_25 : decode y_M_free.2.1 25 = .ok (.getfield 85, 3) := by decide +kernel
theorem d_M_free_28 : decode y_M_free.2.1 28 = .ok (.bipush 30, 2) := by decide +kernel
theorem d_M_free_30 : decode y_M_free.2.1 30 = .ok (.dup2, 1) := by decide +kernel
theorem d_M_free_31 : decode y_M_free.2.1 31 = .ok (.iaload, 1) := by decide +kernel
theorem d_M_free_32 : decode y_M_free.2.1 32 = .ok (.iconst 1, 1) := by decide +kernel
theorem d_M_free_33 : decode y_M_free.2.1 33 = .ok (.iload_n 1, 1) := by decide +kernel
theorem d_M_free_34 : decode y_M_free.2.1 34 = .ok (.ishl, 1) := by decide +kernel
theorem d_M_free_35 : decode y_M_free.2.1 35 = .ok (.ior, 1) := by decide +kernel
theorem d_M_free_36 : decode y_M_free.2.1 36 = .ok (.iastore, 1) := by decide +kernel
theorem d_M_free_37 : decode y_M_free.2.1 37 = .ok (.iload_n 2, 1) := by decide +kernel
theorem d_M_free_38 : decode y_M_free.2.1 38 = .ok (.ireturn, 1) := by decide +kernel

abbrev y_M_hour : MI := (⟨"CricketHayModel", "hour", "()I"⟩, prog_14_method_70_code, 2, (some .int))
theorem hy_M_hour : y_M_hour.1.cls ≠ "java/lang/invoke/MethodHandle" ∧ y_M_hour.1.cls ≠ "java/lang/invoke/VarHandle" ∧ (parseMethodDescriptor y_M_hour.1.desc).map (fun d => d.parameters.length) = some 0 := by decide +kernel
theorem d_M_hour_0 : decode y_M_hour.2.1 0 = .ok (.aload_n 0, 1) := by decide +kernel
theorem d_M_hour_1 : decode y_M_hour.2.1 1 = .ok (.getfield 85, 3) := by decide +kernel
theorem d_M_hour_4 : decode y_M_hour.2.1 4 = .ok (.bipush 32, 2) := by decide +kernel
theorem d_M_hour_6 : decode y_M_hour.2.1 6 = .ok (.iaload, 1) := by decide +kernel
theorem d_M_hour_7 : decode y_M_hour.2.1 7 = .ok (.bipush 23, 2) := by decide +kernel
theorem d_M_hour_9 : decode y_M_hour.2.1 9 = .ok (.if_icmp .ne 18, 3) := by decide +kernel
theorem d_M_hour_12 : decode y_M_hour.2.1 12 = .ok (.aload_n 0, 1) := by decide +kernel
theorem d_M_hour_13 : decode y_M_hour.2.1 13 = .ok (.getfield 85, 3) := by decide +kernel
theorem d_M_hour_16 : decode y_M_hour.2.1 16 = .ok (.bipush 33, 2) := by decide +kernel
theorem d_M_hour_18 : decode y_M_hour.2.1 18 = .ok (.iaload, 1) := by decide +kernel
theorem d_M_hour_19 : decode y_M_hour.2.1 19 = .ok (.sipush 999, 3) := by decide +kernel
theorem d_M_hour_22 : decode y_M_hour.2.1 22 = .ok (.if_icmp .ne 5, 3) := by decide +kernel
theorem d_M_hour_25 : decode y_M_hour.2.1 25 = .ok (.iconst (-1), 1) := by decide +kernel
theorem d_M_hour_26 : decode y_M_hour.2.1 26 = .ok (.ireturn, 1) := by decide +kernel
theorem d_M_hour_27 : decode y_M_hour.2.1 27 = .ok (.aload_n 0, 1) := by decide +kernel
theorem d_M_hour_28 : decode y_M_hour.2.1 28 = .ok (.invokevirtual 434, 3) := by decide +kernel
theorem d_M_hour_31 : decode y_M_hour.2.1 31 = .ok (.aload_n 0, 1) := by decide +kernel
theorem d_M_hour_32 : decode y_M_hour.2.1 32 = .ok (.invokevirtual 421, 3) := by decide +kernel
theorem d_M_hour_35 : decode y_M_hour.2.1 35 = .ok (.aload_n 0, 1) := by decide +kernel
theorem d_M_hour_36 : decode y_M_hour.2.1 36 = .ok (.invokevirtual 440, 3) := by decide +kernel
theorem d_M_hour_39 : decode y_M_hour.2.1 39 = .ok (.iconst 0, 1) := by decide +kernel
theorem d_M_hour_40 : decode y_M_hour.2.1 40 = .ok (.istore_n 1, 1) := by decide +kernel
theorem d_M_hour_41 : decode y_M_hour.2.1 41 = .ok (.iload_n 1, 1) := by decide +kernel
theorem d_M_hour_42 : decode y_M_hour.2.1 42 = .ok (.bipush 35, 2) := by decide +kernel
theorem d_M_hour_44 : decode y_M_hour.2.1 44 = .ok (.if_icmp .ge 21, 3) := by decide +kernel
theorem d_M_hour_47 : decode y_M_hour.2.1 47 = .ok (.aload_n 0, 1) := by decide +kernel
theorem d_M_hour_48 : decode y_M_hour.2.1 48 = .ok (.getfield 85, 3) := by decide +kernel
theorem d_M_hour_51 : decode y_M_hour.2.1 51 = .ok (.iload_n 1, 1) := by decide +kernel
theorem d_M_hour_52 : decode y_M_hour.2.1 52 = .ok (.aload_n 0, 1) := by decide +kernel
theorem d_M_hour_53 : decode y_M_hour.2.1 53 = .ok (.getfield 88, 3) := by decide +kernel
theorem d_M_hour_56 : decode y_M_hour.2.1 56 = .ok (.iload_n 1, 1) := by decide +kernel
theorem d_M_hour_57 : decode y_M_hour.2.1 57 = .ok (.iaload, 1) := by decide +kernel
theorem d_M_hour_58 : decode y_M_hour.2.1 58 = .ok (.iastore, 1) := by decide +kernel
theorem d_M_hour_59 : decode y_M_hour.2.1 59 = .ok (.iinc 1 1, 3) := by decide +kernel
theorem d_M_hour_62 : decode y_M_hour.2.1 62 = .ok (.goto (-21), 3) := by decide +kernel
theorem d_M_hour_65 : decode y_M_hour.2.1 65 = .ok (.aload_n 0, 1) := by decide +kernel
theorem d_M_hour_66 : decode y_M_hour.2.1 66 = .ok (.invokevirtual 401, 3) := by decide +kernel
theorem d_M_hour_69 : decode y_M_hour.2.1 69 = .ok (.ireturn, 1) := by decide +kernel

abbrev y_M_undo : MI := (⟨"CricketHayModel", "undo", "()Z"⟩, prog_14_method_71_code, 1, (some .boolean))
theorem hy_M_undo : y_M_undo.1.cls ≠ "java/lang/invoke/MethodHandle" ∧ y_M_undo.1.cls ≠ "java/lang/invoke/VarHandle" ∧ (parseMethodDescriptor y_M_undo.1.desc).map (fun d => d.parameters.length) = some 0 := by decide +kernel
theorem d_M_undo_0 : decode y_M_undo.2.1 0 = .ok (.aload_n 0, 1) := by decide +kernel
theorem d_M_undo_1 : decode y_M_undo.2.1 1 = .ok (.getfield 369, 3) := by decide +kernel
theorem d_M_undo_4 : decode y_M_undo.2.1 4 = .ok (.ifCond .ne 5, 3) := by decide +kernel
theorem d_M_undo_7 : decode y_M_undo.2.1 7 = .ok (.iconst 0, 1) := by decide +kernel
theorem d_M_undo_8 : decode y_M_undo.2.1 8 = .ok (.ireturn, 1) := by decide +kernel
theorem d_M_undo_9 : decode y_M_undo.2.1 9 = .ok (.aload_n 0, 1) := by decide +kernel
theorem d_M_undo_10 : decode y_M_undo.2.1 10 = .ok (.dup, 1) := by decide +kernel
theorem d_M_undo_11 : decode y_M_undo.2.1 11 = .ok (.getfield 369, 3) := by decide +kernel
theorem d_M_undo_14 : decode y_M_undo.2.1 14 = .ok (.iconst 1, 1) := by decide +kernel
theorem d_M_undo_15 : decode y_M_undo.2.1 15 = .ok (.isub, 1) := by decide +kernel
theorem d_M_undo_16 : decode y_M_undo.2.1 16 = .ok (.putfield 369, 3) := by decide +kernel
theorem d_M_undo_19 : decode y_M_undo.2.1 19 = .ok (.aload_n 0, 1) := by decide +kernel
theorem d_M_undo_20 : decode y_M_undo.2.1 20 = .ok (.dup, 1) := by decide +kernel
theorem d_M_undo_21 : decode y_M_undo.2.1 21 = .ok (.getfield 372, 3) := by decide +kernel
theorem d_M_undo_24 : decode y_M_undo.2.1 24 = .ok (.iconst 1, 1) := by decide +kernel
theorem d_M_undo_25 : decode y_M_undo.2.1 25 = .ok (.iadd, 1) := by decide +kernel
theorem d_M_undo_26 : decode y_M_undo.2.1 26 = .ok (.putfield 372, 3) := by decide +kernel
theorem d_M_undo_29 : decode y_M_undo.2.1 29 = .ok (.aload_n 0, 1) := by decide +kernel
theorem d_M_undo_30 : decode y_M_undo.2.1 30 = .ok (.bipush 35, 2) := by decide +kernel
theorem d_M_undo_32 : decode y_M_undo.2.1 32 = .ok (.aload_n 0, 1) := by decide +kernel
theorem d_M_undo_33 : decode y_M_undo.2.1 33 = .ok (.getfield 369, 3) := by decide +kernel
theorem d_M_undo_36 : decode y_M_undo.2.1 36 = .ok (.imul, 1) := by decide +kernel
theorem d_M_undo_37 : decode y_M_undo.2.1 37 = .ok (.invokevirtual 443, 3) := by decide +kernel
theorem d_M_undo_40 : decode y_M_undo.2.1 40 = .ok (.iconst 1, 1) := by decide +kernel
theorem d_M_undo_41 : decode y_M_undo.2.1 41 = .ok (.ireturn, 1) := by decide +kernel

abbrev y_M_redo : MI := (⟨"CricketHayModel", "redo", "()Z"⟩, prog_14_method_72_code, 1, (some .boolean))
theorem hy_M_redo : y_M_redo.1.cls ≠ "java/lang/invoke/MethodHandle" ∧ y_M_redo.1.cls ≠ "java/lang/invoke/VarHandle" ∧ (parseMethodDescriptor y_M_redo.1.desc).map (fun d => d.parameters.length) = some 0 := by decide +kernel
theorem d_M_redo_0 : decode y_M_redo.2.1 0 = .ok (.aload_n 0, 1) := by decide +kernel
theorem d_M_redo_1 : decode y_M_redo.2.1 1 = .ok (.getfield 372, 3) := by decide +kernel
theorem d_M_redo_4 : decode y_M_redo.2.1 4 = .ok (.ifCond .ne 5, 3) := by decide +kernel
theorem d_M_redo_7 : decode y_M_redo.2.1 7 = .ok (.iconst 0, 1) := by decide +kernel
theorem d_M_redo_8 : decode y_M_redo.2.1 8 = .ok (.ireturn, 1) := by decide +kernel
theorem d_M_redo_9 : decode y_M_redo.2.1 9 = .ok (.aload_n 0, 1) := by decide +kernel
theorem d_M_redo_10 : decode y_M_redo.2.1 10 = .ok (.bipush 35, 2) := by decide +kernel
theorem d_M_redo_12 : decode y_M_redo.2.1 12 = .ok (.aload_n 0, 1) := by decide +kernel
theorem d_M_redo_13 : decode y_M_redo.2.1 13 = .ok (.getfield 369, 3) := by decide +kernel
theorem d_M_redo_16 : decode y_M_redo.2.1 16 = .ok (.imul, 1) := by decide +kernel
theorem d_M_redo_17 : decode y_M_redo.2.1 17 = .ok (.invokevirtual 443, 3) := by decide +kernel
theorem d_M_redo_20 : decode y_M_redo.2.1 20 = .ok (.aload_n 0, 1) := by decide +kernel
theorem d_M_redo_21 : decode y_M_redo.2.1 21 = .ok (.dup, 1) := by decide +kernel
theorem d_M_redo_22 : decode y_M_redo.2.1 22 = .ok (.getfield 369, 3) := by decide +kernel
theorem d_M_redo_25 : decode y_M_redo.2.1 25 = .ok (.iconst 1, 1) := by decide +kernel
theorem d_M_redo_26 : decode y_M_redo.2.1 26 = .ok (.iadd, 1) := by decide +kernel
theorem d_M_redo_27 : decode y_M_redo.2.1 27 = .ok (.putfield 369, 3) := by decide +kernel
theorem d_M_redo_30 : decode y_M_redo.2.1 30 = .ok (.aload_n 0, 1) := by decide +kernel
theorem d_M_redo_31 : decode y_M_redo.2.1 31 = .ok (.dup, 1) := by decide +kernel
theorem d_M_redo_32 : decode y_M_redo.2.1 32 = .ok (.getfield 372, 3) := by decide +kernel
theorem d_M_redo_35 : decode y_M_redo.2.1 35 = .ok (.iconst 1, 1) := by decide +kernel
theorem d_M_redo_36 : decode y_M_redo.2.1 36 = .ok (.isub, 1) := by decide +kernel
theorem d_M_redo_37 : decode y_M_redo.2.1 37 = .ok (.putfield 372, 3) := by decide +kernel
theorem d_M_redo_40 : decode y_M_redo.2.1 40 = .ok (.iconst 1, 1) := by decide +kernel
theorem d_M_redo_41 : decode y_M_redo.2.1 41 = .ok (.ireturn, 1) := by decide +kernel

abbrev y_M_goFar : MI := (⟨"CricketHayModel", "goFar", "(I)V"⟩, prog_14_method_73_code, 3, none)
theorem hy_M_goFar : y_M_goFar.1.cls ≠ "java/lang/invoke/MethodHandle" ∧ y_M_goFar.1.cls ≠ "java/lang/invoke/VarHandle" ∧ (parseMethodDescriptor y_M_goFar.1.desc).map (fun d => d.parameters.length) = some 1 := by decide +kernel
theorem d_M_goFar_0 : decode y_M_goFar.2.1 0 = .ok (.aload_n 0, 1) := by decide +kernel
theorem d_M_goFar_1 : decode y_M_goFar.2.1 1 = .ok (.invokevirtual 421, 3) := by decide +kernel
theorem d_M_goFar_4 : decode y_M_goFar.2.1 4 = .ok (.iconst 0, 1) := by decide +kernel
theorem d_M_goFar_5 : decode y_M_goFar.2.1 5 = .ok (.istore_n 2, 1) := by decide +kernel
theorem d_M_goFar_6 : decode y_M_goFar.2.1 6 = .ok (.iload_n 2, 1) := by decide +kernel
theorem d_M_goFar_7 : decode y_M_goFar.2.1 7 = .ok (.iload_n 1, 1) := by decide +kernel
theorem d_M_goFar_8 : decode y_M_goFar.2.1 8 = .ok (.if_icmp .ge 13, 3) := by decide +kernel
theorem d_M_goFar_11 : decode y_M_goFar.2.1 11 = .ok (.aload_n 0, 1) := by decide +kernel
theorem d_M_goFar_12 : decode y_M_goFar.2.1 12 = .ok (.invokevirtual 440, 3) := by decide +kernel
theorem d_M_goFar_15 : decode y_M_goFar.2.1 15 = .ok (.iinc 2 1, 3) := by decide +kernel
theorem d_M_goFar_18 : decode y_M_goFar.2.1 18 = .ok (.goto (-12), 3) := by decide +kernel
theorem d_M_goFar_21 : decode y_M_goFar.2.1 21 = .ok (.return_, 1) := by decide +kernel

abbrev y_M_will : MI := (⟨"CricketHayModel", "will", "(III)I"⟩, prog_14_method_74_code, 4, (some .int))
theorem hy_M_will : y_M_will.1.cls ≠ "java/lang/invoke/MethodHandle" ∧ y_M_will.1.cls ≠ "java/lang/invoke/VarHandle" ∧ (parseMethodDescriptor y_M_will.1.desc).map (fun d => d.parameters.length) = some 3 := by decide +kernel
theorem d_M_will_0 : decode y_M_will.2.1 0 = .ok (.aload_n 0, 1) := by decide +kernel
theorem d_M_will_1 : decode y_M_will.2.1 1 = .ok (.iload_n 1, 1) := by decide +kernel
theorem d_M_will_2 : decode y_M_will.2.1 2 = .ok (.iload_n 2, 1) := by decide +kernel
theorem d_M_will_3 : decode y_M_will.2.1 3 = .ok (.invokevirtual 424, 3) := by decide +kernel
theorem d_M_will_6 : decode y_M_will.2.1 6 = .ok (.ifCond .eq 13, 3) := by decide +kernel
theorem d_M_will_9 : decode y_M_will.2.1 9 = .ok (.iload_n 3, 1) := by decide +kernel
theorem d_M_will_10 : decode y_M_will.2.1 10 = .ok (.iconst 0, 1) := by decide +kernel
theorem d_M_will_11 : decode y_M_will.2.1 11 = .ok (.bipush 60, 2) := by decide +kernel
theorem d_M_will_13 : decode y_M_will.2.1 13 = .ok (.invokestatic 381, 3) := by decide +kernel
theorem d_M_will_16 : decode y_M_will.2.1 16 = .ok (.ifCond .ne 5, 3) := by decide +kernel
theorem d_M_will_19 : decode y_M_will.2.1 19 = .ok (.iconst (-1), 1) := by decide +kernel
theorem d_M_will_20 : decode y_M_will.2.1 20 = .ok (.ireturn, 1) := by decide +kernel
theorem d_M_will_21 : decode y_M_will.2.1 21 = .ok (.aload_n 0, 1) := by decide +kernel
theorem d_M_will_22 : decode y_M_will.2.1 22 = .ok (.iload_n 3, 1) := by decide +kernel
theorem d_M_will_23 : decode y_M_will.2.1 23 = .ok (.invokevirtual 446, 3) := by decide +kernel
theorem d_M_will_26 : decode y_M_will.2.1 26 = .ok (.aload_n 0, 1) := by decide +kernel
theorem d_M_will_27 : decode y_M_will.2.1 27 = .ok (.iload_n 1, 1) := by decide +kernel
theorem d_M_will_28 : decode y_M_will.2.1 28 = .ok (.iload_n 2, 1) := by decide +kernel
theorem d_M_will_29 : decode y_M_will.2.1 29 = .ok (.invokevirtual 428, 3) := by decide +kernel
theorem d_M_will_32 : decode y_M_will.2.1 32 = .ok (.ireturn, 1) := by decide +kernel

abbrev y_M_edge : MI := (⟨"CricketHayModel", "edge", "(IIIZ)I"⟩, prog_14_method_75_code, 9, (some .int))
theorem hy_M_edge : y_M_edge.1.cls ≠ "java/lang/invoke/MethodHandle" ∧ y_M_edge.1.cls ≠ "java/lang/invoke/VarHandle" ∧ (parseMethodDescriptor y_M_edge.1.desc).map (fun d => d.parameters.length) = some 4 := by decide +kernel
theorem d_M_edge_0 : decode y_M_edge.2.1 0 = .ok (.aload_n 0, 1) := by decide +kernel
theorem d_M_edge_1 : decode y_M_edge.2.1 1 = .ok (.invokevirtual 421, 3) := by decide +kernel
theorem d_M_edge_4 : decode y_M_edge.2.1 4 = .ok (.iconst 0, 1) := by decide +kernel
theorem d_M_edge_5 : decode y_M_edge.2.1 5 = .ok (.istore 5, 2) := by decide +kernel
theorem d_M_edge_7 : decode y_M_edge.2.1 7 = .ok (.aload_n 0, 1) := by decide +kernel
theorem d_M_edge_8 : decode y_M_edge.2.1 8 = .ok (.iload_n 1, 1) := by decide +kernel
theorem d_M_edge_9 : decode y_M_edge.2.1 9 = .ok (.iload_n 2, 1) := by decide +kernel
theorem d_M_edge_10 : decode y_M_edge.2.1 10 = .ok (.invokevirtual 428, 3) := by decide +kernel
theorem d_M_edge_13 : decode y_M_edge.2.1 13 = .ok (.istore 6, 2) := by decide +kernel
theorem d_M_edge_15 : decode y_M_edge.2.1 15 = .ok (.iconst 1, 1) := by decide +kernel
theorem d_M_edge_16 : decode y_M_edge.2.1 16 = .ok (.istore 7, 2) := by decide +kernel
theorem d_M_edge_18 : decode y_M_edge.2.1 18 = .ok (.iload 7, 2) := by decide +kernel
theorem d_M_edge_20 : decode y_M_edge.2.1 20 = .ok (.iload_n 3, 1) := by decide +kernel
theorem d_M_edge_21 : decode y_M_edge.2.1 21 = .ok (.if_icmp .gt 54, 3) := by decide +kernel
theorem d_M_edge_24 : decode y_M_edge.2.1 24 = .ok (.aload_n 0, 1) := by decide +kernel
theorem d_M_edge_25 : decode y_M_edge.2.1 25 = .ok (.invokevirtual 440, 3) := by decide +kernel
theorem d_M_edge_28 : decode y_M_edge.2.1 28 = .ok (.aload_n 0, 1) := by decide +kernel
theorem d_M_edge_29 : decode y_M_edge.2.1 29 = .ok (.iload_n 1, 1) := by decide +kernel
theorem d_M_edge_30 : decode y_M_edge.2.1 30 = .ok (.iload_n 2, 1) := by decide +kernel
theorem d_M_edge_31 : decode y_M_edge.2.1 31 = .ok (.invokevirtual 428, 3) := by decide +kernel
theorem d_M_edge_34 : decode y_M_edge.2.1 34 = .ok (.istore 8, 2) := by decide +kernel
theorem d_M_edge_36 : decode y_M_edge.2.1 36 = .ok (.iload 4, 2) := by decide +kernel
theorem d_M_edge_38 : decode y_M_edge.2.1 38 = .ok (.ifCond .eq 13, 3) := by decide +kernel
theorem d_M_edge_41 : decode y_M_edge.2.1 41 = .ok (.iload 8, 2) := by decide +kernel
theorem d_M_edge_43 : decode y_M_edge.2.1 43 = .ok (.iload 6, 2) := by decide +kernel
theorem d_M_edge_45 : decode y_M_edge.2.1 45 = .ok (.if_icmp .gt 16, 3) := by decide +kernel
theorem d_M_edge_48 : decode y_M_edge.2.1 48 = .ok (.goto 21, 3) := by decide +kernel
theorem d_M_edge_51 : decode y_M_edge.2.1 51 = .ok (.iload 8, 2) := by decide +kernel
theorem d_M_edge_53 : decode y_M_edge.2.1 53 = .ok (.iload 6, 2) := by decide +kernel
theorem d_M_edge_55 : decode y_M_edge.2.1 55 = .ok (.if_icmp .lt 6, 3) := by decide +kernel
theorem d_M_edge_58 : decode y_M_edge.2.1 58 = .ok (.goto 11, 3) := by decide +kernel
theorem d_M_edge_61 : decode y_M_edge.2.1 61 = .ok (.iload 8, 2) := by decide +kernel
theorem d_M_edge_63 : decode y_M_edge.2.1 63 = .ok (.istore 6, 2) := by decide +kernel
theorem d_M_edge_65 : decode y_M_edge.2.1 65 = .ok (.iload 7, 2) := by decide +kernel
theorem d_M_edge_67 : decode y_M_edge.2.1 67 = .ok (.istore 5, 2) := by decide +kernel
theorem d_M_edge_69 : decode y_M_edge.2.1 69 = .ok (.iinc 7 1, 3) := by decide +kernel
theorem d_M_edge_72 : decode y_M_edge.2.1 72 = .ok (.goto (-54), 3) := by decide +kernel
theorem d_M_edge_75 : decode y_M_edge.2.1 75 = .ok (.iload 5, 2) := by decide +kernel
theorem d_M_edge_77 : decode y_M_edge.2.1 77 = .ok (.ireturn, 1) := by decide +kernel

abbrev y_M_low : MI := (⟨"CricketHayModel", "low", "(III)I"⟩, prog_14_method_76_code, 4, (some .int))
theorem hy_M_low : y_M_low.1.cls ≠ "java/lang/invoke/MethodHandle" ∧ y_M_low.1.cls ≠ "java/lang/invoke/VarHandle" ∧ (parseMethodDescriptor y_M_low.1.desc).map (fun d => d.parameters.length) = some 3 := by decide +kernel
theorem d_M_low_0 : decode y_M_low.2.1 0 = .ok (.aload_n 0, 1) := by decide +kernel
theorem d_M_low_1 : decode y_M_low.2.1 1 = .ok (.iload_n 1, 1) := by decide +kernel
theorem d_M_low_2 : decode y_M_low.2.1 2 = .ok (.iload_n 2, 1) := by decide +kernel
theorem d_M_low_3 : decode y_M_low.2.1 3 = .ok (.invokevirtual 424, 3) := by decide +kernel
theorem d_M_low_6 : decode y_M_low.2.1 6 = .ok (.ifCond .eq 24, 3) := by decide +kernel
theorem d_M_low_9 : decode y_M_low.2.1 9 = .ok (.iload_n 3, 1) := by decide +kernel
theorem d_M_low_10 : decode y_M_low.2.1 10 = .ok (.iconst 0, 1) := by decide +kernel
theorem d_M_low_11 : decode y_M_low.2.1 11 = .ok (.bipush 60, 2) := by decide +kernel
theorem d_M_low_13 : decode y_M_low.2.1 13 = .ok (.invokestatic 381, 3) := by decide +kernel
theorem d_M_low_16 : decode y_M_low.2.1 16 = .ok (.ifCond .eq 14, 3) := by decide +kernel
theorem d_M_low_19 : decode y_M_low.2.1 19 = .ok (.aload_n 0, 1) := by decide +kernel
theorem d_M_low_20 : decode y_M_low.2.1 20 = .ok (.iload_n 1, 1) := by decide +kernel
theorem d_M_low_21 : decode y_M_low.2.1 21 = .ok (.iload_n 2, 1) := by decide +kernel
theorem d_M_low_22 : decode y_M_low.2.1 22 = .ok (.iload_n 3, 1) := by decide +kernel
theorem d_M_low_23 : decode y_M_low.2.1 23 = .ok (.iconst 0, 1) := by decide +kernel
theorem d_M_low_24 : decode y_M_low.2.1 24 = .ok (.invokevirtual 449, 3) := by decide +kernel
theorem d_M_low_27 : decode y_M_low.2.1 27 = .ok (.goto 4, 3) := by decide +kernel
theorem d_M_low_30 : decode y_M_low.2.1 30 = .ok (.iconst (-1), 1) := by decide +kernel
theorem d_M_low_31 : decode y_M_low.2.1 31 = .ok (.ireturn, 1) := by decide +kernel

abbrev y_M_high : MI := (⟨"CricketHayModel", "high", "(III)I"⟩, prog_14_method_77_code, 4, (some .int))
theorem hy_M_high : y_M_high.1.cls ≠ "java/lang/invoke/MethodHandle" ∧ y_M_high.1.cls ≠ "java/lang/invoke/VarHandle" ∧ (parseMethodDescriptor y_M_high.1.desc).map (fun d => d.parameters.length) = some 3 := by decide +kernel
theorem d_M_high_0 : decode y_M_high.2.1 0 = .ok (.aload_n 0, 1) := by decide +kernel
theorem d_M_high_1 : decode y_M_high.2.1 1 = .ok (.iload_n 1, 1) := by decide +kernel
theorem d_M_high_2 : decode y_M_high.2.1 2 = .ok (.iload_n 2, 1) := by decide +kernel
theorem d_M_high_3 : decode y_M_high.2.1 3 = .ok (.invokevirtual 424, 3) := by decide +kernel
theorem d_M_high_6 : decode y_M_high.2.1 6 = .ok (.ifCond .eq 24, 3) := by decide +kernel
theorem d_M_high_9 : decode y_M_high.2.1 9 = .ok (.iload_n 3, 1) := by decide +kernel
theorem d_M_high_10 : decode y_M_high.2.1 10 = .ok (.iconst 0, 1) := by decide +kernel
theorem d_M_high_11 : decode y_M_high.2.1 11 = .ok (.bipush 60, 2) := by decide +kernel
theorem d_M_high_13 : decode y_M_high.2.1 13 = .ok (.invokestatic 381, 3) := by decide +kernel
theorem d_M_high_16 : decode y_M_high.2.1 16 = .ok (.ifCond .eq 14, 3) := by decide +kernel
theorem d_M_high_19 : decode y_M_high.2.1 19 = .ok (.aload_n 0, 1) := by decide +kernel
theorem d_M_high_20 : decode y_M_high.2.1 20 = .ok (.iload_n 1, 1) := by decide +kernel
theorem d_M_high_21 : decode y_M_high.2.1 21 = .ok (.iload_n 2, 1) := by decide +kernel
theorem d_M_high_22 : decode y_M_high.2.1 22 = .ok (.iload_n 3, 1) := by decide +kernel
theorem d_M_high_23 : decode y_M_high.2.1 23 = .ok (.iconst 1, 1) := by decide +kernel
theorem d_M_high_24 : decode y_M_high.2.1 24 = .ok (.invokevirtual 449, 3) := by decide +kernel
theorem d_M_high_27 : decode y_M_high.2.1 27 = .ok (.goto 4, 3) := by decide +kernel
theorem d_M_high_30 : decode y_M_high.2.1 30 = .ok (.iconst (-1), 1) := by decide +kernel
theorem d_M_high_31 : decode y_M_high.2.1 31 = .ok (.ireturn, 1) := by decide +kernel

abbrev y_M_plan : MI := (⟨"CricketHayModel", "plan", "(IIII)I"⟩, prog_14_method_78_code, 9, (some .int))
theorem hy_M_plan : y_M_plan.1.cls ≠ "java/lang/invoke/MethodHandle" ∧ y_M_plan.1.cls ≠ "java/lang/invoke/VarHandle" ∧ (parseMethodDescriptor y_M_plan.1.desc).map (fun d => d.parameters.length) = some 4 := by decide +kernel
theorem d_M_plan_0 : decode y_M_plan.2.1 0 = .ok (.aload_n 0, 1) := by decide +kernel
theorem d_M_plan_1 : decode y_M_plan.2.1 1 = .ok (.iconst 0, 1) := by decide +kernel
theorem d_M_plan_2 : decode y_M_plan.2.1 2 = .ok (.putfield 378, 3) := by decide +kernel
theorem d_M_plan_5 : decode y_M_plan.2.1 5 = .ok (.aload_n 0, 1) := by decide +kernel
theorem d_M_plan_6 : decode y_M_plan.2.1 6 = .ok (.iload_n 1, 1) := by decide +kernel
theorem d_M_plan_7 : decode y_M_plan.2.1 7 = .ok (.iload_n 2, 1) := by decide +kernel
theorem d_M_plan_8 : decode y_M_plan.2.1 8 = .ok (.invokevirtual 424, 3) := by decide +kernel
theorem d_M_plan_11 : decode y_M_plan.2.1 11 = .ok (.ifCond .eq 35, 3) := by decide +kernel
theorem d_M_plan_14 : decode y_M_plan.2.1 14 = .ok (.iload_n 3, 1) := by decide +kernel
theorem d_M_plan_15 : decode y_M_plan.2.1 15 = .ok (.iconst 1, 1) := by decide +kernel
theorem d_M_plan_16 : decode y_M_plan.2.1 16 = .ok (.bipush 20, 2) := by decide +kernel
theorem d_M_plan_18 : decode y_M_plan.2.1 18 = .ok (.invokestatic 381, 3) := by decide +kernel
theorem d_M_plan_21 : decode y_M_plan.2.1 21 = .ok (.ifCond .eq 25, 3) := by decide +kernel
theorem d_M_plan_24 : decode y_M_plan.2.1 24 = .ok (.iload 4, 2) := by decide +kernel
theorem d_M_plan_26 : decode y_M_plan.2.1 26 = .ok (.iconst 1, 1) := by decide +kernel
theorem d_M_plan_27 : decode y_M_plan.2.1 27 = .ok (.bipush 12, 2) := by decide +kernel
theorem d_M_plan_29 : decode y_M_plan.2.1 29 = .ok (.invokestatic 381, 3) := by decide +kernel
theorem d_M_plan_32 : decode y_M_plan.2.1 32 = .ok (.ifCond .eq 14, 3) := by decide +kernel
theorem d_M_plan_35 : decode y_M_plan.2.1 35 = .ok (.aload_n 0, 1) := by decide +kernel
theorem d_M_plan_36 : decode y_M_plan.2.1 36 = .ok (.getfield 82, 3) := by decide +kernel
theorem d_M_plan_39 : decode y_M_plan.2.1 39 = .ok (.iload 4, 2) := by decide +kernel
theorem d_M_plan_41 : decode y_M_plan.2.1 41 = .ok (.imul, 1) := by decide +kernel
theorem d_M_plan_42 : decode y_M_plan.2.1 42 = .ok (.iload_n 3, 1) := by decide +kernel
theorem d_M_plan_43 : decode y_M_plan.2.1 43 = .ok (.if_icmp .ge 5, 3) := by decide +kernel
theorem d_M_plan_46 : decode y_M_plan.2.1 46 = .ok (.iconst (-1), 1) := by decide +kernel
theorem d_M_plan_47 : decode y_M_plan.2.1 47 = .ok (.ireturn, 1) := by decide +kernel
theorem d_M_plan_48 : decode y_M_plan.2.1 48 = .ok (.aload_n 0, 1) := by decide +kernel
theorem d_M_plan_49 : decode y_M_plan.2.1 49 = .ok (.invokevirtual 421, 3) := by decide +kernel
theorem d_M_plan_52 : decode y_M_plan.2.1 52 = .ok (.iconst 0, 1) := by decide +kernel
theorem d_M_plan_53 : decode y_M_plan.2.1 53 = .ok (.istore 5, 2) := by decide +kernel
theorem d_M_plan_55 : decode y_M_plan.2.1 55 = .ok (.iload 5, 2) := by decide +kernel
theorem d_M_plan_57 : decode y_M_plan.2.1 57 = .ok (.iload 4, 2) := by decide +kernel
theorem d_M_plan_59 : decode y_M_plan.2.1 59 = .ok (.if_icmp .ge 34, 3) := by decide +kernel
theorem d_M_plan_62 : decode y_M_plan.2.1 62 = .ok (.aload_n 0, 1) := by decide +kernel
theorem d_M_plan_63 : decode y_M_plan.2.1 63 = .ok (.getfield 94, 3) := by decide +kernel
theorem d_M_plan_66 : decode y_M_plan.2.1 66 = .ok (.iload 5, 2) := by decide +kernel
theorem d_M_plan_68 : decode y_M_plan.2.1 68 = .ok (.aload_n 0, 1) := by decide +kernel
theorem d_M_plan_69 : decode y_M_plan.2.1 69 = .ok (.iload_n 1, 1) := by decide +kernel
theorem d_M_plan_70 : decode y_M_plan.2.1 70 = .ok (.iload_n 2, 1) := by decide +kernel
theorem d_M_plan_71 : decode y_M_plan.2.1 71 = .ok (.invokevirtual 428, 3) := by decide +kernel
theorem d_M_plan_74 : decode y_M_plan.2.1 74 = .ok (.iastore, 1) := by decide +kernel
theorem d_M_plan_75 : decode y_M_plan.2.1 75 = .ok (.aload_n 0, 1) := by decide +kernel
theorem d_M_plan_76 : decode y_M_plan.2.1 76 = .ok (.getfield 97, 3) := by decide +kernel
theorem d_M_plan_79 : decode y_M_plan.2.1 79 = .ok (.iload 5, 2) := by decide +kernel
theorem d_M_plan_81 : decode y_M_plan.2.1 81 = .ok (.iconst 0, 1) := by decide +kernel
theorem d_M_plan_82 : decode y_M_plan.2.1 82 = .ok (.iastore, 1) := by decide +kernel
theorem d_M_plan_83 : decode y_M_plan.2.1 83 = .ok (.aload_n 0, 1) := by decide +kernel
theorem d_M_plan_84 : decode y_M_plan.2.1 84 = .ok (.invokevirtual 440, 3) := by decide +kernel
theorem d_M_plan_87 : decode y_M_plan.2.1 87 = .ok (.iinc 5 1, 3) := by decide +kernel
theorem d_M_plan_90 : decode y_M_plan.2.1 90 = .ok (.goto (-35), 3) := by decide +kernel
theorem d_M_plan_93 : decode y_M_plan.2.1 93 = .ok (.iload_n 3, 1) := by decide +kernel
theorem d_M_plan_94 : decode y_M_plan.2.1 94 = .ok (.istore 5, 2) := by decide +kernel
theorem d_M_plan_96 : decode y_M_plan.2.1 96 = .ok (.iconst 0, 1) := by decide +kernel
theorem d_M_plan_97 : decode y_M_plan.2.1 97 = .ok (.istore 6, 2) := by decide +kernel
theorem d_M_plan_99 : decode y_M_plan.2.1 99 = .ok (.iload 5, 2) := by decide +kernel
theorem d_M_plan_101 : decode y_M_plan.2.1 101 = .ok (.ifCond .le 91, 3) := by decide +kernel
theorem d_M_plan_104 : decode y_M_plan.2.1 104 = .ok (.iconst (-1), 1) := by decide +kernel
theorem d_M_plan_105 : decode y_M_plan.2.1 105 = .ok (.istore 7, 2) := by decide +kernel
theorem d_M_plan_107 : decode y_M_plan.2.1 107 = .ok (.iconst 0, 1) := by decide +kernel
theorem d_M_plan_108 : decode y_M_plan.2.1 108 = .ok (.istore 8, 2) := by decide +kernel
theorem d_M_plan_110 : decode y_M_plan.2.1 110 = .ok (.iload 8, 2) := by decide +kernel
theorem d_M_plan_112 : decode y_M_plan.2.1 112 = .ok (.iload 4, 2) := by decide +kernel
theorem d_M_plan_114 : decode y_M_plan.2.1 114 = .ok (.if_icmp .ge 49, 3) := by decide +kernel
theorem d_M_plan_117 : decode y_M_plan.2.1 117 = .ok (.aload_n 0, 1) := by decide +kernel
theorem d_M_plan_118 : decode y_M_plan.2.1 118 = .ok (.getfield 97, 3) := by decide +kernel
theorem d_M_plan_121 : decode y_M_plan.2.1 121 = .ok (.iload 8, 2) := by decide +kernel
theorem d_M_plan_123 : decode y_M_plan.2.1 123 = .ok (.iaload, 1) := by decide +kernel
theorem d_M_plan_124 : decode y_M_plan.2.1 124 = .ok (.aload_n 0, 1) := by decide +kernel
theorem d_M_plan_125 : decode y_M_plan.2.1 125 = .ok (.getfield 82, 3) := by decide +kernel
theorem d_M_plan_128 : decode y_M_plan.2.1 128 = .ok (.if_icmp .ge 29, 3) := by decide +kernel
theorem d_M_plan_131 : decode y_M_plan.2.1 131 = .ok (.iload 7, 2) := by decide +kernel
theorem d_M_plan_133 : decode y_M_plan.2.1 133 = .ok (.ifCond .lt 20, 3) := by decide +kernel
theorem d_M_plan_136 : decode y_M_plan.2.1 136 = .ok (.aload_n 0, 1) := by decide +kernel
theorem d_M_plan_137 : decode y_M_plan.2.1 137 = .ok (.getfield 94, 3) := by decide +kernel
theorem d_M_plan_140 : decode y_M_plan.2.1 140 = .ok (.iload 8, 2) := by decide +kernel
theorem d_M_plan_142 : decode y_M_plan.2.1 142 = .ok (.iaload, 1) := by decide +kernel
theorem d_M_plan_143 : decode y_M_plan.2.1 143 = .ok (.aload_n 0, 1) := by decide +kernel
theorem d_M_plan_144 : decode y_M_plan.2.1 144 = .ok (.getfield 94, 3) := by decide +kernel
theorem d_M_plan_147 : decode y_M_plan.2.1 147 = .ok (.iload 7, 2) := by decide +kernel
theorem d_M_plan_149 : decode y_M_plan.2.1 149 = .ok (.iaload, 1) := by decide +kernel
theorem d_M_plan_150 : decode y_M_plan.2.1 150 = .ok (.if_icmp .ge 7, 3) := by decide +kernel
theorem d_M_plan_153 : decode y_M_plan.2.1 153 = .ok (.iload 8, 2) := by decide +kernel
theorem d_M_plan_155 : decode y_M_plan.2.1 155 = .ok (.istore 7, 2) := by decide +kernel
theorem d_M_plan_157 : decode y_M_plan.2.1 157 = .ok (.iinc 8 1, 3) := by decide +kernel
theorem d_M_plan_160 : decode y_M_plan.2.1 160 = .ok (.goto (-50), 3) := by decide +kernel
theorem d_M_plan_163 : decode y_M_plan.2.1 163 = .ok (.aload_n 0, 1) := by decide +kernel
theorem d_M_plan_164 : decode y_M_plan.2.1 164 = .ok (.getfield 97, 3) := by decide +kernel
theorem d_M_plan_167 : decode y_M_plan.2.1 167 = .ok (.iload 7, 2) := by decide +kernel
theorem d_M_plan_169 : decode y_M_plan.2.1 169 = .ok (.dup2, 1) := by decide +kernel
theorem d_M_plan_170 : decode y_M_plan.2.1 170 = .ok (.iaload, 1) := by decide +kernel
theorem d_M_plan_171 : decode y_M_plan.2.1 171 = .ok (.iconst 1, 1) := by decide +kernel
theorem d_M_plan_172 : decode y_M_plan.2.1 172 = .ok (.iadd, 1) := by decide +kernel
theorem d_M_plan_173 : decode y_M_plan.2.1 173 = .ok (.iastore, 1) := by decide +kernel
theorem d_M_plan_174 : decode y_M_plan.2.1 174 = .ok (.iload 6, 2) := by decide +kernel
theorem d_M_plan_176 : decode y_M_plan.2.1 176 = .ok (.aload_n 0, 1) := by decide +kernel
theorem d_M_plan_177 : decode y_M_plan.2.1 177 = .ok (.getfield 94, 3) := by decide +kernel
theorem d_M_plan_180 : decode y_M_plan.2.1 180 = .ok (.iload 7, 2) := by decide +kernel
theorem d_M_plan_182 : decode y_M_plan.2.1 182 = .ok (.iaload, 1) := by decide +kernel
theorem d_M_plan_183 : decode y_M_plan.2.1 183 = .ok (.iadd, 1) := by decide +kernel
theorem d_M_plan_184 : decode y_M_plan.2.1 184 = .ok (.istore 6, 2) := by decide +kernel
theorem d_M_plan_186 : decode y_M_plan.2.1 186 = .ok (.iinc 5 (-1), 3) := by decide +kernel
theorem d_M_plan_189 : decode y_M_plan.2.1 189 = .ok (.goto (-90), 3) := by decide +kernel
theorem d_M_plan_192 : decode y_M_plan.2.1 192 = .ok (.aload_n 0, 1) := by decide +kernel
theorem d_M_plan_193 : decode y_M_plan.2.1 193 = .ok (.iload 4, 2) := by decide +kernel
theorem d_M_plan_195 : decode y_M_plan.2.1 195 = .ok (.putfield 378, 3) := by decide +kernel
theorem d_M_plan_198 : decode y_M_plan.2.1 198 = .ok (.iload 6, 2) := by decide +kernel
theorem d_M_plan_200 : decode y_M_plan.2.1 200 = .ok (.ireturn, 1) := by decide +kernel

abbrev y_M_gain : MI := (⟨"CricketHayModel", "gain", "(I)I"⟩, prog_14_method_79_code, 6, (some .int))
theorem hy_M_gain : y_M_gain.1.cls ≠ "java/lang/invoke/MethodHandle" ∧ y_M_gain.1.cls ≠ "java/lang/invoke/VarHandle" ∧ (parseMethodDescriptor y_M_gain.1.desc).map (fun d => d.parameters.length) = some 1 := by decide +kernel
theorem d_M_gain_0 : decode y_M_gain.2.1 0 = .ok (.aload_n 0, 1) := by decide +kernel
theorem d_M_gain_1 : decode y_M_gain.2.1 1 = .ok (.iconst 0, 1) := by decide +kernel
theorem d_M_gain_2 : decode y_M_gain.2.1 2 = .ok (.putfield 378, 3) := by decide +kernel
theorem d_M_gain_5 : decode y_M_gain.2.1 5 = .ok (.aload_n 0, 1) := by decide +kernel
theorem d_M_gain_6 : decode y_M_gain.2.1 6 = .ok (.iload_n 1, 1) := by decide +kernel
theorem d_M_gain_7 : decode y_M_gain.2.1 7 = .ok (.invokevirtual 385, 3) := by decide +kernel
theorem d_M_gain_10 : decode y_M_gain.2.1 10 = .ok (.ifCond .ne 7, 3) := by decide +kernel
theorem d_M_gain_13 : decode y_M_gain.2.1 13 = .ok (.sipush (-1000), 3) := by decide +kernel
theorem d_M_gain_16 : decode y_M_gain.2.1 16 = .ok (.ireturn, 1) := by decide +kernel
theorem d_M_gain_17 : decode y_M_gain.2.1 17 = .ok (.aload_n 0, 1) := by decide +kernel
theorem d_M_gain_18 : decode y_M_gain.2.1 18 = .ok (.invokevirtual 421, 3) := by decide +kernel
theorem d_M_gain_21 : decode y_M_gain.2.1 21 = .ok (.sipush (-1000), 3) := by decide +kernel
theorem d_M_gain_24 : decode y_M_gain.2.1 24 = .ok (.istore_n 2, 1) := by decide +kernel
theorem d_M_gain_25 : decode y_M_gain.2.1 25 = .ok (.iconst 0, 1) := by decide +kernel
theorem d_M_gain_26 : decode y_M_gain.2.1 26 = .ok (.istore_n 3, 1) := by decide +kernel
theorem d_M_gain_27 : decode y_M_gain.2.1 27 = .ok (.iload_n 3, 1) := by decide +kernel
theorem d_M_gain_28 : decode y_M_gain.2.1 28 = .ok (.aload_n 0, 1) := by decide +kernel
theorem d_M_gain_29 : decode y_M_gain.2.1 29 = .ok (.getfield 360, 3) := by decide +kernel
theorem d_M_gain_32 : decode y_M_gain.2.1 32 = .ok (.if_icmp .ge 134, 3) := by decide +kernel
theorem d_M_gain_35 : decode y_M_gain.2.1 35 = .ok (.iconst 0, 1) := by decide +kernel
theorem d_M_gain_36 : decode y_M_gain.2.1 36 = .ok (.istore 4, 2) := by decide +kernel
theorem d_M_gain_38 : decode y_M_gain.2.1 38 = .ok (.iload 4, 2) := by decide +kernel
theorem d_M_gain_40 : decode y_M_gain.2.1 40 = .ok (.aload_n 0, 1) := by decide +kernel
theorem d_M_gain_41 : decode y_M_gain.2.1 41 = .ok (.getfield 360, 3) := by decide +kernel
theorem d_M_gain_44 : decode y_M_gain.2.1 44 = .ok (.if_icmp .ge 116, 3) := by decide +kernel
theorem d_M_gain_47 : decode y_M_gain.2.1 47 = .ok (.iload_n 3, 1) := by decide +kernel
theorem d_M_gain_48 : decode y_M_gain.2.1 48 = .ok (.iload_n 1, 1) := by decide +kernel
theorem d_M_gain_49 : decode y_M_gain.2.1 49 = .ok (.if_icmp .eq 105, 3) := by decide +kernel
theorem d_M_gain_52 : decode y_M_gain.2.1 52 = .ok (.iload 4, 2) := by decide +kernel
theorem d_M_gain_54 : decode y_M_gain.2.1 54 = .ok (.iload_n 1, 1) := by decide +kernel
theorem d_M_gain_55 : decode y_M_gain.2.1 55 = .ok (.if_icmp .eq 99, 3) := by decide +kernel
theorem d_M_gain_58 : decode y_M_gain.2.1 58 = .ok (.iload_n 3, 1) := by decide +kernel
theorem d_M_gain_59 : decode y_M_gain.2.1 59 = .ok (.iload 4, 2) := by decide +kernel
theorem d_M_gain_61 : decode y_M_gain.2.1 61 = .ok (.if_icmp .eq 93, 3) := by decide +kernel
theorem d_M_gain_64 : decode y_M_gain.2.1 64 = .ok (.aload_n 0, 1) := by decide +kernel
theorem d_M_gain_65 : decode y_M_gain.2.1 65 = .ok (.getfield 88, 3) := by decide +kernel
theorem d_M_gain_68 : decode y_M_gain.2.1 68 = .ok (.bipush 6, 2) := by decide +kernel
theorem d_M_gain_70 : decode y_M_gain.2.1 70 = .ok (.iload_n 3, 1) := by decide +kernel
theorem d_M_gain_71 : decode y_M_gain.2.1 71 = .ok (.iadd, 1) := by decide +kernel
theorem d_M_gain_72 : decode y_M_gain.2.1 72 = .ok (.iaload, 1) := by decide +kernel
theorem d_M_gain_73 : decode y_M_gain.2.1 73 = .ok (.ifCond .eq 81, 3) := by decide +kernel
theorem d_M_gain_76 : decode y_M_gain.2.1 76 = .ok (.aload_n 0, 1) := by decide +kernel
theorem d_M_gain_77 : decode y_M_gain.2.1 77 = .ok (.iload_n 1, 1) := by decide +kernel
theorem d_M_gain_78 : decode y_M_gain.2.1 78 = .ok (.iload_n 3, 1) := by decide +kernel
theorem d_M_gain_79 : decode y_M_gain.2.1 79 = .ok (.invokevirtual 428, 3) := by decide +kernel
theorem d_M_gain_82 : decode y_M_gain.2.1 82 = .ok (.aload_n 0, 1) := by decide +kernel
theorem d_M_gain_83 : decode y_M_gain.2.1 83 = .ok (.getfield 88, 3) := by decide +kernel
theorem d_M_gain_86 : decode y_M_gain.2.1 86 = .ok (.iload_n 1, 1) := by decide +kernel
theorem d_M_gain_87 : decode y_M_gain.2.1 87 = .ok (.iaload, 1) := by decide +kernel
theorem d_M_gain_88 : decode y_M_gain.2.1 88 = .ok (.if_icmp .gt 66, 3) := by decide +kernel
theorem d_M_gain_91 : decode y_M_gain.2.1 91 = .ok (.aload_n 0, 1) := by decide +kernel
theorem d_M_gain_92 : decode y_M_gain.2.1 92 = .ok (.iload_n 1, 1) := by decide +kernel
theorem d_M_gain_93 : decode y_M_gain.2.1 93 = .ok (.iload 4, 2) := by decide +kernel
theorem d_M_gain_95 : decode y_M_gain.2.1 95 = .ok (.invokevirtual 428, 3) := by decide +kernel
theorem d_M_gain_98 : decode y_M_gain.2.1 98 = .ok (.aload_n 0, 1) := by decide +kernel
theorem d_M_gain_99 : decode y_M_gain.2.1 99 = .ok (.getfield 88, 3) := by decide +kernel
theorem d_M_gain_102 : decode y_M_gain.2.1 102 = .ok (.iload 4, 2) := by decide +kernel
theorem d_M_gain_104 : decode y_M_gain.2.1 104 = .ok (.iaload, 1) := by decide +kernel
theorem d_M_gain_105 : decode y_M_gain.2.1 105 = .ok (.if_icmp .le 6, 3) := by decide +kernel
theorem d_M_gain_108 : decode y_M_gain.2.1 108 = .ok (.goto 46, 3) := by decide +kernel
theorem d_M_gain_111 : decode y_M_gain.2.1 111 = .ok (.aload_n 0, 1) := by decide +kernel
theorem d_M_gain_112 : decode y_M_gain.2.1 112 = .ok (.iload_n 1, 1) := by decide +kernel
theorem d_M_gain_113 : decode y_M_gain.2.1 113 = .ok (.iload 4, 2) := by decide +kernel
theorem d_M_gain_115 : decode y_M_gain.2.1 115 = .ok (.invokevirtual 428, 3) := by decide +kernel
theorem d_M_gain_118 : decode y_M_gain.2.1 118 = .ok (.aload_n 0, 1) := by decide +kernel
theorem d_M_gain_119 : decode y_M_gain.2.1 119 = .ok (.iload_n 1, 1) := by decide +kernel
theorem d_M_gain_120 : decode y_M_gain.2.1 120 = .ok (.iload_n 3, 1) := by decide +kernel
theorem d_M_gain_121 : decode y_M_gain.2.1 121 = .ok (.invokevirtual 428, 3) := by decide +kernel
theorem d_M_gain_124 : decode y_M_gain.2.1 124 = .ok (.isub, 1) := by decide +kernel
theorem d_M_gain_125 : decode y_M_gain.2.1 125 = .ok (.istore 5, 2) := by decide +kernel
theorem d_M_gain_127 : decode y_M_gain.2.1 127 = .ok (.iload 5, 2) := by decide +kernel
theorem d_M_gain_129 : decode y_M_gain.2.1 129 = .ok (.iload_n 2, 1) := by decide +kernel
theorem d_M_gain_130 : decode y_M_gain.2.1 130 = .ok (.if_icmp .gt 6, 3) := by decide +kernel
theorem d_M_gain_133 : decode y_M_gain.2.1 133 = .ok (.goto 21, 3) := by decide +kernel
theorem d_M_gain_136 : decode y_M_gain.2.1 136 = .ok (.iload 5, 2) := by decide +kernel
theorem d_M_gain_138 : decode y_M_gain.2.1 138 = .ok (.istore_n 2, 1) := by decide +kernel
theorem d_M_gain_139 : decode y_M_gain.2.1 139 = .ok (.aload_n 0, 1) := by decide +kernel
theorem d_M_gain_140 : decode y_M_gain.2.1 140 = .ok (.getfield 97, 3) := by decide +kernel
theorem d_M_gain_143 : decode y_M_gain.2.1 143 = .ok (.iconst 0, 1) := by decide +kernel
theorem d_M_gain_144 : decode y_M_gain.2.1 144 = .ok (.iload_n 3, 1) := by decide +kernel
theorem d_M_gain_145 : decode y_M_gain.2.1 145 = .ok (.iastore, 1) := by decide +kernel
theorem d_M_gain_146 : decode y_M_gain.2.1 146 = .ok (.aload_n 0, 1) := by decide +kernel
theorem d_M_gain_147 : decode y_M_gain.2.1 147 = .ok (.getfield 97, 3) := by decide +kernel
theorem d_M_gain_150 : decode y_M_gain.2.1 150 = .ok (.iconst 1, 1) := by decide +kernel
theorem d_M_gain_151 : decode y_M_gain.2.1 151 = .ok (.iload 4, 2) := by decide +kernel
theorem d_M_gain_153 : decode y_M_gain.2.1 153 = .ok (.iastore, 1) := by decide +kernel
theorem d_M_gain_154 : decode y_M_gain.2.1 154 = .ok (.iinc 4 1, 3) := by decide +kernel
theorem d_M_gain_157 : decode y_M_gain.2.1 157 = .ok (.goto (-119), 3) := by decide +kernel
theorem d_M_gain_160 : decode y_M_gain.2.1 160 = .ok (.iinc 3 1, 3) := by decide +kernel
theorem d_M_gain_163 : decode y_M_gain.2.1 163 = .ok (.goto (-136), 3) := by decide +kernel
theorem d_M_gain_166 : decode y_M_gain.2.1 166 = .ok (.aload_n 0, 1) := by decide +kernel
theorem d_M_gain_167 : decode y_M_gain.2.1 167 = .ok (.iload_n 2, 1) := by decide +kernel
theorem d_M_gain_168 : decode y_M_gain.2.1 168 = .ok (.sipush (-1000), 3) := by decide +kernel
theorem d_M_gain_171 : decode y_M_gain.2.1 171 = .ok (.if_icmp .ne 7, 3) := by decide +kernel
theorem d_M_gain_174 : decode y_M_gain.2.1 174 = .ok (.iconst 0, 1) := by decide +kernel
theorem d_M_gain_175 : decode y_M_gain.2.1 175 = .ok (.goto 4, 3) := by decide +kernel
theorem d_M_gain_178 : decode y_M_gain.2.1 178 = .ok (.iconst 2, 1) := by decide +kernel
theorem d_M_gain_179 : decode y_M_gain.2.1 179 = .ok (.putfield 378, 3) := by decide +kernel
theorem d_M_gain_182 : decode y_M_gain.2.1 182 = .ok (.iload_n 2, 1) := by decide +kernel
theorem d_M_gain_183 : decode y_M_gain.2.1 183 = .ok (.ireturn, 1) := by decide +kernel

abbrev y_M_wants : MI := (⟨"CricketHayModel", "wants", "(I)Z"⟩, prog_14_method_80_code, 2, (some .boolean))
theorem hy_M_wants : y_M_wants.1.cls ≠ "java/lang/invoke/MethodHandle" ∧ y_M_wants.1.cls ≠ "java/lang/invoke/VarHandle" ∧ (parseMethodDescriptor y_M_wants.1.desc).map (fun d => d.parameters.length) = some 1 := by decide +kernel
theorem d_M_wants_0 : decode y_M_wants.2.1 0 = .ok (.aload_n 0, 1) := by decide +kernel
theorem d_M_wants_1 : decode y_M_wants.2.1 1 = .ok (.getfield 88, 3) := by decide +kernel
theorem d_M_wants_4 : decode y_M_wants.2.1 4 = .ok (.bipush 6, 2) := by decide +kernel
theorem d_M_wants_6 : decode y_M_wants.2.1 6 = .ok (.iload_n 1, 1) := by decide +kernel
theorem d_M_wants_7 : decode y_M_wants.2.1 7 = .ok (.iadd, 1) := by decide +kernel
theorem d_M_wants_8 : decode y_M_wants.2.1 8 = .ok (.iaload, 1) := by decide +kernel
theorem d_M_wants_9 : decode y_M_wants.2.1 9 = .ok (.aload_n 0, 1) := by decide +kernel
theorem d_M_wants_10 : decode y_M_wants.2.1 10 = .ok (.getfield 76, 3) := by decide +kernel
theorem d_M_wants_13 : decode y_M_wants.2.1 13 = .ok (.iload_n 1, 1) := by decide +kernel
theorem d_M_wants_14 : decode y_M_wants.2.1 14 = .ok (.iaload, 1) := by decide +kernel
theorem d_M_wants_15 : decode y_M_wants.2.1 15 = .ok (.if_icmp .ge 7, 3) := by decide +kernel
theorem d_M_wants_18 : decode y_M_wants.2.1 18 = .ok (.iconst 1, 1) := by decide +kernel
theorem d_M_wants_19 : decode y_M_wants.2.1 19 = .ok (.goto 4, 3) := by decide +kernel
theorem d_M_wants_22 : decode y_M_wants.2.1 22 = .ok (.iconst 0, 1) := by decide +kernel
theorem d_M_wants_23 : decode y_M_wants.2.1 23 = .ok (.ireturn, 1) := by decide +kernel

abbrev y_M_over : MI := (⟨"CricketHayModel", "over", "(I)I"⟩, prog_14_method_81_code, 2, (some .int))
theorem hy_M_over : y_M_over.1.cls ≠ "java/lang/invoke/MethodHandle" ∧ y_M_over.1.cls ≠ "java/lang/invoke/VarHandle" ∧ (parseMethodDescriptor y_M_over.1.desc).map (fun d => d.parameters.length) = some 1 := by decide +kernel
theorem d_M_over_0 : decode y_M_over.2.1 0 = .ok (.aload_n 0, 1) := by decide +kernel
theorem d_M_over_1 : decode y_M_over.2.1 1 = .ok (.getfield 88, 3) := by decide +kernel
theorem d_M_over_4 : decode y_M_over.2.1 4 = .ok (.bipush 6, 2) := by decide +kernel
theorem d_M_over_6 : decode y_M_over.2.1 6 = .ok (.iload_n 1, 1) := by decide +kernel
theorem d_M_over_7 : decode y_M_over.2.1 7 = .ok (.iadd, 1) := by decide +kernel
theorem d_M_over_8 : decode y_M_over.2.1 8 = .ok (.iaload, 1) := by decide +kernel
theorem d_M_over_9 : decode y_M_over.2.1 9 = .ok (.aload_n 0, 1) := by decide +kernel
theorem d_M_over_10 : decode y_M_over.2.1 10 = .ok (.getfield 76, 3) := by decide +kernel
theorem d_M_over_13 : decode y_M_over.2.1 13 = .ok (.iload_n 1, 1) := by decide +kernel
theorem d_M_over_14 : decode y_M_over.2.1 14 = .ok (.iaload, 1) := by decide +kernel
theorem d_M_over_15 : decode y_M_over.2.1 15 = .ok (.if_icmp .le 22, 3) := by decide +kernel
theorem d_M_over_18 : decode y_M_over.2.1 18 = .ok (.aload_n 0, 1) := by decide +kernel
theorem d_M_over_19 : decode y_M_over.2.1 19 = .ok (.getfield 88, 3) := by decide +kernel
theorem d_M_over_22 : decode y_M_over.2.1 22 = .ok (.bipush 6, 2) := by decide +kernel
theorem d_M_over_24 : decode y_M_over.2.1 24 = .ok (.iload_n 1, 1) := by decide +kernel
theorem d_M_over_25 : decode y_M_over.2.1 25 = .ok (.iadd, 1) := by decide +kernel
theorem d_M_over_26 : decode y_M_over.2.1 26 = .ok (.iaload, 1) := by decide +kernel
theorem d_M_over_27 : decode y_M_over.2.1 27 = .ok (.aload_n 0, 1) := by decide +kernel
theorem d_M_over_28 : decode y_M_over.2.1 28 = .ok (.getfield 76, 3) := by decide +kernel
theorem d_M_over_31 : decode y_M_over.2.1 31 = .ok (.iload_n 1, 1) := by decide +kernel
theorem d_M_over_32 : decode y_M_over.2.1 32 = .ok (.iaload, 1) := by decide +kernel
theorem d_M_over_33 : decode y_M_over.2.1 33 = .ok (.isub, 1) := by decide +kernel
theorem d_M_over_34 : decode y_M_over.2.1 34 = .ok (.goto 4, 3) := by decide +kernel
theorem d_M_over_37 : decode y_M_over.2.1 37 = .ok (.iconst 0, 1) := by decide +kernel
theorem d_M_over_38 : decode y_M_over.2.1 38 = .ok (.ireturn, 1) := by decide +kernel

abbrev y_M_canSell : MI := (⟨"CricketHayModel", "canSell", "(II)Z"⟩, prog_14_method_82_code, 3, (some .boolean))
theorem hy_M_canSell : y_M_canSell.1.cls ≠ "java/lang/invoke/MethodHandle" ∧ y_M_canSell.1.cls ≠ "java/lang/invoke/VarHandle" ∧ (parseMethodDescriptor y_M_canSell.1.desc).map (fun d => d.parameters.length) = some 2 := by decide +kernel
theorem d_M_canSell_0 : decode y_M_canSell.2.1 0 = .ok (.iload_n 2, 1) := by decide +kernel
theorem d_M_canSell_1 : decode y_M_canSell.2.1 1 = .ok (.ifCond .lt 39, 3) := by decide +kernel
theorem d_M_canSell_4 : decode y_M_canSell.2.1 4 = .ok (.iload_n 2, 1) := by decide +kernel
theorem d_M_canSell_5 : decode y_M_canSell.2.1 5 = .ok (.iload_n 1, 1) := by decide +kernel
theorem d_M_canSell_6 : decode y_M_canSell.2.1 6 = .ok (.if_icmp .eq 38, 3) := by decide +kernel
theorem d_M_canSell_9 : decode y_M_canSell.2.1 9 = .ok (.aload_n 0, 1) := by decide +kernel
theorem d_M_canSell_10 : decode y_M_canSell.2.1 10 = .ok (.iload_n 1, 1) := by decide +kernel
theorem d_M_canSell_11 : decode y_M_canSell.2.1 11 = .ok (.invokevirtual 453, 3) := by decide +kernel
theorem d_M_canSell_14 : decode y_M_canSell.2.1 14 = .ok (.ifCond .eq 30, 3) := by decide +kernel
theorem d_M_canSell_17 : decode y_M_canSell.2.1 17 = .ok (.aload_n 0, 1) := by decide +kernel
theorem d_M_canSell_18 : decode y_M_canSell.2.1 18 = .ok (.iload_n 2, 1) := by decide +kernel
theorem d_M_canSell_19 : decode y_M_canSell.2.1 19 = .ok (.invokevirtual 456, 3) := by decide +kernel
theorem d_M_canSell_22 : decode y_M_canSell.2.1 22 = .ok (.ifCond .le 22, 3) := by decide +kernel
theorem d_M_canSell_25 : decode y_M_canSell.2.1 25 = .ok (.aload_n 0, 1) := by decide +kernel
theorem d_M_canSell_26 : decode y_M_canSell.2.1 26 = .ok (.iload_n 1, 1) := by decide +kernel
theorem d_M_canSell_27 : decode y_M_canSell.2.1 27 = .ok (.iload_n 2, 1) := by decide +kernel
theorem d_M_canSell_28 : decode y_M_canSell.2.1 28 = .ok (.invokevirtual 428, 3) := by decide +kernel
theorem d_M_canSell_31 : decode y_M_canSell.2.1 31 = .ok (.aload_n 0, 1) := by decide +kernel
theorem d_M_canSell_32 : decode y_M_canSell.2.1 32 = .ok (.getfield 88, 3) := by decide +kernel
theorem d_M_canSell_35 : decode y_M_canSell.2.1 35 = .ok (.iload_n 1, 1) := by decide +kernel
theorem d_M_canSell_36 : decode y_M_canSell.2.1 36 = .ok (.iaload, 1) := by decide +kernel
theorem d_M_canSell_37 : decode y_M_canSell.2.1 37 = .ok (.if_icmp .gt 7, 3) := by decide +kernel
theorem d_M_canSell_40 : decode y_M_canSell.2.1 40 = .ok (.iconst 1, 1) := by decide +kernel
theorem d_M_canSell_41 : decode y_M_canSell.2.1 41 = .ok (.goto 4, 3) := by decide +kernel
theorem d_M_canSell_44 : decode y_M_canSell.2.1 44 = .ok (.iconst 0, 1) := by decide +kernel
theorem d_M_canSell_45 : decode y_M_canSell.2.1 45 = .ok (.ireturn, 1) := by decide +kernel

abbrev y_M_laySellers : MI := (⟨"CricketHayModel", "laySellers", "(I)Z"⟩, prog_14_method_83_code, 5, (some .boolean))
theorem hy_M_laySellers : y_M_laySellers.1.cls ≠ "java/lang/invoke/MethodHandle" ∧ y_M_laySellers.1.cls ≠ "java/lang/invoke/VarHandle" ∧ (parseMethodDescriptor y_M_laySellers.1.desc).map (fun d => d.parameters.length) = some 1 := by decide +kernel
theorem d_M_laySellers_0 : decode y_M_laySellers.2.1 0 = .ok (.iload_n 1, 1) := by decide +kernel
theorem d_M_laySellers_1 : decode y_M_laySellers.2.1 1 = .ok (.istore_n 2, 1) := by decide +kernel
theorem d_M_laySellers_2 : decode y_M_laySellers.2.1 2 = .ok (.aload_n 0, 1) := by decide +kernel
theorem d_M_laySellers_3 : decode y_M_laySellers.2.1 3 = .ok (.iconst 0, 1) := by decide +kernel
theorem d_M_laySellers_4 : decode y_M_laySellers.2.1 4 = .ok (.putfield 459, 3) := by decide +kernel
theorem d_M_laySellers_7 : decode y_M_laySellers.2.1 7 = .ok (.aload_n 0, 1) := by decide +kernel
theorem d_M_laySellers_8 : decode y_M_laySellers.2.1 8 = .ok (.iconst 0, 1) := by decide +kernel
theorem d_M_laySellers_9 : decode y_M_laySellers.2.1 9 = .ok (.putfield 462, 3) := by decide +kernel
theorem d_M_laySellers_12 : decode y_M_laySellers.2.1 12 = .ok (.iconst 0, 1) := by decide +kernel
theorem d_M_laySellers_13 : decode y_M_laySellers.2.1 13 = .ok (.istore_n 3, 1) := by decide +kernel
theorem d_M_laySellers_14 : decode y_M_laySellers.2.1 14 = .ok (.iload_n 3, 1) := by decide +kernel
theorem d_M_laySellers_15 : decode y_M_laySellers.2.1 15 = .ok (.aload_n 0, 1) := by decide +kernel
theorem d_M_laySellers_16 : decode y_M_laySellers.2.1 16 = .ok (.getfield 360, 3) := by decide +kernel
theorem d_M_laySellers_19 : decode y_M_laySellers.2.1 19 = .ok (.if_icmp .ge 16, 3) := by decide +kernel
theorem d_M_laySellers_22 : decode y_M_laySellers.2.1 22 = .ok (.aload_n 0, 1) := by decide +kernel
theorem d_M_laySellers_23 : decode y_M_laySellers.2.1 23 = .ok (.getfield 103, 3) := by decide +kernel
theorem d_M_laySellers_26 : decode y_M_laySellers.2.1 26 = .ok (.iload_n 3, 1) := by decide +kernel
theorem d_M_laySellers_27 : decode y_M_laySellers.2.1 27 = .ok (.iconst 0, 1) := by decide +kernel
theorem d_M_laySellers_28 : decode y_M_laySellers.2.1 28 = .ok (.iastore, 1) := by decide +kernel
theorem d_M_laySellers_29 : decode y_M_laySellers.2.1 29 = .ok (.iinc 3 1, 3) := by decide +kernel
theorem d_M_laySellers_32 : decode y_M_laySellers.2.1 32 = .ok (.goto (-18), 3) := by decide +kernel
theorem d_M_laySellers_35 : decode y_M_laySellers.2.1 35 = .ok (.aload_n 0, 1) := by decide +kernel
theorem d_M_laySellers_36 : decode y_M_laySellers.2.1 36 = .ok (.getfield 360, 3) := by decide +kernel
theorem d_M_laySellers_39 : decode y_M_laySellers.2.1 39 = .ok (.iconst 1, 1) := by decide +kernel
theorem d_M_laySellers_40 : decode y_M_laySellers.2.1 40 = .ok (.isub, 1) := by decide +kernel
theorem d_M_laySellers_41 : decode y_M_laySellers.2.1 41 = .ok (.istore_n 3, 1) := by decide +kernel
theorem d_M_laySellers_42 : decode y_M_laySellers.2.1 42 = .ok (.iload_n 3, 1) := by decide +kernel
theorem d_M_laySellers_43 : decode y_M_laySellers.2.1 43 = .ok (.ifCond .lt 113, 3) := by decide +kernel
theorem d_M_laySellers_46 : decode y_M_laySellers.2.1 46 = .ok (.iload_n 2, 1) := by decide +kernel
theorem d_M_laySellers_47 : decode y_M_laySellers.2.1 47 = .ok (.aload_n 0, 1) := by decide +kernel
theorem d_M_laySellers_48 : decode y_M_laySellers.2.1 48 = .ok (.getfield 360, 3) := by decide +kernel
theorem d_M_laySellers_51 : decode y_M_laySellers.2.1 51 = .ok (.iconst 1, 1) := by decide +kernel
theorem d_M_laySellers_52 : decode y_M_laySellers.2.1 52 = .ok (.iadd, 1) := by decide +kernel
theorem d_M_laySellers_53 : decode y_M_laySellers.2.1 53 = .ok (.irem, 1) := by decide +kernel
theorem d_M_laySellers_54 : decode y_M_laySellers.2.1 54 = .ok (.iconst 1, 1) := by decide +kernel
theorem d_M_laySellers_55 : decode y_M_laySellers.2.1 55 = .ok (.isub, 1) := by decide +kernel
theorem d_M_laySellers_56 : decode y_M_laySellers.2.1 56 = .ok (.istore 4, 2) := by decide +kernel
theorem d_M_laySellers_58 : decode y_M_laySellers.2.1 58 = .ok (.iload_n 2, 1) := by decide +kernel
theorem d_M_laySellers_59 : decode y_M_laySellers.2.1 59 = .ok (.aload_n 0, 1) := by decide +kernel
theorem d_M_laySellers_60 : decode y_M_laySellers.2.1 60 = .ok (.getfield 360, 3) := by decide +kernel
theorem d_M_laySellers_63 : decode y_M_laySellers.2.1 63 = .ok (.iconst 1, 1) := by decide +kernel
theorem d_M_laySellers_64 : decode y_M_laySellers.2.1 64 = .ok (.iadd, 1) := by decide +kernel
theorem d_M_laySellers_65 : decode y_M_laySellers.2.1 65 = .ok (.idiv, 1) := by decide +kernel
theorem d_M_laySellers_66 : decode y_M_laySellers.2.1 66 = .ok (.istore_n 2, 1) := by decide +kernel
theorem d_M_laySellers_67 : decode y_M_laySellers.2.1 67 = .ok (.aload_n 0, 1) := by decide +kernel
theorem d_M_laySellers_68 : decode y_M_laySellers.2.1 68 = .ok (.getfield 100, 3) := by decide +kernel
theorem d_M_laySellers_71 : decode y_M_laySellers.2.1 71 = .ok (.iload_n 3, 1) := by decide +kernel
theorem d_M_laySellers_72 : decode y_M_laySellers.2.1 72 = .ok (.iload 4, 2) := by decide +kernel
theorem d_M_laySellers_74 : decode y_M_laySellers.2.1 74 = .ok (.iastore, 1) := by decide +kernel
theorem d_M_laySellers_75 : decode y_M_laySellers.2.1 75 = .ok (.aload_n 0, 1) := by decide +kernel
theorem d_M_laySellers_76 : decode y_M_laySellers.2.1 76 = .ok (.iload_n 3, 1) := by decide +kernel
theorem d_M_laySellers_77 : decode y_M_laySellers.2.1 77 = .ok (.iload 4, 2) := by decide +kernel
theorem d_M_laySellers_79 : decode y_M_laySellers.2.1 79 = .ok (.invokevirtual 465, 3) := by decide +kernel
theorem d_M_laySellers_82 : decode y_M_laySellers.2.1 82 = .ok (.ifCond .ne 5, 3) := by decide +kernel
theorem d_M_laySellers_85 : decode y_M_laySellers.2.1 85 = .ok (.iconst 0, 1) := by decide +kernel
theorem d_M_laySellers_86 : decode y_M_laySellers.2.1 86 = .ok (.ireturn, 1) := by decide +kernel
theorem d_M_laySellers_87 : decode y_M_laySellers.2.1 87 = .ok (.iload 4, 2) := by decide +kernel
theorem d_M_laySellers_89 : decode y_M_laySellers.2.1 89 = .ok (.ifCond .ge 6, 3) := by decide +kernel
theorem d_M_laySellers_92 : decode y_M_laySellers.2.1 92 = .ok (.goto 58, 3) := by decide +kernel
theorem d_M_laySellers_95 : decode y_M_laySellers.2.1 95 = .ok (.aload_n 0, 1) := by decide +kernel
theorem d_M_laySellers_96 : decode y_M_laySellers.2.1 96 = .ok (.getfield 103, 3) := by decide +kernel
theorem d_M_laySellers_99 : decode y_M_laySellers.2.1 99 = .ok (.iload 4, 2) := by decide +kernel
theorem d_M_laySellers_101 : decode y_M_laySellers.2.1 101 = .ok (.dup2, 1) := by decide +kernel
theorem d_M_laySellers_102 : decode y_M_laySellers.2.1 102 = .ok (.iaload, 1) := by decide +kernel
theorem d_M_laySellers_103 : decode y_M_laySellers.2.1 103 = .ok (.iconst 1, 1) := by decide +kernel
theorem d_M_laySellers_104 : decode y_M_laySellers.2.1 104 = .ok (.iadd, 1) := by decide +kernel
theorem d_M_laySellers_105 : decode y_M_laySellers.2.1 105 = .ok (.iastore, 1) := by decide +kernel
theorem d_M_laySellers_106 : decode y_M_laySellers.2.1 106 = .ok (.aload_n 0, 1) := by decide +kernel
theorem d_M_laySellers_107 : decode y_M_laySellers.2.1 107 = .ok (.dup, 1) := by decide +kernel
theorem d_M_laySellers_108 : decode y_M_laySellers.2.1 108 = .ok (.getfield 459, 3) := by decide +kernel
theorem d_M_laySellers_111 : decode y_M_laySellers.2.1 111 = .ok (.iconst 1, 1) := by decide +kernel
theorem d_M_laySellers_112 : decode y_M_laySellers.2.1 112 = .ok (.iadd, 1) := by decide +kernel
theorem d_M_laySellers_113 : decode y_M_laySellers.2.1 113 = .ok (.putfield 459, 3) := by decide +kernel
theorem d_M_laySellers_116 : decode y_M_laySellers.2.1 116 = .ok (.aload_n 0, 1) := by decide +kernel
theorem d_M_laySellers_117 : decode y_M_laySellers.2.1 117 = .ok (.dup, 1) := by decide +kernel
theorem d_M_laySellers_118 : decode y_M_laySellers.2.1 118 = .ok (.getfield 462, 3) := by decide +kernel
theorem d_M_laySellers_121 : decode y_M_laySellers.2.1 121 = .ok (.aload_n 0, 1) := by decide +kernel
theorem d_M_laySellers_122 : decode y_M_laySellers.2.1 122 = .ok (.iload_n 3, 1) := by decide +kernel
theorem d_M_laySellers_123 : decode y_M_laySellers.2.1 123 = .ok (.iload 4, 2) := by decide +kernel
theorem d_M_laySellers_125 : decode y_M_laySellers.2.1 125 = .ok (.invokevirtual 428, 3) := by decide +kernel
theorem d_M_laySellers_128 : decode y_M_laySellers.2.1 128 = .ok (.iadd, 1) := by decide +kernel
theorem d_M_laySellers_129 : decode y_M_laySellers.2.1 129 = .ok (.putfield 462, 3) := by decide +kernel
theorem d_M_laySellers_132 : decode y_M_laySellers.2.1 132 = .ok (.aload_n 0, 1) := by decide +kernel
theorem d_M_laySellers_133 : decode y_M_laySellers.2.1 133 = .ok (.getfield 103, 3) := by decide +kernel
theorem d_M_laySellers_136 : decode y_M_laySellers.2.1 136 = .ok (.iload 4, 2) := by decide +kernel
theorem d_M_laySellers_138 : decode y_M_laySellers.2.1 138 = .ok (.iaload, 1) := by decide +kernel
theorem d_M_laySellers_139 : decode y_M_laySellers.2.1 139 = .ok (.aload_n 0, 1) := by decide +kernel
theorem d_M_laySellers_140 : decode y_M_laySellers.2.1 140 = .ok (.iload 4, 2) := by decide +kernel
theorem d_M_laySellers_142 : decode y_M_laySellers.2.1 142 = .ok (.invokevirtual 456, 3) := by decide +kernel
theorem d_M_laySellers_145 : decode y_M_laySellers.2.1 145 = .ok (.if_icmp .le 5, 3) := by decide +kernel
theorem d_M_laySellers_148 : decode y_M_laySellers.2.1 148 = .ok (.iconst 0, 1) := by decide +kernel
theorem d_M_laySellers_149 : decode y_M_laySellers.2.1 149 = .ok (.ireturn, 1) := by decide +kernel
theorem d_M_laySellers_150 : decode y_M_laySellers.2.1 150 = .ok (.iinc 3 (-1), 3) := by decide +kernel
theorem d_M_laySellers_153 : decode y_M_laySellers.2.1 153 = .ok (.goto (-111), 3) := by decide +kernel
theorem d_M_laySellers_156 : decode y_M_laySellers.2.1 156 = .ok (.iconst 1, 1) := by decide +kernel
theorem d_M_laySellers_157 : decode y_M_laySellers.2.1 157 = .ok (.ireturn, 1) := by decide +kernel

abbrev y_M_clear : MI := (⟨"CricketHayModel", "clear", "(I)I"⟩, prog_14_method_84_code, 7, (some .int))
theorem hy_M_clear : y_M_clear.1.cls ≠ "java/lang/invoke/MethodHandle" ∧ y_M_clear.1.cls ≠ "java/lang/invoke/VarHandle" ∧ (parseMethodDescriptor y_M_clear.1.desc).map (fun d => d.parameters.length) = some 1 := by decide +kernel
theorem d_M_clear_0 : decode y_M_clear.2.1 0 = .ok (.aload_n 0, 1) := by decide +kernel
theorem d_M_clear_1 : decode y_M_clear.2.1 1 = .ok (.iconst 0, 1) := by decide +kernel
theorem d_M_clear_2 : decode y_M_clear.2.1 2 = .ok (.putfield 378, 3) := by decide +kernel
theorem d_M_clear_5 : decode y_M_clear.2.1 5 = .ok (.iload_n 1, 1) := by decide +kernel
theorem d_M_clear_6 : decode y_M_clear.2.1 6 = .ok (.iconst 0, 1) := by decide +kernel
theorem d_M_clear_7 : decode y_M_clear.2.1 7 = .ok (.iconst 1, 1) := by decide +kernel
theorem d_M_clear_8 : decode y_M_clear.2.1 8 = .ok (.invokestatic 381, 3) := by decide +kernel
theorem d_M_clear_11 : decode y_M_clear.2.1 11 = .ok (.ifCond .ne 5, 3) := by decide +kernel
theorem d_M_clear_14 : decode y_M_clear.2.1 14 = .ok (.iconst (-1), 1) := by decide +kernel
theorem d_M_clear_15 : decode y_M_clear.2.1 15 = .ok (.ireturn, 1) := by decide +kernel
theorem d_M_clear_16 : decode y_M_clear.2.1 16 = .ok (.aload_n 0, 1) := by decide +kernel
theorem d_M_clear_17 : decode y_M_clear.2.1 17 = .ok (.invokevirtual 421, 3) := by decide +kernel
theorem d_M_clear_20 : decode y_M_clear.2.1 20 = .ok (.iconst 1, 1) := by decide +kernel
theorem d_M_clear_21 : decode y_M_clear.2.1 21 = .ok (.istore_n 2, 1) := by decide +kernel
theorem d_M_clear_22 : decode y_M_clear.2.1 22 = .ok (.iconst 0, 1) := by decide +kernel
theorem d_M_clear_23 : decode y_M_clear.2.1 23 = .ok (.istore_n 3, 1) := by decide +kernel
theorem d_M_clear_24 : decode y_M_clear.2.1 24 = .ok (.iload_n 3, 1) := by decide +kernel
theorem d_M_clear_25 : decode y_M_clear.2.1 25 = .ok (.aload_n 0, 1) := by decide +kernel
theorem d_M_clear_26 : decode y_M_clear.2.1 26 = .ok (.getfield 360, 3) := by decide +kernel
theorem d_M_clear_29 : decode y_M_clear.2.1 29 = .ok (.if_icmp .ge 18, 3) := by decide +kernel
theorem d_M_clear_32 : decode y_M_clear.2.1 32 = .ok (.iload_n 2, 1) := by decide +kernel
theorem d_M_clear_33 : decode y_M_clear.2.1 33 = .ok (.aload_n 0, 1) := by decide +kernel
theorem d_M_clear_34 : decode y_M_clear.2.1 34 = .ok (.getfield 360, 3) := by decide +kernel
theorem d_M_clear_37 : decode y_M_clear.2.1 37 = .ok (.iconst 1, 1) := by decide +kernel
theorem d_M_clear_38 : decode y_M_clear.2.1 38 = .ok (.iadd, 1) := by decide +kernel
theorem d_M_clear_39 : decode y_M_clear.2.1 39 = .ok (.imul, 1) := by decide +kernel
theorem d_M_clear_40 : decode y_M_clear.2.1 40 = .ok (.istore_n 2, 1) := by decide +kernel
theorem d_M_clear_41 : decode y_M_clear.2.1 41 = .ok (.iinc 3 1, 3) := by decide +kernel
theorem d_M_clear_44 : decode y_M_clear.2.1 44 = .ok (.goto (-20), 3) := by decide +kernel
theorem d_M_clear_47 : decode y_M_clear.2.1 47 = .ok (.iconst (-1), 1) := by decide +kernel
theorem d_M_clear_48 : decode y_M_clear.2.1 48 = .ok (.istore_n 3, 1) := by decide +kernel
theorem d_M_clear_49 : decode y_M_clear.2.1 49 = .ok (.iconst 0, 1) := by decide +kernel
theorem d_M_clear_50 : decode y_M_clear.2.1 50 = .ok (.istore 4, 2) := by decide +kernel
theorem d_M_clear_52 : decode y_M_clear.2.1 52 = .ok (.iconst 0, 1) := by decide +kernel
theorem d_M_clear_53 : decode y_M_clear.2.1 53 = .ok (.istore 5, 2) := by decide +kernel
theorem d_M_clear_55 : decode y_M_clear.2.1 55 = .ok (.iload 5, 2) := by decide +kernel
theorem d_M_clear_57 : decode y_M_clear.2.1 57 = .ok (.iload_n 2, 1) := by decide +kernel
theorem d_M_clear_58 : decode y_M_clear.2.1 58 = .ok (.if_icmp .ge 89, 3) := by decide +kernel
theorem d_M_clear_61 : decode y_M_clear.2.1 61 = .ok (.aload_n 0, 1) := by decide +kernel
theorem d_M_clear_62 : decode y_M_clear.2.1 62 = .ok (.iload 5, 2) := by decide +kernel
theorem d_M_clear_64 : decode y_M_clear.2.1 64 = .ok (.invokevirtual 468, 3) := by decide +kernel
theorem d_M_clear_67 : decode y_M_clear.2.1 67 = .ok (.ifCond .eq 74, 3) := by decide +kernel
theorem d_M_clear_70 : decode y_M_clear.2.1 70 = .ok (.aload_n 0, 1) := by decide +kernel
theorem d_M_clear_71 : decode y_M_clear.2.1 71 = .ok (.getfield 459, 3) := by decide +kernel
theorem d_M_clear_74 : decode y_M_clear.2.1 74 = .ok (.iload_n 3, 1) := by decide +kernel
theorem d_M_clear_75 : decode y_M_clear.2.1 75 = .ok (.if_icmp .lt 66, 3) := by decide +kernel
theorem d_M_clear_78 : decode y_M_clear.2.1 78 = .ok (.aload_n 0, 1) := by decide +kernel
theorem d_M_clear_79 : decode y_M_clear.2.1 79 = .ok (.getfield 459, 3) := by decide +kernel
theorem d_M_clear_82 : decode y_M_clear.2.1 82 = .ok (.iload_n 3, 1) := by decide +kernel
theorem d_M_clear_83 : decode y_M_clear.2.1 83 = .ok (.if_icmp .ne 15, 3) := by decide +kernel
theorem d_M_clear_86 : decode y_M_clear.2.1 86 = .ok (.aload_n 0, 1) := by decide +kernel
theorem d_M_clear_87 : decode y_M_clear.2.1 87 = .ok (.getfield 462, 3) := by decide +kernel
theorem d_M_clear_90 : decode y_M_clear.2.1 90 = .ok (.iload 4, 2) := by decide +kernel
theorem d_M_clear_92 : decode y_M_clear.2.1 92 = .ok (.if_icmp .lt 6, 3) := by decide +kernel
theorem d_M_clear_95 : decode y_M_clear.2.1 95 = .ok (.goto 46, 3) := by decide +kernel
theorem d_M_clear_98 : decode y_M_clear.2.1 98 = .ok (.aload_n 0, 1) := by decide +kernel
theorem d_M_clear_99 : decode y_M_clear.2.1 99 = .ok (.getfield 459, 3) := by decide +kernel
theorem d_M_clear_102 : decode y_M_clear.2.1 102 = .ok (.istore_n 3, 1) := by decide +kernel
theorem d_M_clear_103 : decode y_M_clear.2.1 103 = .ok (.aload_n 0, 1) := by decide +kernel
theorem d_M_clear_104 : decode y_M_clear.2.1 104 = .ok (.getfield 462, 3) := by decide +kernel
theorem d_M_clear_107 : decode y_M_clear.2.1 107 = .ok (.istore 4, 2) := by decide +kernel
theorem d_M_clear_109 : decode y_M_clear.2.1 109 = .ok (.iconst 0, 1) := by decide +kernel
theorem d_M_clear_110 : decode y_M_clear.2.1 110 = .ok (.istore 6, 2) := by decide +kernel
theorem d_M_clear_112 : decode y_M_clear.2.1 112 = .ok (.iload 6, 2) := by decide +kernel
theorem d_M_clear_114 : decode y_M_clear.2.1 114 = .ok (.aload_n 0, 1) := by decide +kernel
theorem d_M_clear_115 : decode y_M_clear.2.1 115 = .ok (.getfield 360, 3) := by decide +kernel
theorem d_M_clear_118 : decode y_M_clear.2.1 118 = .ok (.if_icmp .ge 23, 3) := by decide +kernel
theorem d_M_clear_121 : decode y_M_clear.2.1 121 = .ok (.aload_n 0, 1) := by decide +kernel
theorem d_M_clear_122 : decode y_M_clear.2.1 122 = .ok (.getfield 97, 3) := by decide +kernel
theorem d_M_clear_125 : decode y_M_clear.2.1 125 = .ok (.iload 6, 2) := by decide +kernel
theorem d_M_clear_127 : decode y_M_clear.2.1 127 = .ok (.aload_n 0, 1) := by decide +kernel
theorem d_M_clear_128 : decode y_M_clear.2.1 128 = .ok (.getfield 100, 3) := by decide +kernel
theorem d_M_clear_131 : decode y_M_clear.2.1 131 = .ok (.iload 6, 2) := by decide +kernel
theorem d_M_clear_133 : decode y_M_clear.2.1 133 = .ok (.iaload, 1) := by decide +kernel
theorem d_M_clear_134 : decode y_M_clear.2.1 134 = .ok (.iastore, 1) := by decide +kernel
theorem d_M_clear_135 : decode y_M_clear.2.1 135 = .ok (.iinc 6 1, 3) := by decide +kernel
theorem d_M_clear_138 : decode y_M_clear.2.1 138 = .ok (.goto (-26), 3) := by decide +kernel
theorem d_M_clear_141 : decode y_M_clear.2.1 141 = .ok (.iinc 5 1, 3) := by decide +kernel
theorem d_M_clear_144 : decode y_M_clear.2.1 144 = .ok (.goto (-89), 3) := by decide +kernel
theorem d_M_clear_147 : decode y_M_clear.2.1 147 = .ok (.aload_n 0, 1) := by decide +kernel
theorem d_M_clear_148 : decode y_M_clear.2.1 148 = .ok (.aload_n 0, 1) := by decide +kernel
theorem d_M_clear_149 : decode y_M_clear.2.1 149 = .ok (.getfield 360, 3) := by decide +kernel
theorem d_M_clear_152 : decode y_M_clear.2.1 152 = .ok (.putfield 378, 3) := by decide +kernel
theorem d_M_clear_155 : decode y_M_clear.2.1 155 = .ok (.iload_n 1, 1) := by decide +kernel
theorem d_M_clear_156 : decode y_M_clear.2.1 156 = .ok (.ifCond .ne 7, 3) := by decide +kernel
theorem d_M_clear_159 : decode y_M_clear.2.1 159 = .ok (.iload_n 3, 1) := by decide +kernel
theorem d_M_clear_160 : decode y_M_clear.2.1 160 = .ok (.goto 5, 3) := by decide +kernel
theorem d_M_clear_163 : decode y_M_clear.2.1 163 = .ok (.iload 4, 2) := by decide +kernel
theorem d_M_clear_165 : decode y_M_clear.2.1 165 = .ok (.ireturn, 1) := by decide +kernel

abbrev y_M_allPrices : MI := (⟨"CricketHayModel", "allPrices", "()I"⟩, prog_14_method_85_code, 4, (some .int))
theorem hy_M_allPrices : y_M_allPrices.1.cls ≠ "java/lang/invoke/MethodHandle" ∧ y_M_allPrices.1.cls ≠ "java/lang/invoke/VarHandle" ∧ (parseMethodDescriptor y_M_allPrices.1.desc).map (fun d => d.parameters.length) = some 0 := by decide +kernel
theorem d_M_allPrices_0 : decode y_M_allPrices.2.1 0 = .ok (.iconst 0, 1) := by decide +kernel
theorem d_M_allPrices_1 : decode y_M_allPrices.2.1 1 = .ok (.istore_n 1, 1) := by decide +kernel
theorem d_M_allPrices_2 : decode y_M_allPrices.2.1 2 = .ok (.iconst 0, 1) := by decide +kernel
theorem d_M_allPrices_3 : decode y_M_allPrices.2.1 3 = .ok (.istore_n 2, 1) := by decide +kernel
theorem d_M_allPrices_4 : decode y_M_allPrices.2.1 4 = .ok (.iload_n 2, 1) := by decide +kernel
theorem d_M_allPrices_5 : decode y_M_allPrices.2.1 5 = .ok (.aload_n 0, 1) := by decide +kernel
theorem d_M_allPrices_6 : decode y_M_allPrices.2.1 6 = .ok (.getfield 360, 3) := by decide +kernel
theorem d_M_allPrices_9 : decode y_M_allPrices.2.1 9 = .ok (.if_icmp .ge 31, 3) := by decide +kernel
theorem d_M_allPrices_12 : decode y_M_allPrices.2.1 12 = .ok (.iconst 0, 1) := by decide +kernel
theorem d_M_allPrices_13 : decode y_M_allPrices.2.1 13 = .ok (.istore_n 3, 1) := by decide +kernel
theorem d_M_allPrices_14 : decode y_M_allPrices.2.1 14 = .ok (.iload_n 3, 1) := by decide +kernel
theorem d_M_allPrices_15 : decode y_M_allPrices.2.1 15 = .ok (.iload_n 2, 1) := by decide +kernel
theorem d_M_allPrices_16 : decode y_M_allPrices.2.1 16 = .ok (.if_icmp .ge 18, 3) := by decide +kernel
theorem d_M_allPrices_19 : decode y_M_allPrices.2.1 19 = .ok (.iload_n 1, 1) := by decide +kernel
theorem d_M_allPrices_20 : decode y_M_allPrices.2.1 20 = .ok (.aload_n 0, 1) := by decide +kernel
theorem d_M_allPrices_21 : decode y_M_allPrices.2.1 21 = .ok (.iload_n 2, 1) := by decide +kernel
theorem d_M_allPrices_22 : decode y_M_allPrices.2.1 22 = .ok (.iload_n 3, 1) := by decide +kernel
theorem d_M_allPrices_23 : decode y_M_allPrices.2.1 23 = .ok (.invokevirtual 428, 3) := by decide +kernel
theorem d_M_allPrices_26 : decode y_M_allPrices.2.1 26 = .ok (.iadd, 1) := by decide +kernel
theorem d_M_allPrices_27 : decode y_M_allPrices.2.1 27 = .ok (.istore_n 1, 1) := by decide +kernel
theorem d_M_allPrices_28 : decode y_M_allPrices.2.1 28 = .ok (.iinc 3 1, 3) := by decide +kernel
theorem d_M_allPrices_31 : decode y_M_allPrices.2.1 31 = .ok (.goto (-17), 3) := by decide +kernel
theorem d_M_allPrices_34 : decode y_M_allPrices.2.1 34 = .ok (.iinc 2 1, 3) := by decide +kernel
theorem d_M_allPrices_37 : decode y_M_allPrices.2.1 37 = .ok (.goto (-33), 3) := by decide +kernel
theorem d_M_allPrices_40 : decode y_M_allPrices.2.1 40 = .ok (.iload_n 1, 1) := by decide +kernel
theorem d_M_allPrices_41 : decode y_M_allPrices.2.1 41 = .ok (.ireturn, 1) := by decide +kernel

abbrev y_M_spoils : MI := (⟨"CricketHayModel", "spoils", "(I)I"⟩, prog_14_method_86_code, 3, (some .int))
theorem hy_M_spoils : y_M_spoils.1.cls ≠ "java/lang/invoke/MethodHandle" ∧ y_M_spoils.1.cls ≠ "java/lang/invoke/VarHandle" ∧ (parseMethodDescriptor y_M_spoils.1.desc).map (fun d => d.parameters.length) = some 1 := by decide +kernel
theorem d_M_spoils_0 : decode y_M_spoils.2.1 0 = .ok (.aload_n 0, 1) := by decide +kernel
theorem d_M_spoils_1 : decode y_M_spoils.2.1 1 = .ok (.iload_n 1, 1) := by decide +kernel
theorem d_M_spoils_2 : decode y_M_spoils.2.1 2 = .ok (.invokevirtual 437, 3) := by decide +kernel
theorem d_M_spoils_5 : decode y_M_spoils.2.1 5 = .ok (.ifCond .ne 7, 3) := by decide +kernel
theorem d_M_spoils_8 : decode y_M_spoils.2.1 8 = .ok (.ldc_w 471, 3) := by decide +kernel
theorem d_M_spoils_11 : decode y_M_spoils.2.1 11 = .ok (.ireturn, 1) := by decide +kernel
theorem d_M_spoils_12 : decode y_M_spoils.2.1 12 = .ok (.aload_n 0, 1) := by decide +kernel
theorem d_M_spoils_13 : decode y_M_spoils.2.1 13 = .ok (.invokevirtual 421, 3) := by decide +kernel
theorem d_M_spoils_16 : decode y_M_spoils.2.1 16 = .ok (.aload_n 0, 1) := by decide +kernel
theorem d_M_spoils_17 : decode y_M_spoils.2.1 17 = .ok (.invokevirtual 472, 3) := by decide +kernel
theorem d_M_spoils_20 : decode y_M_spoils.2.1 20 = .ok (.istore_n 2, 1) := by decide +kernel
theorem d_M_spoils_21 : decode y_M_spoils.2.1 21 = .ok (.aload_n 0, 1) := by decide +kernel
theorem d_M_spoils_22 : decode y_M_spoils.2.1 22 = .ok (.getfield 88, 3) := by decide +kernel
theorem d_M_spoils_25 : decode y_M_spoils.2.1 25 = .ok (.bipush 30, 2) := by decide +kernel
theorem d_M_spoils_27 : decode y_M_spoils.2.1 27 = .ok (.dup2, 1) := by decide +kernel
theorem d_M_spoils_28 : decode y_M_spoils.2.1 28 = .ok (.iaload, 1) := by decide +kernel
theorem d_M_spoils_29 : decode y_M_spoils.2.1 29 = .ok (.iconst 1, 1) := by decide +kernel
theorem d_M_spoils_30 : decode y_M_spoils.2.1 30 = .ok (.iload_n 1, 1) := by decide +kernel
theorem d_M_spoils_31 : decode y_M_spoils.2.1 31 = .ok (.ishl, 1) := by decide +kernel
theorem d_M_spoils_32 : decode y_M_spoils.2.1 32 = .ok (.ior, 1) := by decide +kernel
theorem d_M_spoils_33 : decode y_M_spoils.2.1 33 = .ok (.iastore, 1) := by decide +kernel
theorem d_M_spoils_34 : decode y_M_spoils.2.1 34 = .ok (.iload_n 2, 1) := by decide +kernel
theorem d_M_spoils_35 : decode y_M_spoils.2.1 35 = .ok (.aload_n 0, 1) := by decide +kernel
theorem d_M_spoils_36 : decode y_M_spoils.2.1 36 = .ok (.invokevirtual 472, 3) := by decide +kernel
theorem d_M_spoils_39 : decode y_M_spoils.2.1 39 = .ok (.isub, 1) := by decide +kernel
theorem d_M_spoils_40 : decode y_M_spoils.2.1 40 = .ok (.ireturn, 1) := by decide +kernel

abbrev y_M_starve : MI := (⟨"CricketHayModel", "starve", "(I)I"⟩, prog_14_method_87_code, 4, (some .int))
theorem hy_M_starve : y_M_starve.1.cls ≠ "java/lang/invoke/MethodHandle" ∧ y_M_starve.1.cls ≠ "java/lang/invoke/VarHandle" ∧ (parseMethodDescriptor y_M_starve.1.desc).map (fun d => d.parameters.length) = some 1 := by decide +kernel
theorem d_M_starve_0 : decode y_M_starve.2.1 0 = .ok (.iload_n 1, 1) := by decide +kernel
theorem d_M_starve_1 : decode y_M_starve.2.1 1 = .ok (.iconst 0, 1) := by decide +kernel
theorem d_M_starve_2 : decode y_M_starve.2.1 2 = .ok (.bipush 60, 2) := by decide +kernel
theorem d_M_starve_4 : decode y_M_starve.2.1 4 = .ok (.invokestatic 381, 3) := by decide +kernel
theorem d_M_starve_7 : decode y_M_starve.2.1 7 = .ok (.ifCond .ne 5, 3) := by decide +kernel
theorem d_M_starve_10 : decode y_M_starve.2.1 10 = .ok (.iconst (-1), 1) := by decide +kernel
theorem d_M_starve_11 : decode y_M_starve.2.1 11 = .ok (.ireturn, 1) := by decide +kernel
theorem d_M_starve_12 : decode y_M_starve.2.1 12 = .ok (.aload_n 0, 1) := by decide +kernel
theorem d_M_starve_13 : decode y_M_starve.2.1 13 = .ok (.iload_n 1, 1) := by decide +kernel
theorem d_M_starve_14 : decode y_M_starve.2.1 14 = .ok (.invokevirtual 446, 3) := by decide +kernel
theorem d_M_starve_17 : decode y_M_starve.2.1 17 = .ok (.iconst 0, 1) := by decide +kernel
theorem d_M_starve_18 : decode y_M_starve.2.1 18 = .ok (.istore_n 2, 1) := by decide +kernel
theorem d_M_starve_19 : decode y_M_starve.2.1 19 = .ok (.iconst 0, 1) := by decide +kernel
theorem d_M_starve_20 : decode y_M_starve.2.1 20 = .ok (.istore_n 3, 1) := by decide +kernel
theorem d_M_starve_21 : decode y_M_starve.2.1 21 = .ok (.iload_n 3, 1) := by decide +kernel
theorem d_M_starve_22 : decode y_M_starve.2.1 22 = .ok (.aload_n 0, 1) := by decide +kernel
theorem d_M_starve_23 : decode y_M_starve.2.1 23 = .ok (.getfield 360, 3) := by decide +kernel
theorem d_M_starve_26 : decode y_M_starve.2.1 26 = .ok (.if_icmp .ge 21, 3) := by decide +kernel
theorem d_M_starve_29 : decode y_M_starve.2.1 29 = .ok (.iload_n 2, 1) := by decide +kernel
theorem d_M_starve_30 : decode y_M_starve.2.1 30 = .ok (.aload_n 0, 1) := by decide +kernel
theorem d_M_starve_31 : decode y_M_starve.2.1 31 = .ok (.getfield 88, 3) := by decide +kernel
theorem d_M_starve_34 : decode y_M_starve.2.1 34 = .ok (.bipush 12, 2) := by decide +kernel
theorem d_M_starve_36 : decode y_M_starve.2.1 36 = .ok (.iload_n 3, 1) := by decide +kernel
theorem d_M_starve_37 : decode y_M_starve.2.1 37 = .ok (.iadd, 1) := by decide +kernel
theorem d_M_starve_38 : decode y_M_starve.2.1 38 = .ok (.iaload, 1) := by decide +kernel
theorem d_M_starve_39 : decode y_M_starve.2.1 39 = .ok (.iadd, 1) := by decide +kernel
theorem d_M_starve_40 : decode y_M_starve.2.1 40 = .ok (.istore_n 2, 1) := by decide +kernel
theorem d_M_starve_41 : decode y_M_starve.2.1 41 = .ok (.iinc 3 1, 3) := by decide +kernel
theorem d_M_starve_44 : decode y_M_starve.2.1 44 = .ok (.goto (-23), 3) := by decide +kernel
theorem d_M_starve_47 : decode y_M_starve.2.1 47 = .ok (.iload_n 2, 1) := by decide +kernel
theorem d_M_starve_48 : decode y_M_starve.2.1 48 = .ok (.ireturn, 1) := by decide +kernel

abbrev y_M_hush : MI := (⟨"CricketHayModel", "hush", "(I)I"⟩, prog_14_method_88_code, 3, (some .int))
theorem hy_M_hush : y_M_hush.1.cls ≠ "java/lang/invoke/MethodHandle" ∧ y_M_hush.1.cls ≠ "java/lang/invoke/VarHandle" ∧ (parseMethodDescriptor y_M_hush.1.desc).map (fun d => d.parameters.length) = some 1 := by decide +kernel
theorem d_M_hush_0 : decode y_M_hush.2.1 0 = .ok (.iload_n 1, 1) := by decide +kernel
theorem d_M_hush_1 : decode y_M_hush.2.1 1 = .ok (.iconst 0, 1) := by decide +kernel
theorem d_M_hush_2 : decode y_M_hush.2.1 2 = .ok (.sipush 594, 3) := by decide +kernel
theorem d_M_hush_5 : decode y_M_hush.2.1 5 = .ok (.invokestatic 381, 3) := by decide +kernel
theorem d_M_hush_8 : decode y_M_hush.2.1 8 = .ok (.ifCond .ne 5, 3) := by decide +kernel
theorem d_M_hush_11 : decode y_M_hush.2.1 11 = .ok (.iconst (-1), 1) := by decide +kernel
theorem d_M_hush_12 : decode y_M_hush.2.1 12 = .ok (.ireturn, 1) := by decide +kernel
theorem d_M_hush_13 : decode y_M_hush.2.1 13 = .ok (.aload_n 0, 1) := by decide +kernel
theorem d_M_hush_14 : decode y_M_hush.2.1 14 = .ok (.invokevirtual 421, 3) := by decide +kernel
theorem d_M_hush_17 : decode y_M_hush.2.1 17 = .ok (.iconst 0, 1) := by decide +kernel
theorem d_M_hush_18 : decode y_M_hush.2.1 18 = .ok (.istore_n 2, 1) := by decide +kernel
theorem d_M_hush_19 : decode y_M_hush.2.1 19 = .ok (.iload_n 2, 1) := by decide +kernel
theorem d_M_hush_20 : decode y_M_hush.2.1 20 = .ok (.bipush 60, 2) := by decide +kernel
theorem d_M_hush_22 : decode y_M_hush.2.1 22 = .ok (.if_icmp .gt 23, 3) := by decide +kernel
theorem d_M_hush_25 : decode y_M_hush.2.1 25 = .ok (.aload_n 0, 1) := by decide +kernel
theorem d_M_hush_26 : decode y_M_hush.2.1 26 = .ok (.invokevirtual 431, 3) := by decide +kernel
theorem d_M_hush_29 : decode y_M_hush.2.1 29 = .ok (.iload_n 1, 1) := by decide +kernel
theorem d_M_hush_30 : decode y_M_hush.2.1 30 = .ok (.if_icmp .gt 5, 3) := by decide +kernel
theorem d_M_hush_33 : decode y_M_hush.2.1 33 = .ok (.iload_n 2, 1) := by decide +kernel
theorem d_M_hush_34 : decode y_M_hush.2.1 34 = .ok (.ireturn, 1) := by decide +kernel
theorem d_M_hush_35 : decode y_M_hush.2.1 35 = .ok (.aload_n 0, 1) := by decide +kernel
theorem d_M_hush_36 : decode y_M_hush.2.1 36 = .ok (.invokevirtual 440, 3) := by decide +kernel
theorem d_M_hush_39 : decode y_M_hush.2.1 39 = .ok (.iinc 2 1, 3) := by decide +kernel
theorem d_M_hush_42 : decode y_M_hush.2.1 42 = .ok (.goto (-23), 3) := by decide +kernel
theorem d_M_hush_45 : decode y_M_hush.2.1 45 = .ok (.iconst (-1), 1) := by decide +kernel
theorem d_M_hush_46 : decode y_M_hush.2.1 46 = .ok (.ireturn, 1) := by decide +kernel

abbrev y_M_payOf : MI := (⟨"CricketHayModel", "payOf", "(IIIIIZ)I"⟩, prog_14_method_89_code, 9, (some .int))
theorem hy_M_payOf : y_M_payOf.1.cls ≠ "java/lang/invoke/MethodHandle" ∧ y_M_payOf.1.cls ≠ "java/lang/invoke/VarHandle" ∧ (parseMethodDescriptor y_M_payOf.1.desc).map (fun d => d.parameters.length) = some 6 := by decide +kernel
theorem d_M_payOf_0 : decode y_M_payOf.2.1 0 = .ok (.aload_n 0, 1) := by decide +kernel
theorem d_M_payOf_1 : decode y_M_payOf.2.1 1 = .ok (.getfield 88, 3) := by decide +kernel
theorem d_M_payOf_4 : decode y_M_payOf.2.1 4 = .ok (.bipush 24, 2) := by decide +kernel
theorem d_M_payOf_6 : decode y_M_payOf.2.1 6 = .ok (.iload_n 1, 1) := by decide +kernel
theorem d_M_payOf_7 : decode y_M_payOf.2.1 7 = .ok (.iadd, 1) := by decide +kernel
theorem d_M_payOf_8 : decode y_M_payOf.2.1 8 = .ok (.iload 4, 2) := by decide +kernel
theorem d_M_payOf_10 : decode y_M_payOf.2.1 10 = .ok (.iastore, 1) := by decide +kernel
theorem d_M_payOf_11 : decode y_M_payOf.2.1 11 = .ok (.aload_n 0, 1) := by decide +kernel
theorem d_M_payOf_12 : decode y_M_payOf.2.1 12 = .ok (.getfield 88, 3) := by decide +kernel
theorem d_M_payOf_15 : decode y_M_payOf.2.1 15 = .ok (.bipush 24, 2) := by decide +kernel
theorem d_M_payOf_17 : decode y_M_payOf.2.1 17 = .ok (.iload_n 2, 1) := by decide +kernel
theorem d_M_payOf_18 : decode y_M_payOf.2.1 18 = .ok (.iadd, 1) := by decide +kernel
theorem d_M_payOf_19 : decode y_M_payOf.2.1 19 = .ok (.iload 5, 2) := by decide +kernel
theorem d_M_payOf_21 : decode y_M_payOf.2.1 21 = .ok (.iastore, 1) := by decide +kernel
theorem d_M_payOf_22 : decode y_M_payOf.2.1 22 = .ok (.iload_n 3, 1) := by decide +kernel
theorem d_M_payOf_23 : decode y_M_payOf.2.1 23 = .ok (.aload_n 0, 1) := by decide +kernel
theorem d_M_payOf_24 : decode y_M_payOf.2.1 24 = .ok (.iload_n 1, 1) := by decide +kernel
theorem d_M_payOf_25 : decode y_M_payOf.2.1 25 = .ok (.iload_n 2, 1) := by decide +kernel
theorem d_M_payOf_26 : decode y_M_payOf.2.1 26 = .ok (.invokevirtual 428, 3) := by decide +kernel
theorem d_M_payOf_29 : decode y_M_payOf.2.1 29 = .ok (.imul, 1) := by decide +kernel
theorem d_M_payOf_30 : decode y_M_payOf.2.1 30 = .ok (.istore 7, 2) := by decide +kernel
theorem d_M_payOf_32 : decode y_M_payOf.2.1 32 = .ok (.iload 6, 2) := by decide +kernel
theorem d_M_payOf_34 : decode y_M_payOf.2.1 34 = .ok (.ifCond .eq 8, 3) := by decide +kernel
theorem d_M_payOf_37 : decode y_M_payOf.2.1 37 = .ok (.iload 4, 2) := by decide +kernel
theorem d_M_payOf_39 : decode y_M_payOf.2.1 39 = .ok (.goto 5, 3) := by decide +kernel
theorem d_M_payOf_42 : decode y_M_payOf.2.1 42 = .ok (.iload 5, 2) := by decide +kernel
theorem d_M_payOf_44 : decode y_M_payOf.2.1 44 = .ok (.istore 8, 2) := by decide +kernel
theorem d_M_payOf_46 : decode y_M_payOf.2.1 46 = .ok (.iload 6, 2) := by decide +kernel
theorem d_M_payOf_48 : decode y_M_payOf.2.1 48 = .ok (.ifCond .eq 9, 3) := by decide +kernel
theorem d_M_payOf_51 : decode y_M_payOf.2.1 51 = .ok (.iload 7, 2) := by decide +kernel
theorem d_M_payOf_53 : decode y_M_payOf.2.1 53 = .ok (.ineg, 1) := by decide +kernel
theorem d_M_payOf_54 : decode y_M_payOf.2.1 54 = .ok (.goto 5, 3) := by decide +kernel
theorem d_M_payOf_57 : decode y_M_payOf.2.1 57 = .ok (.iload 7, 2) := by decide +kernel
theorem d_M_payOf_59 : decode y_M_payOf.2.1 59 = .ok (.iconst 3, 1) := by decide +kernel
theorem d_M_payOf_60 : decode y_M_payOf.2.1 60 = .ok (.iload 8, 2) := by decide +kernel
theorem d_M_payOf_62 : decode y_M_payOf.2.1 62 = .ok (.ifCond .ge 9, 3) := by decide +kernel
theorem d_M_payOf_65 : decode y_M_payOf.2.1 65 = .ok (.iload 8, 2) := by decide +kernel
theorem d_M_payOf_67 : decode y_M_payOf.2.1 67 = .ok (.ineg, 1) := by decide +kernel
theorem d_M_payOf_68 : decode y_M_payOf.2.1 68 = .ok (.goto 5, 3) := by decide +kernel
theorem d_M_payOf_71 : decode y_M_payOf.2.1 71 = .ok (.iload 8, 2) := by decide +kernel
theorem d_M_payOf_73 : decode y_M_payOf.2.1 73 = .ok (.imul, 1) := by decide +kernel
theorem d_M_payOf_74 : decode y_M_payOf.2.1 74 = .ok (.isub, 1) := by decide +kernel
theorem d_M_payOf_75 : decode y_M_payOf.2.1 75 = .ok (.ireturn, 1) := by decide +kernel

abbrev y_M_isRest : MI := (⟨"CricketHayModel", "isRest", "(IIIII)Z"⟩, prog_14_method_90_code, 10, (some .boolean))
theorem hy_M_isRest : y_M_isRest.1.cls ≠ "java/lang/invoke/MethodHandle" ∧ y_M_isRest.1.cls ≠ "java/lang/invoke/VarHandle" ∧ (parseMethodDescriptor y_M_isRest.1.desc).map (fun d => d.parameters.length) = some 5 := by decide +kernel
theorem d_M_isRest_0 : decode y_M_isRest.2.1 0 = .ok (.aload_n 0, 1) := by decide +kernel
theorem d_M_isRest_1 : decode y_M_isRest.2.1 1 = .ok (.iload_n 1, 1) := by decide +kernel
theorem d_M_isRest_2 : decode y_M_isRest.2.1 2 = .ok (.iload_n 2, 1) := by decide +kernel
theorem d_M_isRest_3 : decode y_M_isRest.2.1 3 = .ok (.iload_n 3, 1) := by decide +kernel
theorem d_M_isRest_4 : decode y_M_isRest.2.1 4 = .ok (.iload 4, 2) := by decide +kernel
theorem d_M_isRest_6 : decode y_M_isRest.2.1 6 = .ok (.iload 5, 2) := by decide +kernel
theorem d_M_isRest_8 : decode y_M_isRest.2.1 8 = .ok (.iconst 1, 1) := by decide +kernel
theorem d_M_isRest_9 : decode y_M_isRest.2.1 9 = .ok (.invokevirtual 475, 3) := by decide +kernel
theorem d_M_isRest_12 : decode y_M_isRest.2.1 12 = .ok (.istore 6, 2) := by decide +kernel
theorem d_M_isRest_14 : decode y_M_isRest.2.1 14 = .ok (.aload_n 0, 1) := by decide +kernel
theorem d_M_isRest_15 : decode y_M_isRest.2.1 15 = .ok (.iload_n 1, 1) := by decide +kernel
theorem d_M_isRest_16 : decode y_M_isRest.2.1 16 = .ok (.iload_n 2, 1) := by decide +kernel
theorem d_M_isRest_17 : decode y_M_isRest.2.1 17 = .ok (.iload_n 3, 1) := by decide +kernel
theorem d_M_isRest_18 : decode y_M_isRest.2.1 18 = .ok (.iload 4, 2) := by decide +kernel
theorem d_M_isRest_20 : decode y_M_isRest.2.1 20 = .ok (.iload 5, 2) := by decide +kernel
theorem d_M_isRest_22 : decode y_M_isRest.2.1 22 = .ok (.iconst 0, 1) := by decide +kernel
theorem d_M_isRest_23 : decode y_M_isRest.2.1 23 = .ok (.invokevirtual 475, 3) := by decide +kernel
theorem d_M_isRest_26 : decode y_M_isRest.2.1 26 = .ok (.istore 7, 2) := by decide +kernel
theorem d_M_isRest_28 : decode y_M_isRest.2.1 28 = .ok (.iconst 1, 1) := by decide +kernel
theorem d_M_isRest_29 : decode y_M_isRest.2.1 29 = .ok (.istore 8, 2) := by decide +kernel
theorem d_M_isRest_31 : decode y_M_isRest.2.1 31 = .ok (.bipush (-2), 2) := by decide +kernel
theorem d_M_isRest_33 : decode y_M_isRest.2.1 33 = .ok (.istore 9, 2) := by decide +kernel
theorem d_M_isRest_35 : decode y_M_isRest.2.1 35 = .ok (.iload 9, 2) := by decide +kernel
theorem d_M_isRest_37 : decode y_M_isRest.2.1 37 = .ok (.iconst 2, 1) := by decide +kernel
theorem d_M_isRest_38 : decode y_M_isRest.2.1 38 = .ok (.if_icmp .gt 55, 3) := by decide +kernel
theorem d_M_isRest_41 : decode y_M_isRest.2.1 41 = .ok (.iload 8, 2) := by decide +kernel
theorem d_M_isRest_43 : decode y_M_isRest.2.1 43 = .ok (.ifCond .eq 50, 3) := by decide +kernel
theorem d_M_isRest_46 : decode y_M_isRest.2.1 46 = .ok (.aload_n 0, 1) := by decide +kernel
theorem d_M_isRest_47 : decode y_M_isRest.2.1 47 = .ok (.iload_n 1, 1) := by decide +kernel
theorem d_M_isRest_48 : decode y_M_isRest.2.1 48 = .ok (.iload_n 2, 1) := by decide +kernel
theorem d_M_isRest_49 : decode y_M_isRest.2.1 49 = .ok (.iload_n 3, 1) := by decide +kernel
theorem d_M_isRest_50 : decode y_M_isRest.2.1 50 = .ok (.iload 9, 2) := by decide +kernel
theorem d_M_isRest_52 : decode y_M_isRest.2.1 52 = .ok (.iload 5, 2) := by decide +kernel
theorem d_M_isRest_54 : decode y_M_isRest.2.1 54 = .ok (.iconst 1, 1) := by decide +kernel
theorem d_M_isRest_55 : decode y_M_isRest.2.1 55 = .ok (.invokevirtual 475, 3) := by decide +kernel
theorem d_M_isRest_58 : decode y_M_isRest.2.1 58 = .ok (.iload 6, 2) := by decide +kernel
theorem d_M_isRest_60 : decode y_M_isRest.2.1 60 = .ok (.if_icmp .gt 24, 3) := by decide +kernel
theorem d_M_isRest_63 : decode y_M_isRest.2.1 63 = .ok (.aload_n 0, 1) := by decide +kernel
theorem d_M_isRest_64 : decode y_M_isRest.2.1 64 = .ok (.iload_n 1, 1) := by decide +kernel
theorem d_M_isRest_65 : decode y_M_isRest.2.1 65 = .ok (.iload_n 2, 1) := by decide +kernel
theorem d_M_isRest_66 : decode y_M_isRest.2.1 66 = .ok (.iload_n 3, 1) := by decide +kernel
theorem d_M_isRest_67 : decode y_M_isRest.2.1 67 = .ok (.iload 4, 2) := by decide +kernel
theorem d_M_isRest_69 : decode y_M_isRest.2.1 69 = .ok (.iload 9, 2) := by decide +kernel
theorem d_M_isRest_71 : decode y_M_isRest.2.1 71 = .ok (.iconst 0, 1) := by decide +kernel
theorem d_M_isRest_72 : decode y_M_isRest.2.1 72 = .ok (.invokevirtual 475, 3) := by decide +kernel
theorem d_M_isRest_75 : decode y_M_isRest.2.1 75 = .ok (.iload 7, 2) := by decide +kernel
theorem d_M_isRest_77 : decode y_M_isRest.2.1 77 = .ok (.if_icmp .gt 7, 3) := by decide +kernel
theorem d_M_isRest_80 : decode y_M_isRest.2.1 80 = .ok (.iconst 1, 1) := by decide +kernel
theorem d_M_isRest_81 : decode y_M_isRest.2.1 81 = .ok (.goto 4, 3) := by decide +kernel
theorem d_M_isRest_84 : decode y_M_isRest.2.1 84 = .ok (.iconst 0, 1) := by decide +kernel
theorem d_M_isRest_85 : decode y_M_isRest.2.1 85 = .ok (.istore 8, 2) := by decide +kernel
theorem d_M_isRest_87 : decode y_M_isRest.2.1 87 = .ok (.iinc 9 1, 3) := by decide +kernel
theorem d_M_isRest_90 : decode y_M_isRest.2.1 90 = .ok (.goto (-55), 3) := by decide +kernel
theorem d_M_isRest_93 : decode y_M_isRest.2.1 93 = .ok (.iload 8, 2) := by decide +kernel
theorem d_M_isRest_95 : decode y_M_isRest.2.1 95 = .ok (.ireturn, 1) := by decide +kernel

abbrev y_M_rest : MI := (⟨"CricketHayModel", "rest", "(III)I"⟩, prog_14_method_91_code, 7, (some .int))
theorem hy_M_rest : y_M_rest.1.cls ≠ "java/lang/invoke/MethodHandle" ∧ y_M_rest.1.cls ≠ "java/lang/invoke/VarHandle" ∧ (parseMethodDescriptor y_M_rest.1.desc).map (fun d => d.parameters.length) = some 3 := by decide +kernel
theorem d_M_rest_0 : decode y_M_rest.2.1 0 = .ok (.aload_n 0, 1) := by decide +kernel
theorem d_M_rest_1 : decode y_M_rest.2.1 1 = .ok (.iconst 0, 1) := by decide +kernel
theorem d_M_rest_2 : decode y_M_rest.2.1 2 = .ok (.putfield 378, 3) := by decide +kernel
theorem d_M_rest_5 : decode y_M_rest.2.1 5 = .ok (.aload_n 0, 1) := by decide +kernel
theorem d_M_rest_6 : decode y_M_rest.2.1 6 = .ok (.iload_n 1, 1) := by decide +kernel
theorem d_M_rest_7 : decode y_M_rest.2.1 7 = .ok (.iload_n 2, 1) := by decide +kernel
theorem d_M_rest_8 : decode y_M_rest.2.1 8 = .ok (.invokevirtual 424, 3) := by decide +kernel
theorem d_M_rest_11 : decode y_M_rest.2.1 11 = .ok (.ifCond .eq 29, 3) := by decide +kernel
theorem d_M_rest_14 : decode y_M_rest.2.1 14 = .ok (.aload_n 0, 1) := by decide +kernel
theorem d_M_rest_15 : decode y_M_rest.2.1 15 = .ok (.iload_n 1, 1) := by decide +kernel
theorem d_M_rest_16 : decode y_M_rest.2.1 16 = .ok (.invokevirtual 437, 3) := by decide +kernel
theorem d_M_rest_19 : decode y_M_rest.2.1 19 = .ok (.ifCond .eq 21, 3) := by decide +kernel
theorem d_M_rest_22 : decode y_M_rest.2.1 22 = .ok (.aload_n 0, 1) := by decide +kernel
theorem d_M_rest_23 : decode y_M_rest.2.1 23 = .ok (.iload_n 2, 1) := by decide +kernel
theorem d_M_rest_24 : decode y_M_rest.2.1 24 = .ok (.invokevirtual 437, 3) := by decide +kernel
theorem d_M_rest_27 : decode y_M_rest.2.1 27 = .ok (.ifCond .eq 13, 3) := by decide +kernel
theorem d_M_rest_30 : decode y_M_rest.2.1 30 = .ok (.iload_n 3, 1) := by decide +kernel
theorem d_M_rest_31 : decode y_M_rest.2.1 31 = .ok (.iconst 1, 1) := by decide +kernel
theorem d_M_rest_32 : decode y_M_rest.2.1 32 = .ok (.bipush 9, 2) := by decide +kernel
theorem d_M_rest_34 : decode y_M_rest.2.1 34 = .ok (.invokestatic 381, 3) := by decide +kernel
theorem d_M_rest_37 : decode y_M_rest.2.1 37 = .ok (.ifCond .ne 5, 3) := by decide +kernel
theorem d_M_rest_40 : decode y_M_rest.2.1 40 = .ok (.iconst (-1), 1) := by decide +kernel
theorem d_M_rest_41 : decode y_M_rest.2.1 41 = .ok (.ireturn, 1) := by decide +kernel
theorem d_M_rest_42 : decode y_M_rest.2.1 42 = .ok (.aload_n 0, 1) := by decide +kernel
theorem d_M_rest_43 : decode y_M_rest.2.1 43 = .ok (.invokevirtual 421, 3) := by decide +kernel
theorem d_M_rest_46 : decode y_M_rest.2.1 46 = .ok (.iconst 0, 1) := by decide +kernel
theorem d_M_rest_47 : decode y_M_rest.2.1 47 = .ok (.istore 4, 2) := by decide +kernel
theorem d_M_rest_49 : decode y_M_rest.2.1 49 = .ok (.bipush (-2), 2) := by decide +kernel
theorem d_M_rest_51 : decode y_M_rest.2.1 51 = .ok (.istore 5, 2) := by decide +kernel
theorem d_M_rest_53 : decode y_M_rest.2.1 53 = .ok (.iload 5, 2) := by decide +kernel
theorem d_M_rest_55 : decode y_M_rest.2.1 55 = .ok (.iconst 2, 1) := by decide +kernel
theorem d_M_rest_56 : decode y_M_rest.2.1 56 = .ok (.if_icmp .gt 66, 3) := by decide +kernel
theorem d_M_rest_59 : decode y_M_rest.2.1 59 = .ok (.bipush (-2), 2) := by decide +kernel
theorem d_M_rest_61 : decode y_M_rest.2.1 61 = .ok (.istore 6, 2) := by decide +kernel
theorem d_M_rest_63 : decode y_M_rest.2.1 63 = .ok (.iload 6, 2) := by decide +kernel
theorem d_M_rest_65 : decode y_M_rest.2.1 65 = .ok (.iconst 2, 1) := by decide +kernel
theorem d_M_rest_66 : decode y_M_rest.2.1 66 = .ok (.if_icmp .gt 50, 3) := by decide +kernel
theorem d_M_rest_69 : decode y_M_rest.2.1 69 = .ok (.aload_n 0, 1) := by decide +kernel
theorem d_M_rest_70 : decode y_M_rest.2.1 70 = .ok (.iload_n 1, 1) := by decide +kernel
theorem d_M_rest_71 : decode y_M_rest.2.1 71 = .ok (.iload_n 2, 1) := by decide +kernel
theorem d_M_rest_72 : decode y_M_rest.2.1 72 = .ok (.iload_n 3, 1) := by decide +kernel
theorem d_M_rest_73 : decode y_M_rest.2.1 73 = .ok (.iload 5, 2) := by decide +kernel
theorem d_M_rest_75 : decode y_M_rest.2.1 75 = .ok (.iload 6, 2) := by decide +kernel
theorem d_M_rest_77 : decode y_M_rest.2.1 77 = .ok (.invokevirtual 479, 3) := by decide +kernel
theorem d_M_rest_80 : decode y_M_rest.2.1 80 = .ok (.ifCond .ne 6, 3) := by decide +kernel
theorem d_M_rest_83 : decode y_M_rest.2.1 83 = .ok (.goto 27, 3) := by decide +kernel
theorem d_M_rest_86 : decode y_M_rest.2.1 86 = .ok (.iload 4, 2) := by decide +kernel
theorem d_M_rest_88 : decode y_M_rest.2.1 88 = .ok (.ifCond .ne 19, 3) := by decide +kernel
theorem d_M_rest_91 : decode y_M_rest.2.1 91 = .ok (.aload_n 0, 1) := by decide +kernel
theorem d_M_rest_92 : decode y_M_rest.2.1 92 = .ok (.getfield 97, 3) := by decide +kernel
theorem d_M_rest_95 : decode y_M_rest.2.1 95 = .ok (.iconst 0, 1) := by decide +kernel
theorem d_M_rest_96 : decode y_M_rest.2.1 96 = .ok (.iload 5, 2) := by decide +kernel
theorem d_M_rest_98 : decode y_M_rest.2.1 98 = .ok (.iastore, 1) := by decide +kernel
theorem d_M_rest_99 : decode y_M_rest.2.1 99 = .ok (.aload_n 0, 1) := by decide +kernel
theorem d_M_rest_100 : decode y_M_rest.2.1 100 = .ok (.getfield 97, 3) := by decide +kernel
theorem d_M_rest_103 : decode y_M_rest.2.1 103 = .ok (.iconst 1, 1) := by decide +kernel
theorem d_M_rest_104 : decode y_M_rest.2.1 104 = .ok (.iload 6, 2) := by decide +kernel
theorem d_M_rest_106 : decode y_M_rest.2.1 106 = .ok (.iastore, 1) := by decide +kernel
theorem d_M_rest_107 : decode y_M_rest.2.1 107 = .ok (.iinc 4 1, 3) := by decide +kernel
theorem d_M_rest_110 : decode y_M_rest.2.1 110 = .ok (.iinc 6 1, 3) := by decide +kernel
theorem d_M_rest_113 : decode y_M_rest.2.1 113 = .ok (.goto (-50), 3) := by decide +kernel
theorem d_M_rest_116 : decode y_M_rest.2.1 116 = .ok (.iinc 5 1, 3) := by decide +kernel
theorem d_M_rest_119 : decode y_M_rest.2.1 119 = .ok (.goto (-66), 3) := by decide +kernel
theorem d_M_rest_122 : decode y_M_rest.2.1 122 = .ok (.aload_n 0, 1) := by decide +kernel
theorem d_M_rest_123 : decode y_M_rest.2.1 123 = .ok (.iload 4, 2) := by decide +kernel
theorem d_M_rest_125 : decode y_M_rest.2.1 125 = .ok (.ifCond .ne 7, 3) := by decide +kernel
theorem d_M_rest_128 : decode y_M_rest.2.1 128 = .ok (.iconst 0, 1) := by decide +kernel
theorem d_M_rest_129 : decode y_M_rest.2.1 129 = .ok (.goto 4, 3) := by decide +kernel
theorem d_M_rest_132 : decode y_M_rest.2.1 132 = .ok (.iconst 2, 1) := by decide +kernel
theorem d_M_rest_133 : decode y_M_rest.2.1 133 = .ok (.putfield 378, 3) := by decide +kernel
theorem d_M_rest_136 : decode y_M_rest.2.1 136 = .ok (.iload 4, 2) := by decide +kernel
theorem d_M_rest_138 : decode y_M_rest.2.1 138 = .ok (.ireturn, 1) := by decide +kernel

abbrev y_M_divisor : MI := (⟨"CricketHayModel", "divisor", "(II)I"⟩, prog_14_method_92_code, 5, (some .int))
theorem hy_M_divisor : y_M_divisor.1.cls ≠ "java/lang/invoke/MethodHandle" ∧ y_M_divisor.1.cls ≠ "java/lang/invoke/VarHandle" ∧ (parseMethodDescriptor y_M_divisor.1.desc).map (fun d => d.parameters.length) = some 2 := by decide +kernel
theorem d_M_divisor_0 : decode y_M_divisor.2.1 0 = .ok (.iload_n 0, 1) := by decide +kernel
theorem d_M_divisor_1 : decode y_M_divisor.2.1 1 = .ok (.istore_n 2, 1) := by decide +kernel
theorem d_M_divisor_2 : decode y_M_divisor.2.1 2 = .ok (.iload_n 1, 1) := by decide +kernel
theorem d_M_divisor_3 : decode y_M_divisor.2.1 3 = .ok (.istore_n 3, 1) := by decide +kernel
theorem d_M_divisor_4 : decode y_M_divisor.2.1 4 = .ok (.iload_n 3, 1) := by decide +kernel
theorem d_M_divisor_5 : decode y_M_divisor.2.1 5 = .ok (.ifCond .le 16, 3) := by decide +kernel
theorem d_M_divisor_8 : decode y_M_divisor.2.1 8 = .ok (.iload_n 2, 1) := by decide +kernel
theorem d_M_divisor_9 : decode y_M_divisor.2.1 9 = .ok (.iload_n 3, 1) := by decide +kernel
theorem d_M_divisor_10 : decode y_M_divisor.2.1 10 = .ok (.irem, 1) := by decide +kernel
theorem d_M_divisor_11 : decode y_M_divisor.2.1 11 = .ok (.istore 4, 2) := by decide +kernel
theorem d_M_divisor_13 : decode y_M_divisor.2.1 13 = .ok (.iload_n 3, 1) := by decide +kernel
theorem d_M_divisor_14 : decode y_M_divisor.2.1 14 = .ok (.istore_n 2, 1) := by decide +kernel
theorem d_M_divisor_15 : decode y_M_divisor.2.1 15 = .ok (.iload 4, 2) := by decide +kernel
theorem d_M_divisor_17 : decode y_M_divisor.2.1 17 = .ok (.istore_n 3, 1) := by decide +kernel
theorem d_M_divisor_18 : decode y_M_divisor.2.1 18 = .ok (.goto (-14), 3) := by decide +kernel
theorem d_M_divisor_21 : decode y_M_divisor.2.1 21 = .ok (.iload_n 2, 1) := by decide +kernel
theorem d_M_divisor_22 : decode y_M_divisor.2.1 22 = .ok (.ireturn, 1) := by decide +kernel

abbrev y_M_shareOf : MI := (⟨"CricketHayModel", "shareOf", "(II)I"⟩, prog_14_method_93_code, 6, (some .int))
theorem hy_M_shareOf : y_M_shareOf.1.cls ≠ "java/lang/invoke/MethodHandle" ∧ y_M_shareOf.1.cls ≠ "java/lang/invoke/VarHandle" ∧ (parseMethodDescriptor y_M_shareOf.1.desc).map (fun d => d.parameters.length) = some 2 := by decide +kernel
theorem d_M_shareOf_0 : decode y_M_shareOf.2.1 0 = .ok (.aload_n 0, 1) := by decide +kernel
theorem d_M_shareOf_1 : decode y_M_shareOf.2.1 1 = .ok (.invokevirtual 421, 3) := by decide +kernel
theorem d_M_shareOf_4 : decode y_M_shareOf.2.1 4 = .ok (.iconst 1, 1) := by decide +kernel
theorem d_M_shareOf_5 : decode y_M_shareOf.2.1 5 = .ok (.istore_n 3, 1) := by decide +kernel
theorem d_M_shareOf_6 : decode y_M_shareOf.2.1 6 = .ok (.iconst 0, 1) := by decide +kernel
theorem d_M_shareOf_7 : decode y_M_shareOf.2.1 7 = .ok (.istore 4, 2) := by decide +kernel
theorem d_M_shareOf_9 : decode y_M_shareOf.2.1 9 = .ok (.iload 4, 2) := by decide +kernel
theorem d_M_shareOf_11 : decode y_M_shareOf.2.1 11 = .ok (.iload_n 1, 1) := by decide +kernel
theorem d_M_shareOf_12 : decode y_M_shareOf.2.1 12 = .ok (.if_icmp .ge 54, 3) := by decide +kernel
theorem d_M_shareOf_15 : decode y_M_shareOf.2.1 15 = .ok (.iload_n 2, 1) := by decide +kernel
theorem d_M_shareOf_16 : decode y_M_shareOf.2.1 16 = .ok (.iload 4, 2) := by decide +kernel
theorem d_M_shareOf_18 : decode y_M_shareOf.2.1 18 = .ok (.ishr, 1) := by decide +kernel
theorem d_M_shareOf_19 : decode y_M_shareOf.2.1 19 = .ok (.iconst 1, 1) := by decide +kernel
theorem d_M_shareOf_20 : decode y_M_shareOf.2.1 20 = .ok (.iand, 1) := by decide +kernel
theorem d_M_shareOf_21 : decode y_M_shareOf.2.1 21 = .ok (.iconst 1, 1) := by decide +kernel
theorem d_M_shareOf_22 : decode y_M_shareOf.2.1 22 = .ok (.if_icmp .ne 7, 3) := by decide +kernel
theorem d_M_shareOf_25 : decode y_M_shareOf.2.1 25 = .ok (.iconst 1, 1) := by decide +kernel
theorem d_M_shareOf_26 : decode y_M_shareOf.2.1 26 = .ok (.goto 4, 3) := by decide +kernel
theorem d_M_shareOf_29 : decode y_M_shareOf.2.1 29 = .ok (.iconst 0, 1) := by decide +kernel
theorem d_M_shareOf_30 : decode y_M_shareOf.2.1 30 = .ok (.istore 5, 2) := by decide +kernel
theorem d_M_shareOf_32 : decode y_M_shareOf.2.1 32 = .ok (.iload_n 3, 1) := by decide +kernel
theorem d_M_shareOf_33 : decode y_M_shareOf.2.1 33 = .ok (.iload 5, 2) := by decide +kernel
theorem d_M_shareOf_35 : decode y_M_shareOf.2.1 35 = .ok (.ifCond .eq 10, 3) := by decide +kernel
theorem d_M_shareOf_38 : decode y_M_shareOf.2.1 38 = .ok (.aload_n 0, 1) := by decide +kernel
theorem d_M_shareOf_39 : decode y_M_shareOf.2.1 39 = .ok (.getfield 363, 3) := by decide +kernel
theorem d_M_shareOf_42 : decode y_M_shareOf.2.1 42 = .ok (.goto 10, 3) := by decide +kernel
theorem d_M_shareOf_45 : decode y_M_shareOf.2.1 45 = .ok (.bipush 100, 2) := by decide +kernel
theorem d_M_shareOf_47 : decode y_M_shareOf.2.1 47 = .ok (.aload_n 0, 1) := by decide +kernel
theorem d_M_shareOf_48 : decode y_M_shareOf.2.1 48 = .ok (.getfield 363, 3) := by decide +kernel
theorem d_M_shareOf_51 : decode y_M_shareOf.2.1 51 = .ok (.isub, 1) := by decide +kernel
theorem d_M_shareOf_52 : decode y_M_shareOf.2.1 52 = .ok (.imul, 1) := by decide +kernel
theorem d_M_shareOf_53 : decode y_M_shareOf.2.1 53 = .ok (.istore_n 3, 1) := by decide +kernel
theorem d_M_shareOf_54 : decode y_M_shareOf.2.1 54 = .ok (.aload_n 0, 1) := by decide +kernel
theorem d_M_shareOf_55 : decode y_M_shareOf.2.1 55 = .ok (.iload 5, 2) := by decide +kernel
theorem d_M_shareOf_57 : decode y_M_shareOf.2.1 57 = .ok (.invokevirtual 417, 3) := by decide +kernel
theorem d_M_shareOf_60 : decode y_M_shareOf.2.1 60 = .ok (.iinc 4 1, 3) := by decide +kernel
theorem d_M_shareOf_63 : decode y_M_shareOf.2.1 63 = .ok (.goto (-54), 3) := by decide +kernel
theorem d_M_shareOf_66 : decode y_M_shareOf.2.1 66 = .ok (.iload_n 3, 1) := by decide +kernel
theorem d_M_shareOf_67 : decode y_M_shareOf.2.1 67 = .ok (.ireturn, 1) := by decide +kernel

abbrev y_M_hundreds : MI := (⟨"CricketHayModel", "hundreds", "(I)I"⟩, prog_14_method_94_code, 3, (some .int))
theorem hy_M_hundreds : y_M_hundreds.1.cls ≠ "java/lang/invoke/MethodHandle" ∧ y_M_hundreds.1.cls ≠ "java/lang/invoke/VarHandle" ∧ (parseMethodDescriptor y_M_hundreds.1.desc).map (fun d => d.parameters.length) = some 1 := by decide +kernel
theorem d_M_hundreds_0 : decode y_M_hundreds.2.1 0 = .ok (.iconst 1, 1) := by decide +kernel
theorem d_M_hundreds_1 : decode y_M_hundreds.2.1 1 = .ok (.istore_n 1, 1) := by decide +kernel
theorem d_M_hundreds_2 : decode y_M_hundreds.2.1 2 = .ok (.iconst 0, 1) := by decide +kernel
theorem d_M_hundreds_3 : decode y_M_hundreds.2.1 3 = .ok (.istore_n 2, 1) := by decide +kernel
theorem d_M_hundreds_4 : decode y_M_hundreds.2.1 4 = .ok (.iload_n 2, 1) := by decide +kernel
theorem d_M_hundreds_5 : decode y_M_hundreds.2.1 5 = .ok (.iload_n 0, 1) := by decide +kernel
theorem d_M_hundreds_6 : decode y_M_hundreds.2.1 6 = .ok (.if_icmp .ge 14, 3) := by decide +kernel
theorem d_M_hundreds_9 : decode y_M_hundreds.2.1 9 = .ok (.iload_n 1, 1) := by decide +kernel
theorem d_M_hundreds_10 : decode y_M_hundreds.2.1 10 = .ok (.bipush 100, 2) := by decide +kernel
theorem d_M_hundreds_12 : decode y_M_hundreds.2.1 12 = .ok (.imul, 1) := by decide +kernel
theorem d_M_hundreds_13 : decode y_M_hundreds.2.1 13 = .ok (.istore_n 1, 1) := by decide +kernel
theorem d_M_hundreds_14 : decode y_M_hundreds.2.1 14 = .ok (.iinc 2 1, 3) := by decide +kernel
theorem d_M_hundreds_17 : decode y_M_hundreds.2.1 17 = .ok (.goto (-13), 3) := by decide +kernel
theorem d_M_hundreds_20 : decode y_M_hundreds.2.1 20 = .ok (.iload_n 1, 1) := by decide +kernel
theorem d_M_hundreds_21 : decode y_M_hundreds.2.1 21 = .ok (.ireturn, 1) := by decide +kernel

abbrev y_M_canOdds : MI := (⟨"CricketHayModel", "canOdds", "(IIII)Z"⟩, prog_14_method_95_code, 5, (some .boolean))
theorem hy_M_canOdds : y_M_canOdds.1.cls ≠ "java/lang/invoke/MethodHandle" ∧ y_M_canOdds.1.cls ≠ "java/lang/invoke/VarHandle" ∧ (parseMethodDescriptor y_M_canOdds.1.desc).map (fun d => d.parameters.length) = some 4 := by decide +kernel
theorem d_M_canOdds_0 : decode y_M_canOdds.2.1 0 = .ok (.aload_n 0, 1) := by decide +kernel
theorem d_M_canOdds_1 : decode y_M_canOdds.2.1 1 = .ok (.iload_n 1, 1) := by decide +kernel
theorem d_M_canOdds_2 : decode y_M_canOdds.2.1 2 = .ok (.iload_n 2, 1) := by decide +kernel
theorem d_M_canOdds_3 : decode y_M_canOdds.2.1 3 = .ok (.invokevirtual 424, 3) := by decide +kernel
theorem d_M_canOdds_6 : decode y_M_canOdds.2.1 6 = .ok (.ifCond .eq 26, 3) := by decide +kernel
theorem d_M_canOdds_9 : decode y_M_canOdds.2.1 9 = .ok (.iload_n 3, 1) := by decide +kernel
theorem d_M_canOdds_10 : decode y_M_canOdds.2.1 10 = .ok (.iconst 0, 1) := by decide +kernel
theorem d_M_canOdds_11 : decode y_M_canOdds.2.1 11 = .ok (.iconst 4, 1) := by decide +kernel
theorem d_M_canOdds_12 : decode y_M_canOdds.2.1 12 = .ok (.invokestatic 381, 3) := by decide +kernel
theorem d_M_canOdds_15 : decode y_M_canOdds.2.1 15 = .ok (.ifCond .eq 17, 3) := by decide +kernel
theorem d_M_canOdds_18 : decode y_M_canOdds.2.1 18 = .ok (.iload 4, 2) := by decide +kernel
theorem d_M_canOdds_20 : decode y_M_canOdds.2.1 20 = .ok (.iconst 0, 1) := by decide +kernel
theorem d_M_canOdds_21 : decode y_M_canOdds.2.1 21 = .ok (.iconst 1, 1) := by decide +kernel
theorem d_M_canOdds_22 : decode y_M_canOdds.2.1 22 = .ok (.invokestatic 381, 3) := by decide +kernel
theorem d_M_canOdds_25 : decode y_M_canOdds.2.1 25 = .ok (.ifCond .eq 7, 3) := by decide +kernel
theorem d_M_canOdds_28 : decode y_M_canOdds.2.1 28 = .ok (.iconst 1, 1) := by decide +kernel
theorem d_M_canOdds_29 : decode y_M_canOdds.2.1 29 = .ok (.goto 4, 3) := by decide +kernel
theorem d_M_canOdds_32 : decode y_M_canOdds.2.1 32 = .ok (.iconst 0, 1) := by decide +kernel
theorem d_M_canOdds_33 : decode y_M_canOdds.2.1 33 = .ok (.ireturn, 1) := by decide +kernel

abbrev y_M_odds : MI := (⟨"CricketHayModel", "odds", "(IIIII)I"⟩, prog_14_method_96_code, 9, (some .int))
theorem hy_M_odds : y_M_odds.1.cls ≠ "java/lang/invoke/MethodHandle" ∧ y_M_odds.1.cls ≠ "java/lang/invoke/VarHandle" ∧ (parseMethodDescriptor y_M_odds.1.desc).map (fun d => d.parameters.length) = some 5 := by decide +kernel
theorem d_M_odds_0 : decode y_M_odds.2.1 0 = .ok (.aload_n 0, 1) := by decide +kernel
theorem d_M_odds_1 : decode y_M_odds.2.1 1 = .ok (.iload_n 1, 1) := by decide +kernel
theorem d_M_odds_2 : decode y_M_odds.2.1 2 = .ok (.iload_n 2, 1) := by decide +kernel
theorem d_M_odds_3 : decode y_M_odds.2.1 3 = .ok (.iload 4, 2) := by decide +kernel
theorem d_M_odds_5 : decode y_M_odds.2.1 5 = .ok (.iload 5, 2) := by decide +kernel
theorem d_M_odds_7 : decode y_M_odds.2.1 7 = .ok (.invokevirtual 483, 3) := by decide +kernel
theorem d_M_odds_10 : decode y_M_odds.2.1 10 = .ok (.ifCond .ne 5, 3) := by decide +kernel
theorem d_M_odds_13 : decode y_M_odds.2.1 13 = .ok (.iconst (-1), 1) := by decide +kernel
theorem d_M_odds_14 : decode y_M_odds.2.1 14 = .ok (.ireturn, 1) := by decide +kernel
theorem d_M_odds_15 : decode y_M_odds.2.1 15 = .ok (.iconst 0, 1) := by decide +kernel
theorem d_M_odds_16 : decode y_M_odds.2.1 16 = .ok (.istore 6, 2) := by decide +kernel
theorem d_M_odds_18 : decode y_M_odds.2.1 18 = .ok (.iconst 0, 1) := by decide +kernel
theorem d_M_odds_19 : decode y_M_odds.2.1 19 = .ok (.istore 7, 2) := by decide +kernel
theorem d_M_odds_21 : decode y_M_odds.2.1 21 = .ok (.iload 7, 2) := by decide +kernel
theorem d_M_odds_23 : decode y_M_odds.2.1 23 = .ok (.iconst 1, 1) := by decide +kernel
theorem d_M_odds_24 : decode y_M_odds.2.1 24 = .ok (.iload 4, 2) := by decide +kernel
theorem d_M_odds_26 : decode y_M_odds.2.1 26 = .ok (.ishl, 1) := by decide +kernel
theorem d_M_odds_27 : decode y_M_odds.2.1 27 = .ok (.if_icmp .ge 40, 3) := by decide +kernel
theorem d_M_odds_30 : decode y_M_odds.2.1 30 = .ok (.aload_n 0, 1) := by decide +kernel
theorem d_M_odds_31 : decode y_M_odds.2.1 31 = .ok (.iload 4, 2) := by decide +kernel
theorem d_M_odds_33 : decode y_M_odds.2.1 33 = .ok (.iload 7, 2) := by decide +kernel
theorem d_M_odds_35 : decode y_M_odds.2.1 35 = .ok (.invokevirtual 487, 3) := by decide +kernel
theorem d_M_odds_38 : decode y_M_odds.2.1 38 = .ok (.istore 8, 2) := by decide +kernel
theorem d_M_odds_40 : decode y_M_odds.2.1 40 = .ok (.iload 6, 2) := by decide +kernel
theorem d_M_odds_42 : decode y_M_odds.2.1 42 = .ok (.aload_n 0, 1) := by decide +kernel
theorem d_M_odds_43 : decode y_M_odds.2.1 43 = .ok (.iload_n 1, 1) := by decide +kernel
theorem d_M_odds_44 : decode y_M_odds.2.1 44 = .ok (.iload_n 2, 1) := by decide +kernel
theorem d_M_odds_45 : decode y_M_odds.2.1 45 = .ok (.invokevirtual 428, 3) := by decide +kernel
theorem d_M_odds_48 : decode y_M_odds.2.1 48 = .ok (.iload_n 3, 1) := by decide +kernel
theorem d_M_odds_49 : decode y_M_odds.2.1 49 = .ok (.if_icmp .lt 8, 3) := by decide +kernel
theorem d_M_odds_52 : decode y_M_odds.2.1 52 = .ok (.iload 8, 2) := by decide +kernel
theorem d_M_odds_54 : decode y_M_odds.2.1 54 = .ok (.goto 4, 3) := by decide +kernel
theorem d_M_odds_57 : decode y_M_odds.2.1 57 = .ok (.iconst 0, 1) := by decide +kernel
theorem d_M_odds_58 : decode y_M_odds.2.1 58 = .ok (.iadd, 1) := by decide +kernel
theorem d_M_odds_59 : decode y_M_odds.2.1 59 = .ok (.istore 6, 2) := by decide +kernel
theorem d_M_odds_61 : decode y_M_odds.2.1 61 = .ok (.iinc 7 1, 3) := by decide +kernel
theorem d_M_odds_64 : decode y_M_odds.2.1 64 = .ok (.goto (-43), 3) := by decide +kernel
theorem d_M_odds_67 : decode y_M_odds.2.1 67 = .ok (.iload 4, 2) := by decide +kernel
theorem d_M_odds_69 : decode y_M_odds.2.1 69 = .ok (.invokestatic 490, 3) := by decide +kernel
theorem d_M_odds_72 : decode y_M_odds.2.1 72 = .ok (.istore 7, 2) := by decide +kernel
theorem d_M_odds_74 : decode y_M_odds.2.1 74 = .ok (.iload 7, 2) := by decide +kernel
theorem d_M_odds_76 : decode y_M_odds.2.1 76 = .ok (.iload 6, 2) := by decide +kernel
theorem d_M_odds_78 : decode y_M_odds.2.1 78 = .ok (.invokestatic 493, 3) := by decide +kernel
theorem d_M_odds_81 : decode y_M_odds.2.1 81 = .ok (.istore 8, 2) := by decide +kernel
theorem d_M_odds_83 : decode y_M_odds.2.1 83 = .ok (.iload 5, 2) := by decide +kernel
theorem d_M_odds_85 : decode y_M_odds.2.1 85 = .ok (.ifCond .ne 11, 3) := by decide +kernel
theorem d_M_odds_88 : decode y_M_odds.2.1 88 = .ok (.iload 6, 2) := by decide +kernel
theorem d_M_odds_90 : decode y_M_odds.2.1 90 = .ok (.iload 8, 2) := by decide +kernel
theorem d_M_odds_92 : decode y_M_odds.2.1 92 = .ok (.idiv, 1) := by decide +kernel
theorem d_M_odds_93 : decode y_M_odds.2.1 93 = .ok (.goto 8, 3) := by decide +kernel
theorem d_M_odds_96 : decode y_M_odds.2.1 96 = .ok (.iload 7, 2) := by decide +kernel
theorem d_M_odds_98 : decode y_M_odds.2.1 98 = .ok (.iload 8, 2) := by decide +kernel
theorem d_M_odds_100 : decode y_M_odds.2.1 100 = .ok (.idiv, 1) := by decide +kernel
theorem d_M_odds_101 : decode y_M_odds.2.1 101 = .ok (.ireturn, 1) := by decide +kernel

abbrev y_M_mean : MI := (⟨"CricketHayModel", "mean", "(IIII)I"⟩, prog_14_method_97_code, 8, (some .int))
theorem hy_M_mean : y_M_mean.1.cls ≠ "java/lang/invoke/MethodHandle" ∧ y_M_mean.1.cls ≠ "java/lang/invoke/VarHandle" ∧ (parseMethodDescriptor y_M_mean.1.desc).map (fun d => d.parameters.length) = some 4 := by decide +kernel
theorem d_M_mean_0 : decode y_M_mean.2.1 0 = .ok (.iload_n 3, 1) := by decide +kernel
theorem d_M_mean_1 : decode y_M_mean.2.1 1 = .ok (.iconst 3, 1) := by decide +kernel
theorem d_M_mean_2 : decode y_M_mean.2.1 2 = .ok (.if_icmp .gt 15, 3) := by decide +kernel
theorem d_M_mean_5 : decode y_M_mean.2.1 5 = .ok (.aload_n 0, 1) := by decide +kernel
theorem d_M_mean_6 : decode y_M_mean.2.1 6 = .ok (.iload_n 1, 1) := by decide +kernel
theorem d_M_mean_7 : decode y_M_mean.2.1 7 = .ok (.iload_n 2, 1) := by decide +kernel
theorem d_M_mean_8 : decode y_M_mean.2.1 8 = .ok (.iload_n 3, 1) := by decide +kernel
theorem d_M_mean_9 : decode y_M_mean.2.1 9 = .ok (.iload 4, 2) := by decide +kernel
theorem d_M_mean_11 : decode y_M_mean.2.1 11 = .ok (.invokevirtual 483, 3) := by decide +kernel
theorem d_M_mean_14 : decode y_M_mean.2.1 14 = .ok (.ifCond .ne 5, 3) := by decide +kernel
theorem d_M_mean_17 : decode y_M_mean.2.1 17 = .ok (.iconst (-1), 1) := by decide +kernel
theorem d_M_mean_18 : decode y_M_mean.2.1 18 = .ok (.ireturn, 1) := by decide +kernel
theorem d_M_mean_19 : decode y_M_mean.2.1 19 = .ok (.iconst 0, 1) := by decide +kernel
theorem d_M_mean_20 : decode y_M_mean.2.1 20 = .ok (.istore 5, 2) := by decide +kernel
theorem d_M_mean_22 : decode y_M_mean.2.1 22 = .ok (.iconst 0, 1) := by decide +kernel
theorem d_M_mean_23 : decode y_M_mean.2.1 23 = .ok (.istore 6, 2) := by decide +kernel
theorem d_M_mean_25 : decode y_M_mean.2.1 25 = .ok (.iload 6, 2) := by decide +kernel
theorem d_M_mean_27 : decode y_M_mean.2.1 27 = .ok (.iconst 1, 1) := by decide +kernel
theorem d_M_mean_28 : decode y_M_mean.2.1 28 = .ok (.iload_n 3, 1) := by decide +kernel
theorem d_M_mean_29 : decode y_M_mean.2.1 29 = .ok (.ishl, 1) := by decide +kernel
theorem d_M_mean_30 : decode y_M_mean.2.1 30 = .ok (.if_icmp .ge 32, 3) := by decide +kernel
theorem d_M_mean_33 : decode y_M_mean.2.1 33 = .ok (.aload_n 0, 1) := by decide +kernel
theorem d_M_mean_34 : decode y_M_mean.2.1 34 = .ok (.iload_n 3, 1) := by decide +kernel
theorem d_M_mean_35 : decode y_M_mean.2.1 35 = .ok (.iload 6, 2) := by decide +kernel
theorem d_M_mean_37 : decode y_M_mean.2.1 37 = .ok (.invokevirtual 487, 3) := by decide +kernel
theorem d_M_mean_40 : decode y_M_mean.2.1 40 = .ok (.istore 7, 2) := by decide +kernel
theorem d_M_mean_42 : decode y_M_mean.2.1 42 = .ok (.iload 5, 2) := by decide +kernel
theorem d_M_mean_44 : decode y_M_mean.2.1 44 = .ok (.iload 7, 2) := by decide +kernel
theorem d_M_mean_46 : decode y_M_mean.2.1 46 = .ok (.aload_n 0, 1) := by decide +kernel
theorem d_M_mean_47 : decode y_M_mean.2.1 47 = .ok (.iload_n 1, 1) := by decide +kernel
theorem d_M_mean_48 : decode y_M_mean.2.1 48 = .ok (.iload_n 2, 1) := by decide +kernel
theorem d_M_mean_49 : decode y_M_mean.2.1 49 = .ok (.invokevirtual 428, 3) := by decide +kernel
theorem d_M_mean_52 : decode y_M_mean.2.1 52 = .ok (.imul, 1) := by decide +kernel
theorem d_M_mean_53 : decode y_M_mean.2.1 53 = .ok (.iadd, 1) := by decide +kernel
theorem d_M_mean_54 : decode y_M_mean.2.1 54 = .ok (.istore 5, 2) := by decide +kernel
theorem d_M_mean_56 : decode y_M_mean.2.1 56 = .ok (.iinc 6 1, 3) := by decide +kernel
theorem d_M_mean_59 : decode y_M_mean.2.1 59 = .ok (.goto (-34), 3) := by decide +kernel
theorem d_M_mean_62 : decode y_M_mean.2.1 62 = .ok (.iload_n 3, 1) := by decide +kernel
theorem d_M_mean_63 : decode y_M_mean.2.1 63 = .ok (.invokestatic 490, 3) := by decide +kernel
theorem d_M_mean_66 : decode y_M_mean.2.1 66 = .ok (.istore 6, 2) := by decide +kernel
theorem d_M_mean_68 : decode y_M_mean.2.1 68 = .ok (.iload 6, 2) := by decide +kernel
theorem d_M_mean_70 : decode y_M_mean.2.1 70 = .ok (.iload 5, 2) := by decide +kernel
theorem d_M_mean_72 : decode y_M_mean.2.1 72 = .ok (.invokestatic 493, 3) := by decide +kernel
theorem d_M_mean_75 : decode y_M_mean.2.1 75 = .ok (.istore 7, 2) := by decide +kernel
theorem d_M_mean_77 : decode y_M_mean.2.1 77 = .ok (.iload 4, 2) := by decide +kernel
theorem d_M_mean_79 : decode y_M_mean.2.1 79 = .ok (.ifCond .ne 11, 3) := by decide +kernel
theorem d_M_mean_82 : decode y_M_mean.2.1 82 = .ok (.iload 5, 2) := by decide +kernel
theorem d_M_mean_84 : decode y_M_mean.2.1 84 = .ok (.iload 7, 2) := by decide +kernel
theorem d_M_mean_86 : decode y_M_mean.2.1 86 = .ok (.idiv, 1) := by decide +kernel
theorem d_M_mean_87 : decode y_M_mean.2.1 87 = .ok (.goto 8, 3) := by decide +kernel
theorem d_M_mean_90 : decode y_M_mean.2.1 90 = .ok (.iload 6, 2) := by decide +kernel
theorem d_M_mean_92 : decode y_M_mean.2.1 92 = .ok (.iload 7, 2) := by decide +kernel
theorem d_M_mean_94 : decode y_M_mean.2.1 94 = .ok (.idiv, 1) := by decide +kernel
theorem d_M_mean_95 : decode y_M_mean.2.1 95 = .ok (.ireturn, 1) := by decide +kernel
def f_M_isThere  (a1 : Int32) (h : AH) : Option (Int32 × AH) :=
  bI (f_M_isDealer a1 h) fun rq1 hq2 =>
  if rq1 = 0 then
    some ((0 : Int32), hq2)
  else
    if ¬ (((hI hq2 405 30) >>> (a1 &&& 31)) &&& (1 : Int32)) = 0 then
      some ((0 : Int32), hq2)
    else
      some ((1 : Int32), hq2)
set_option maxHeartbeats 2000000 in
theorem ok_M_isThere {G : AE} {n : Nat} (hn : NN ≤ n)  (a1 : Int32) (h : AH) : OK G n y_M_isThere (3) φI [.ref 383, .int a1] h (f_M_isThere a1 h) := by
  refine ok_of (y := y_M_isThere) (lv0 := [some (.ref 383), some (.int a1)]) (by decide +kernel) (Nat.le_of_ble_eq_true rfl) ⟨rfl, ⟨rfl, trivial⟩⟩ ?_
  rw [f_M_isThere]
  refine r_aload_n (pc := 0) (i := 0) d_M_isThere_0 rfl rfl ?_
  refine r_iload_n (pc := 1) (i := 1) d_M_isThere_1 rfl rfl ?_
  refine r_cVi (pc := 2) (T := F_12) (N := 73) (st := []) (ok_M_isDealer hn a1 h) (fun s => Std.k s (lc hn rfl) kq_383) rfl w_1476 w_13 w_1473 w_1475 ws_75 hy_M_isDealer ⟨Nat.le_of_ble_eq_true rfl, Nat.le_of_ble_eq_true rfl⟩ ⟨Nat.le_of_ble_eq_true rfl, Nat.le_of_ble_eq_true rfl⟩ rfl (Nat.le_of_ble_eq_true rfl) d_M_isThere_2 (fun rq1 hq2 => ?_)
  refine r_if_eq (pc := 5) (tgt := 26) d_M_isThere_5 (by rfl) ?_ ?_
  · refine r_iconst (pc := 26) (v := 0) d_M_isThere_26 (by rfl) ?_
    exact r_zret (pc := 27) rfl rfl d_M_isThere_27
  · refine r_aload_n (pc := 8) (i := 0) d_M_isThere_8 rfl rfl ?_
    refine r_getf (pc := 9) (ci := 12) (k := 50) (C := "CricketHayModel") (T := F_12) (N := 73) (v := .ref 405) (fun s => Std.k s (lc hn rfl) kq_383) rfl (Nat.le_of_ble_eq_true rfl) rfl w_1136 (fun s => vr rfl (Std.r s (lc hn rfl) rq_383_50)) d_M_isThere_9 ?_
    refine r_bipush (pc := 12) (v := 30) d_M_isThere_12 (by rfl) ?_
    refine r_iald (pc := 14) (n := 35) (i0 := 30) (fun s => Std.k s (lc hn rfl) kq_405) (vin (k := 30) rfl rfl) rfl d_M_isThere_14 ?_
    refine r_iload_n (pc := 15) (i := 1) d_M_isThere_15 rfl rfl ?_
    refine r_ishr (pc := 16) d_M_isThere_16 ?_
    refine r_iconst (pc := 17) (v := 1) d_M_isThere_17 (by rfl) ?_
    refine r_iand (pc := 18) d_M_isThere_18 ?_
    refine r_if_ne (pc := 19) (tgt := 26) d_M_isThere_19 (by rfl) ?_ ?_
    · refine r_iconst (pc := 26) (v := 0) d_M_isThere_26 (by rfl) ?_
      exact r_zret (pc := 27) rfl rfl d_M_isThere_27
    · refine r_iconst (pc := 22) (v := 1) d_M_isThere_22 (by rfl) ?_
      refine r_goto (pc := 23) (tgt := 27) d_M_isThere_23 (by rfl) ?_
      exact r_zret (pc := 27) rfl rfl d_M_isThere_27

def f_M_breathe  (a1 : Int32) (a2 : Int32) (h : AH) : Option (Int32 × AH) :=
  bI (f_M_isThere a1 h) fun rq1 hq2 =>
  if rq1 = 0 then
    some ((-100 : Int32), hq2)
  else
    bI (f_M_isIn a2 (-5 : Int32) (5 : Int32) hq2) fun rq3 hq4 =>
    if rq3 = 0 then
      some ((-100 : Int32), hq4)
    else
      gx ((24 : Int32) + a1) 35 <|
      if ¬ (hI hq4 405 (ix ((24 : Int32) + a1))) = a2 then
        bV (f_M_act hq4) fun hq6 =>
        gx ((24 : Int32) + a1) 35 <|
        lt (hI hq6 405 (ix ((24 : Int32) + a1))) fun xq8 =>
        gx ((24 : Int32) + a1) 35 <|
        lt (sI hq6 405 (ix ((24 : Int32) + a1)) a2) fun hq10 =>
        some (xq8, hq10)
      else
        some ((-100 : Int32), hq4)
set_option maxHeartbeats 2000000 in
theorem ok_M_breathe {G : AE} {n : Nat} (hn : NN ≤ n)  (a1 : Int32) (a2 : Int32) (h : AH) : OK G n y_M_breathe (4) φI [.ref 383, .int a1, .int a2] h (f_M_breathe a1 a2 h) := by
  refine ok_of (y := y_M_breathe) (lv0 := [some (.ref 383), some (.int a1), some (.int a2), none]) (by decide +kernel) (Nat.le_of_ble_eq_true rfl) ⟨rfl, ⟨rfl, ⟨rfl, trivial⟩⟩⟩ ?_
  rw [f_M_breathe]
  refine r_aload_n (pc := 0) (i := 0) d_M_breathe_0 rfl rfl ?_
  refine r_iload_n (pc := 1) (i := 1) d_M_breathe_1 rfl rfl ?_
  refine r_cVi (pc := 2) (T := F_12) (N := 73) (st := []) (ok_M_isThere hn a1 h) (fun s => Std.k s (lc hn rfl) kq_383) rfl w_1568 w_13 w_1565 w_1567 ws_88 hy_M_isThere ⟨Nat.le_of_ble_eq_true rfl, Nat.le_of_ble_eq_true rfl⟩ ⟨Nat.le_of_ble_eq_true rfl, Nat.le_of_ble_eq_true rfl⟩ rfl (Nat.le_of_ble_eq_true rfl) d_M_breathe_2 (fun rq1 hq2 => ?_)
  refine r_if_eq (pc := 5) (tgt := 31) d_M_breathe_5 (by rfl) ?_ ?_
  · refine r_bipush (pc := 31) (v := -100) d_M_breathe_31 (by rfl) ?_
    exact r_iret (pc := 33) rfl d_M_breathe_33
  · refine r_iload_n (pc := 8) (i := 2) d_M_breathe_8 rfl rfl ?_
    refine r_bipush (pc := 9) (v := -5) d_M_breathe_9 (by rfl) ?_
    refine r_iconst (pc := 11) (v := 5) d_M_breathe_11 (by rfl) ?_
    refine r_cSi (pc := 12) (st := []) (ok_M_isIn hn a2 (-5 : Int32) (5 : Int32) hq2) w_1479 w_13 w_1477 w_1478 hy_M_isIn ⟨Nat.le_of_ble_eq_true rfl, Nat.le_of_ble_eq_true rfl⟩ ⟨Nat.le_of_ble_eq_true rfl, Nat.le_of_ble_eq_true rfl⟩ rfl (Nat.le_of_ble_eq_true rfl) d_M_breathe_12 (fun rq3 hq4 => ?_)
    refine r_if_eq (pc := 15) (tgt := 31) d_M_breathe_15 (by rfl) ?_ ?_
    · refine r_bipush (pc := 31) (v := -100) d_M_breathe_31 (by rfl) ?_
      exact r_iret (pc := 33) rfl d_M_breathe_33
    · refine r_aload_n (pc := 18) (i := 0) d_M_breathe_18 rfl rfl ?_
      refine r_getf (pc := 19) (ci := 12) (k := 50) (C := "CricketHayModel") (T := F_12) (N := 73) (v := .ref 405) (fun s => Std.k s (lc hn rfl) kq_383) rfl (Nat.le_of_ble_eq_true rfl) rfl w_1136 (fun s => vr rfl (Std.r s (lc hn rfl) rq_383_50)) d_M_breathe_19 ?_
      refine r_bipush (pc := 22) (v := 24) d_M_breathe_22 (by rfl) ?_
      refine r_iload_n (pc := 24) (i := 1) d_M_breathe_24 rfl rfl ?_
      refine r_iadd (pc := 25) d_M_breathe_25 ?_
      refine r_gx (fun zq5 => ?_)
      refine r_iald (pc := 26) (n := 35) (i0 := (ix ((24 : Int32) + a1))) (fun s => Std.k s (lc hn rfl) kq_405) zq5 rfl d_M_breathe_26 ?_
      refine r_iload_n (pc := 27) (i := 2) d_M_breathe_27 rfl rfl ?_
      refine r_icmp_ne (pc := 28) (tgt := 34) d_M_breathe_28 (by rfl) ?_ ?_
      · refine r_aload_n (pc := 34) (i := 0) d_M_breathe_34 rfl rfl ?_
        refine r_cVv (pc := 35) (T := F_12) (N := 73) (st := []) (ok_M_act hn hq4) (fun s => Std.k s (lc hn rfl) kq_383) rfl w_1560 w_13 w_1557 w_1559 ws_87 hy_M_act ⟨Nat.le_of_ble_eq_true rfl, Nat.le_of_ble_eq_true rfl⟩ ⟨Nat.le_of_ble_eq_true rfl, Nat.le_of_ble_eq_true rfl⟩ rfl (Nat.le_of_ble_eq_true rfl) d_M_breathe_35 (fun hq6 => ?_)
        refine r_aload_n (pc := 38) (i := 0) d_M_breathe_38 rfl rfl ?_
        refine r_getf (pc := 39) (ci := 12) (k := 50) (C := "CricketHayModel") (T := F_12) (N := 73) (v := .ref 405) (fun s => Std.k s (lc hn rfl) kq_383) rfl (Nat.le_of_ble_eq_true rfl) rfl w_1136 (fun s => vr rfl (Std.r s (lc hn rfl) rq_383_50)) d_M_breathe_39 ?_
        refine r_bipush (pc := 42) (v := 24) d_M_breathe_42 (by rfl) ?_
        refine r_iload_n (pc := 44) (i := 1) d_M_breathe_44 rfl rfl ?_
        refine r_iadd (pc := 45) d_M_breathe_45 ?_
        refine r_gx (fun zq7 => ?_)
        refine r_iald (pc := 46) (n := 35) (i0 := (ix ((24 : Int32) + a1))) (fun s => Std.k s (lc hn rfl) kq_405) zq7 rfl d_M_breathe_46 ?_
        refine r_ltI (fun xq8 => ?_)
        refine r_istore_n (pc := 47) (i := 3) (lv1 := [some (.ref 383), some (.int a1), some (.int a2), some (.int xq8)]) d_M_breathe_47 rfl (Nat.le_of_ble_eq_true rfl) rfl ?_
        refine r_aload_n (pc := 48) (i := 0) d_M_breathe_48 rfl rfl ?_
        refine r_getf (pc := 49) (ci := 12) (k := 50) (C := "CricketHayModel") (T := F_12) (N := 73) (v := .ref 405) (fun s => Std.k s (lc hn rfl) kq_383) rfl (Nat.le_of_ble_eq_true rfl) rfl w_1136 (fun s => vr rfl (Std.r s (lc hn rfl) rq_383_50)) d_M_breathe_49 ?_
        refine r_bipush (pc := 52) (v := 24) d_M_breathe_52 (by rfl) ?_
        refine r_iload_n (pc := 54) (i := 1) d_M_breathe_54 rfl rfl ?_
        refine r_iadd (pc := 55) d_M_breathe_55 ?_
        refine r_iload_n (pc := 56) (i := 2) d_M_breathe_56 rfl rfl ?_
        refine r_gx (fun zq9 => ?_)
        refine r_iast (pc := 57) (n := 35) (i0 := (ix ((24 : Int32) + a1))) (fun s => Std.k s (lc hn rfl) kq_405) zq9 rfl (fun s => Std.sI s _ _ _) d_M_breathe_57 ?_
        refine r_ltH (fun hq10 => ?_)
        refine r_iload_n (pc := 58) (i := 3) d_M_breathe_58 rfl rfl ?_
        exact r_iret (pc := 59) rfl d_M_breathe_59
      · refine r_bipush (pc := 31) (v := -100) d_M_breathe_31 (by rfl) ?_
        exact r_iret (pc := 33) rfl d_M_breathe_33

def f_M_free  (a1 : Int32) (h : AH) : Option (Int32 × AH) :=
  bI (f_M_isThere a1 h) fun rq1 hq2 =>
  if ¬ rq1 = 0 then
    bV (f_M_load hq2) fun hq3 =>
    bI (f_M_chirpsOf a1 hq3) fun rq4 hq5 =>
    bV (f_M_act hq5) fun hq6 =>
    lt (sI hq6 405 30 ((hI hq6 405 30) ||| ((1 : Int32) <<< (a1 &&& 31)))) fun hq7 =>
    some (rq4, hq7)
  else
    some ((-1 : Int32), hq2)
set_option maxHeartbeats 2000000 in
theorem ok_M_free {G : AE} {n : Nat} (hn : NN ≤ n)  (a1 : Int32) (h : AH) : OK G n y_M_free (6) φI [.ref 383, .int a1] h (f_M_free a1 h) := by
  refine ok_of (y := y_M_free) (lv0 := [some (.ref 383), some (.int a1), none]) (by decide +kernel) (Nat.le_of_ble_eq_true rfl) ⟨rfl, ⟨rfl, trivial⟩⟩ ?_
  rw [f_M_free]
  refine r_aload_n (pc := 0) (i := 0) d_M_free_0 rfl rfl ?_
  refine r_iload_n (pc := 1) (i := 1) d_M_free_1 rfl rfl ?_
  refine r_cVi (pc := 2) (T := F_12) (N := 73) (st := []) (ok_M_isThere hn a1 h) (fun s => Std.k s (lc hn rfl) kq_383) rfl w_1568 w_13 w_1565 w_1567 ws_88 hy_M_isThere ⟨Nat.le_of_ble_eq_true rfl, Nat.le_of_ble_eq_true rfl⟩ ⟨Nat.le_of_ble_eq_true rfl, Nat.le_of_ble_eq_true rfl⟩ rfl (Nat.le_of_ble_eq_true rfl) d_M_free_2 (fun rq1 hq2 => ?_)
  refine r_if_ne (pc := 5) (tgt := 10) d_M_free_5 (by rfl) ?_ ?_
  · refine r_aload_n (pc := 10) (i := 0) d_M_free_10 rfl rfl ?_
    refine r_cVv (pc := 11) (T := F_12) (N := 73) (st := []) (ok_M_load hn hq2) (fun s => Std.k s (lc hn rfl) kq_383) rfl w_1483 w_13 w_1480 w_1482 ws_76 hy_M_load ⟨Nat.le_of_ble_eq_true rfl, Nat.le_of_ble_eq_true rfl⟩ ⟨Nat.le_of_ble_eq_true rfl, Nat.le_of_ble_eq_true rfl⟩ rfl (Nat.le_of_ble_eq_true rfl) d_M_free_11 (fun hq3 => ?_)
    refine r_aload_n (pc := 14) (i := 0) d_M_free_14 rfl rfl ?_
    refine r_iload_n (pc := 15) (i := 1) d_M_free_15 rfl rfl ?_
    refine r_cVi (pc := 16) (T := F_12) (N := 73) (st := []) (ok_M_chirpsOf hn a1 hq3) (fun s => Std.k s (lc hn rfl) kq_383) rfl w_1494 w_13 w_1491 w_1493 ws_78 hy_M_chirpsOf ⟨Nat.le_of_ble_eq_true rfl, Nat.le_of_ble_eq_true rfl⟩ ⟨Nat.le_of_ble_eq_true rfl, Nat.le_of_ble_eq_true rfl⟩ rfl (Nat.le_of_ble_eq_true rfl) d_M_free_16 (fun rq4 hq5 => ?_)
    refine r_istore_n (pc := 19) (i := 2) (lv1 := [some (.ref 383), some (.int a1), some (.int rq4)]) d_M_free_19 rfl (Nat.le_of_ble_eq_true rfl) rfl ?_
    refine r_aload_n (pc := 20) (i := 0) d_M_free_20 rfl rfl ?_
    refine r_cVv (pc := 21) (T := F_12) (N := 73) (st := []) (ok_M_act hn hq5) (fun s => Std.k s (lc hn rfl) kq_383) rfl w_1560 w_13 w_1557 w_1559 ws_87 hy_M_act ⟨Nat.le_of_ble_eq_true rfl, Nat.le_of_ble_eq_true rfl⟩ ⟨Nat.le_of_ble_eq_true rfl, Nat.le_of_ble_eq_true rfl⟩ rfl (Nat.le_of_ble_eq_true rfl) d_M_free_21 (fun hq6 => ?_)
    refine r_aload_n (pc := 24) (i := 0) d_M_free_24 rfl rfl ?_
    refine r_getf (pc := 25) (ci := 12) (k := 50) (C := "CricketHayModel") (T := F_12) (N := 73) (v := .ref 405) (fun s => Std.k s (lc hn rfl) kq_383) rfl (Nat.le_of_ble_eq_true rfl) rfl w_1136 (fun s => vr rfl (Std.r s (lc hn rfl) rq_383_50)) d_M_free_25 ?_
    refine r_bipush (pc := 28) (v := 30) d_M_free_28 (by rfl) ?_
    refine r_dup2 (pc := 30) d_M_free_30 rfl rfl ?_
    refine r_iald (pc := 31) (n := 35) (i0 := 30) (fun s => Std.k s (lc hn rfl) kq_405) (vin (k := 30) rfl rfl) rfl d_M_free_31 ?_
    refine r_iconst (pc := 32) (v := 1) d_M_free_32 (by rfl) ?_
    refine r_iload_n (pc := 33) (i := 1) d_M_free_33 rfl rfl ?_
    refine r_ishl (pc := 34) d_M_free_34 ?_
    refine r_ior (pc := 35) d_M_free_35 ?_
    refine r_iast (pc := 36) (n := 35) (i0 := 30) (fun s => Std.k s (lc hn rfl) kq_405) (vin (k := 30) rfl rfl) rfl (fun s => Std.sI s _ _ _) d_M_free_36 ?_
    refine r_ltH (fun hq7 => ?_)
    refine r_iload_n (pc := 37) (i := 2) d_M_free_37 rfl rfl ?_
    exact r_iret (pc := 38) rfl d_M_free_38
  · refine r_iconst (pc := 8) (v := -1) d_M_free_8 (by rfl) ?_
    exact r_iret (pc := 9) rfl d_M_free_9

def f_M_hour_l41    : Nat → Int32 → AH → Option (Int32 × AH)
  | 0, _, _ => none
  | n + 1, x1, h =>
    if (35 : Int32) ≤ x1 then
      bI (f_M_heatHere h) fun rq1 hq2 =>
      some (rq1, hq2)
    else
      gx x1 35 <|
      gx x1 35 <|
      lt (sI h 405 (ix x1) (hI h 406 (ix x1))) fun hq5 =>
      lt (x1 + (1 : Int32)) fun xq6 =>
      f_M_hour_l41 n xq6 hq5
set_option maxHeartbeats 2000000 in
theorem o_M_hour_l41 {G : AE} {n : Nat} (hn : NN ≤ n)     : ∀ (n0 : Nat) (x1 : Int32) (h : AH), AJ G n y_M_hour (5) φI 41 [some (.ref 383), some (.int x1)] [] h (f_M_hour_l41 n0 x1 h) := by
  intro n0
  induction n0 with
  | zero => intros; exact r_none
  | succ n0 ih =>
    intro x1 h
    rw [f_M_hour_l41]
    refine r_iload_n (pc := 41) (i := 1) d_M_hour_41 rfl rfl ?_
    refine r_bipush (pc := 42) (v := 35) d_M_hour_42 (by rfl) ?_
    refine r_icmp_ge (pc := 44) (tgt := 65) d_M_hour_44 (by rfl) ?_ ?_
    · refine r_aload_n (pc := 65) (i := 0) d_M_hour_65 rfl rfl ?_
      refine r_cVi (pc := 66) (T := F_12) (N := 73) (st := []) (ok_M_heatHere hn h) (fun s => Std.k s (lc hn rfl) kq_383) rfl w_1498 w_13 w_1495 w_1497 ws_79 hy_M_heatHere ⟨Nat.le_of_ble_eq_true rfl, Nat.le_of_ble_eq_true rfl⟩ ⟨Nat.le_of_ble_eq_true rfl, Nat.le_of_ble_eq_true rfl⟩ rfl (Nat.le_of_ble_eq_true rfl) d_M_hour_66 (fun rq1 hq2 => ?_)
      exact r_iret (pc := 69) rfl d_M_hour_69
    · refine r_aload_n (pc := 47) (i := 0) d_M_hour_47 rfl rfl ?_
      refine r_getf (pc := 48) (ci := 12) (k := 50) (C := "CricketHayModel") (T := F_12) (N := 73) (v := .ref 405) (fun s => Std.k s (lc hn rfl) kq_383) rfl (Nat.le_of_ble_eq_true rfl) rfl w_1136 (fun s => vr rfl (Std.r s (lc hn rfl) rq_383_50)) d_M_hour_48 ?_
      refine r_iload_n (pc := 51) (i := 1) d_M_hour_51 rfl rfl ?_
      refine r_aload_n (pc := 52) (i := 0) d_M_hour_52 rfl rfl ?_
      refine r_getf (pc := 53) (ci := 12) (k := 51) (C := "CricketHayModel") (T := F_12) (N := 73) (v := .ref 406) (fun s => Std.k s (lc hn rfl) kq_383) rfl (Nat.le_of_ble_eq_true rfl) rfl w_1137 (fun s => vr rfl (Std.r s (lc hn rfl) rq_383_51)) d_M_hour_53 ?_
      refine r_iload_n (pc := 56) (i := 1) d_M_hour_56 rfl rfl ?_
      refine r_gx (fun zq3 => ?_)
      refine r_iald (pc := 57) (n := 35) (i0 := (ix x1)) (fun s => Std.k s (lc hn rfl) kq_406) zq3 rfl d_M_hour_57 ?_
      refine r_gx (fun zq4 => ?_)
      refine r_iast (pc := 58) (n := 35) (i0 := (ix x1)) (fun s => Std.k s (lc hn rfl) kq_405) zq4 rfl (fun s => Std.sI s _ _ _) d_M_hour_58 ?_
      refine r_ltH (fun hq5 => ?_)
      refine r_ltE (fun xq6 exq6 => ?_)
      refine r_iinc (pc := 59) (v := xq6) (lv1 := [some (.ref 383), some (.int xq6)]) d_M_hour_59 rfl exq6.symm (Nat.le_of_ble_eq_true rfl) rfl ?_
      refine r_goto (pc := 62) (tgt := 41) d_M_hour_62 (by rfl) ?_
      exact r_wk (ih xq6 hq5) ⟨rfl, ⟨rfl, trivial⟩⟩
def f_M_hour_b27     (h : AH) : Option (Int32 × AH) :=
  bV (f_M_act h) fun hq1 =>
  bV (f_M_load hq1) fun hq2 =>
  bV (f_M_goHour hq2) fun hq3 =>
  f_M_hour_l41 FU (0 : Int32) hq3
set_option maxHeartbeats 2000000 in
theorem o_M_hour_b27 {G : AE} {n : Nat} (hn : NN ≤ n)     : ∀  (h : AH), AJ G n y_M_hour (5) φI 27 [some (.ref 383), none] [] h (f_M_hour_b27 h) := by
  intro  h
  rw [f_M_hour_b27]
  refine r_aload_n (pc := 27) (i := 0) d_M_hour_27 rfl rfl ?_
  refine r_cVv (pc := 28) (T := F_12) (N := 73) (st := []) (ok_M_act hn h) (fun s => Std.k s (lc hn rfl) kq_383) rfl w_1560 w_13 w_1557 w_1559 ws_87 hy_M_act ⟨Nat.le_of_ble_eq_true rfl, Nat.le_of_ble_eq_true rfl⟩ ⟨Nat.le_of_ble_eq_true rfl, Nat.le_of_ble_eq_true rfl⟩ rfl (Nat.le_of_ble_eq_true rfl) d_M_hour_28 (fun hq1 => ?_)
  refine r_aload_n (pc := 31) (i := 0) d_M_hour_31 rfl rfl ?_
  refine r_cVv (pc := 32) (T := F_12) (N := 73) (st := []) (ok_M_load hn hq1) (fun s => Std.k s (lc hn rfl) kq_383) rfl w_1483 w_13 w_1480 w_1482 ws_76 hy_M_load ⟨Nat.le_of_ble_eq_true rfl, Nat.le_of_ble_eq_true rfl⟩ ⟨Nat.le_of_ble_eq_true rfl, Nat.le_of_ble_eq_true rfl⟩ rfl (Nat.le_of_ble_eq_true rfl) d_M_hour_32 (fun hq2 => ?_)
  refine r_aload_n (pc := 35) (i := 0) d_M_hour_35 rfl rfl ?_
  refine r_cVv (pc := 36) (T := F_12) (N := 73) (st := []) (ok_M_goHour hn hq2) (fun s => Std.k s (lc hn rfl) kq_383) rfl w_1580 w_13 w_1577 w_1579 ws_89 hy_M_goHour ⟨Nat.le_of_ble_eq_true rfl, Nat.le_of_ble_eq_true rfl⟩ ⟨Nat.le_of_ble_eq_true rfl, Nat.le_of_ble_eq_true rfl⟩ rfl (Nat.le_of_ble_eq_true rfl) d_M_hour_36 (fun hq3 => ?_)
  refine r_iconst (pc := 39) (v := 0) d_M_hour_39 (by rfl) ?_
  refine r_istore_n (pc := 40) (i := 1) (lv1 := [some (.ref 383), some (.int (0 : Int32))]) d_M_hour_40 rfl (Nat.le_of_ble_eq_true rfl) rfl ?_
  exact r_wk (o_M_hour_l41 hn FU (0 : Int32) hq3) ⟨rfl, ⟨rfl, trivial⟩⟩
def f_M_hour   (h : AH) : Option (Int32 × AH) :=
  if ¬ (hI h 405 32) = (23 : Int32) then
    f_M_hour_b27 h
  else
    if ¬ (hI h 405 33) = (999 : Int32) then
      f_M_hour_b27 h
    else
      some ((-1 : Int32), h)
set_option maxHeartbeats 2000000 in
theorem ok_M_hour {G : AE} {n : Nat} (hn : NN ≤ n)   (h : AH) : OK G n y_M_hour (5) φI [.ref 383] h (f_M_hour h) := by
  refine ok_of (y := y_M_hour) (lv0 := [some (.ref 383), none]) (by decide +kernel) (Nat.le_of_ble_eq_true rfl) ⟨rfl, trivial⟩ ?_
  rw [f_M_hour]
  refine r_aload_n (pc := 0) (i := 0) d_M_hour_0 rfl rfl ?_
  refine r_getf (pc := 1) (ci := 12) (k := 50) (C := "CricketHayModel") (T := F_12) (N := 73) (v := .ref 405) (fun s => Std.k s (lc hn rfl) kq_383) rfl (Nat.le_of_ble_eq_true rfl) rfl w_1136 (fun s => vr rfl (Std.r s (lc hn rfl) rq_383_50)) d_M_hour_1 ?_
  refine r_bipush (pc := 4) (v := 32) d_M_hour_4 (by rfl) ?_
  refine r_iald (pc := 6) (n := 35) (i0 := 32) (fun s => Std.k s (lc hn rfl) kq_405) (vin (k := 32) rfl rfl) rfl d_M_hour_6 ?_
  refine r_bipush (pc := 7) (v := 23) d_M_hour_7 (by rfl) ?_
  refine r_icmp_ne (pc := 9) (tgt := 27) d_M_hour_9 (by rfl) ?_ ?_
  · exact r_wk (o_M_hour_b27 hn h) ⟨rfl, trivial⟩
  · refine r_aload_n (pc := 12) (i := 0) d_M_hour_12 rfl rfl ?_
    refine r_getf (pc := 13) (ci := 12) (k := 50) (C := "CricketHayModel") (T := F_12) (N := 73) (v := .ref 405) (fun s => Std.k s (lc hn rfl) kq_383) rfl (Nat.le_of_ble_eq_true rfl) rfl w_1136 (fun s => vr rfl (Std.r s (lc hn rfl) rq_383_50)) d_M_hour_13 ?_
    refine r_bipush (pc := 16) (v := 33) d_M_hour_16 (by rfl) ?_
    refine r_iald (pc := 18) (n := 35) (i0 := 33) (fun s => Std.k s (lc hn rfl) kq_405) (vin (k := 33) rfl rfl) rfl d_M_hour_18 ?_
    refine r_sipush (pc := 19) (v := 999) d_M_hour_19 (by rfl) ?_
    refine r_icmp_ne (pc := 22) (tgt := 27) d_M_hour_22 (by rfl) ?_ ?_
    · exact r_wk (o_M_hour_b27 hn h) ⟨rfl, trivial⟩
    · refine r_iconst (pc := 25) (v := -1) d_M_hour_25 (by rfl) ?_
      exact r_iret (pc := 26) rfl d_M_hour_26

def f_M_undo   (h : AH) : Option (Int32 × AH) :=
  if ¬ (hI h 383 53) = 0 then
    lt (sI h 383 53 ((hI h 383 53) - (1 : Int32))) fun hq1 =>
    lt (sI hq1 383 54 ((hI hq1 383 54) + (1 : Int32))) fun hq2 =>
    bV (f_M_exchange ((35 : Int32) * (hI hq2 383 53)) hq2) fun hq3 =>
    some ((1 : Int32), hq3)
  else
    some ((0 : Int32), h)
set_option maxHeartbeats 2000000 in
theorem ok_M_undo {G : AE} {n : Nat} (hn : NN ≤ n)   (h : AH) : OK G n y_M_undo (2) φI [.ref 383] h (f_M_undo h) := by
  refine ok_of (y := y_M_undo) (lv0 := [some (.ref 383)]) (by decide +kernel) (Nat.le_of_ble_eq_true rfl) ⟨rfl, trivial⟩ ?_
  rw [f_M_undo]
  refine r_aload_n (pc := 0) (i := 0) d_M_undo_0 rfl rfl ?_
  refine r_getf (pc := 1) (ci := 12) (k := 53) (C := "CricketHayModel") (T := F_12) (N := 73) (v := .int (hI h 383 53)) (fun s => Std.k s (lc hn rfl) kq_383) rfl (Nat.le_of_ble_eq_true rfl) rfl w_1139 (fun _ => rfl) d_M_undo_1 ?_
  refine r_if_ne (pc := 4) (tgt := 9) d_M_undo_4 (by rfl) ?_ ?_
  · refine r_aload_n (pc := 9) (i := 0) d_M_undo_9 rfl rfl ?_
    refine r_dup (pc := 10) d_M_undo_10 rfl ?_
    refine r_getf (pc := 11) (ci := 12) (k := 53) (C := "CricketHayModel") (T := F_12) (N := 73) (v := .int (hI h 383 53)) (fun s => Std.k s (lc hn rfl) kq_383) rfl (Nat.le_of_ble_eq_true rfl) rfl w_1139 (fun _ => rfl) d_M_undo_11 ?_
    refine r_iconst (pc := 14) (v := 1) d_M_undo_14 (by rfl) ?_
    refine r_isub (pc := 15) d_M_undo_15 ?_
    refine r_putI (pc := 16) (ci := 12) (k := 53) (C := "CricketHayModel") (T := F_12) (N := 73) (fun s => Std.k s (lc hn rfl) kq_383) rfl (Nat.le_of_ble_eq_true rfl) rfl rfl w_1139 (fun _ _ => rfl) (fun _ => rfl) (fun _ => rfl) (fun s => Std.sI s _ _ _) d_M_undo_16 ?_
    refine r_ltH (fun hq1 => ?_)
    refine r_aload_n (pc := 19) (i := 0) d_M_undo_19 rfl rfl ?_
    refine r_dup (pc := 20) d_M_undo_20 rfl ?_
    refine r_getf (pc := 21) (ci := 12) (k := 54) (C := "CricketHayModel") (T := F_12) (N := 73) (v := .int (hI hq1 383 54)) (fun s => Std.k s (lc hn rfl) kq_383) rfl (Nat.le_of_ble_eq_true rfl) rfl w_1140 (fun _ => rfl) d_M_undo_21 ?_
    refine r_iconst (pc := 24) (v := 1) d_M_undo_24 (by rfl) ?_
    refine r_iadd (pc := 25) d_M_undo_25 ?_
    refine r_putI (pc := 26) (ci := 12) (k := 54) (C := "CricketHayModel") (T := F_12) (N := 73) (fun s => Std.k s (lc hn rfl) kq_383) rfl (Nat.le_of_ble_eq_true rfl) rfl rfl w_1140 (fun _ _ => rfl) (fun _ => rfl) (fun _ => rfl) (fun s => Std.sI s _ _ _) d_M_undo_26 ?_
    refine r_ltH (fun hq2 => ?_)
    refine r_aload_n (pc := 29) (i := 0) d_M_undo_29 rfl rfl ?_
    refine r_bipush (pc := 30) (v := 35) d_M_undo_30 (by rfl) ?_
    refine r_aload_n (pc := 32) (i := 0) d_M_undo_32 rfl rfl ?_
    refine r_getf (pc := 33) (ci := 12) (k := 53) (C := "CricketHayModel") (T := F_12) (N := 73) (v := .int (hI hq2 383 53)) (fun s => Std.k s (lc hn rfl) kq_383) rfl (Nat.le_of_ble_eq_true rfl) rfl w_1139 (fun _ => rfl) d_M_undo_33 ?_
    refine r_imul (pc := 36) d_M_undo_36 ?_
    refine r_cVv (pc := 37) (T := F_12) (N := 73) (st := []) (ok_M_exchange hn ((35 : Int32) * (hI hq2 383 53)) hq2) (fun s => Std.k s (lc hn rfl) kq_383) rfl w_1596 w_13 w_1593 w_1595 ws_92 hy_M_exchange ⟨Nat.le_of_ble_eq_true rfl, Nat.le_of_ble_eq_true rfl⟩ ⟨Nat.le_of_ble_eq_true rfl, Nat.le_of_ble_eq_true rfl⟩ rfl (Nat.le_of_ble_eq_true rfl) d_M_undo_37 (fun hq3 => ?_)
    refine r_iconst (pc := 40) (v := 1) d_M_undo_40 (by rfl) ?_
    exact r_zret (pc := 41) rfl rfl d_M_undo_41
  · refine r_iconst (pc := 7) (v := 0) d_M_undo_7 (by rfl) ?_
    exact r_zret (pc := 8) rfl rfl d_M_undo_8

def f_M_redo   (h : AH) : Option (Int32 × AH) :=
  if ¬ (hI h 383 54) = 0 then
    bV (f_M_exchange ((35 : Int32) * (hI h 383 53)) h) fun hq1 =>
    lt (sI hq1 383 53 ((hI hq1 383 53) + (1 : Int32))) fun hq2 =>
    lt (sI hq2 383 54 ((hI hq2 383 54) - (1 : Int32))) fun hq3 =>
    some ((1 : Int32), hq3)
  else
    some ((0 : Int32), h)
set_option maxHeartbeats 2000000 in
theorem ok_M_redo {G : AE} {n : Nat} (hn : NN ≤ n)   (h : AH) : OK G n y_M_redo (2) φI [.ref 383] h (f_M_redo h) := by
  refine ok_of (y := y_M_redo) (lv0 := [some (.ref 383)]) (by decide +kernel) (Nat.le_of_ble_eq_true rfl) ⟨rfl, trivial⟩ ?_
  rw [f_M_redo]
  refine r_aload_n (pc := 0) (i := 0) d_M_redo_0 rfl rfl ?_
  refine r_getf (pc := 1) (ci := 12) (k := 54) (C := "CricketHayModel") (T := F_12) (N := 73) (v := .int (hI h 383 54)) (fun s => Std.k s (lc hn rfl) kq_383) rfl (Nat.le_of_ble_eq_true rfl) rfl w_1140 (fun _ => rfl) d_M_redo_1 ?_
  refine r_if_ne (pc := 4) (tgt := 9) d_M_redo_4 (by rfl) ?_ ?_
  · refine r_aload_n (pc := 9) (i := 0) d_M_redo_9 rfl rfl ?_
    refine r_bipush (pc := 10) (v := 35) d_M_redo_10 (by rfl) ?_
    refine r_aload_n (pc := 12) (i := 0) d_M_redo_12 rfl rfl ?_
    refine r_getf (pc := 13) (ci := 12) (k := 53) (C := "CricketHayModel") (T := F_12) (N := 73) (v := .int (hI h 383 53)) (fun s => Std.k s (lc hn rfl) kq_383) rfl (Nat.le_of_ble_eq_true rfl) rfl w_1139 (fun _ => rfl) d_M_redo_13 ?_
    refine r_imul (pc := 16) d_M_redo_16 ?_
    refine r_cVv (pc := 17) (T := F_12) (N := 73) (st := []) (ok_M_exchange hn ((35 : Int32) * (hI h 383 53)) h) (fun s => Std.k s (lc hn rfl) kq_383) rfl w_1596 w_13 w_1593 w_1595 ws_92 hy_M_exchange ⟨Nat.le_of_ble_eq_true rfl, Nat.le_of_ble_eq_true rfl⟩ ⟨Nat.le_of_ble_eq_true rfl, Nat.le_of_ble_eq_true rfl⟩ rfl (Nat.le_of_ble_eq_true rfl) d_M_redo_17 (fun hq1 => ?_)
    refine r_aload_n (pc := 20) (i := 0) d_M_redo_20 rfl rfl ?_
    refine r_dup (pc := 21) d_M_redo_21 rfl ?_
    refine r_getf (pc := 22) (ci := 12) (k := 53) (C := "CricketHayModel") (T := F_12) (N := 73) (v := .int (hI hq1 383 53)) (fun s => Std.k s (lc hn rfl) kq_383) rfl (Nat.le_of_ble_eq_true rfl) rfl w_1139 (fun _ => rfl) d_M_redo_22 ?_
    refine r_iconst (pc := 25) (v := 1) d_M_redo_25 (by rfl) ?_
    refine r_iadd (pc := 26) d_M_redo_26 ?_
    refine r_putI (pc := 27) (ci := 12) (k := 53) (C := "CricketHayModel") (T := F_12) (N := 73) (fun s => Std.k s (lc hn rfl) kq_383) rfl (Nat.le_of_ble_eq_true rfl) rfl rfl w_1139 (fun _ _ => rfl) (fun _ => rfl) (fun _ => rfl) (fun s => Std.sI s _ _ _) d_M_redo_27 ?_
    refine r_ltH (fun hq2 => ?_)
    refine r_aload_n (pc := 30) (i := 0) d_M_redo_30 rfl rfl ?_
    refine r_dup (pc := 31) d_M_redo_31 rfl ?_
    refine r_getf (pc := 32) (ci := 12) (k := 54) (C := "CricketHayModel") (T := F_12) (N := 73) (v := .int (hI hq2 383 54)) (fun s => Std.k s (lc hn rfl) kq_383) rfl (Nat.le_of_ble_eq_true rfl) rfl w_1140 (fun _ => rfl) d_M_redo_32 ?_
    refine r_iconst (pc := 35) (v := 1) d_M_redo_35 (by rfl) ?_
    refine r_isub (pc := 36) d_M_redo_36 ?_
    refine r_putI (pc := 37) (ci := 12) (k := 54) (C := "CricketHayModel") (T := F_12) (N := 73) (fun s => Std.k s (lc hn rfl) kq_383) rfl (Nat.le_of_ble_eq_true rfl) rfl rfl w_1140 (fun _ _ => rfl) (fun _ => rfl) (fun _ => rfl) (fun s => Std.sI s _ _ _) d_M_redo_37 ?_
    refine r_ltH (fun hq3 => ?_)
    refine r_iconst (pc := 40) (v := 1) d_M_redo_40 (by rfl) ?_
    exact r_zret (pc := 41) rfl rfl d_M_redo_41
  · refine r_iconst (pc := 7) (v := 0) d_M_redo_7 (by rfl) ?_
    exact r_zret (pc := 8) rfl rfl d_M_redo_8

def f_M_goFar_l6  (a1 : Int32)  : Nat → Int32 → AH → Option AH
  | 0, _, _ => none
  | n + 1, x2, h =>
    if a1 ≤ x2 then
      some h
    else
      bV (f_M_goHour h) fun hq1 =>
      lt (x2 + (1 : Int32)) fun xq2 =>
      f_M_goFar_l6 a1 n xq2 hq1
set_option maxHeartbeats 2000000 in
theorem o_M_goFar_l6 {G : AE} {n : Nat} (hn : NN ≤ n)  {a1 : Int32}   : ∀ (n0 : Nat) (x2 : Int32) (h : AH), AJ G n y_M_goFar (4) φV 6 [some (.ref 383), some (.int a1), some (.int x2)] [] h (f_M_goFar_l6 a1 n0 x2 h) := by
  intro n0
  induction n0 with
  | zero => intros; exact r_none
  | succ n0 ih =>
    intro x2 h
    rw [f_M_goFar_l6]
    refine r_iload_n (pc := 6) (i := 2) d_M_goFar_6 rfl rfl ?_
    refine r_iload_n (pc := 7) (i := 1) d_M_goFar_7 rfl rfl ?_
    refine r_icmp_ge (pc := 8) (tgt := 21) d_M_goFar_8 (by rfl) ?_ ?_
    · exact r_vret (pc := 21) rfl d_M_goFar_21
    · refine r_aload_n (pc := 11) (i := 0) d_M_goFar_11 rfl rfl ?_
      refine r_cVv (pc := 12) (T := F_12) (N := 73) (st := []) (ok_M_goHour hn h) (fun s => Std.k s (lc hn rfl) kq_383) rfl w_1580 w_13 w_1577 w_1579 ws_89 hy_M_goHour ⟨Nat.le_of_ble_eq_true rfl, Nat.le_of_ble_eq_true rfl⟩ ⟨Nat.le_of_ble_eq_true rfl, Nat.le_of_ble_eq_true rfl⟩ rfl (Nat.le_of_ble_eq_true rfl) d_M_goFar_12 (fun hq1 => ?_)
      refine r_ltE (fun xq2 exq2 => ?_)
      refine r_iinc (pc := 15) (v := xq2) (lv1 := [some (.ref 383), some (.int a1), some (.int xq2)]) d_M_goFar_15 rfl exq2.symm (Nat.le_of_ble_eq_true rfl) rfl ?_
      refine r_goto (pc := 18) (tgt := 6) d_M_goFar_18 (by rfl) ?_
      exact r_wk (ih xq2 hq1) ⟨rfl, ⟨rfl, ⟨rfl, trivial⟩⟩⟩
def f_M_goFar  (a1 : Int32) (h : AH) : Option AH :=
  bV (f_M_load h) fun hq1 =>
  f_M_goFar_l6 a1 FU (0 : Int32) hq1
set_option maxHeartbeats 2000000 in
theorem ok_M_goFar {G : AE} {n : Nat} (hn : NN ≤ n)  (a1 : Int32) (h : AH) : OK G n y_M_goFar (4) φV [.ref 383, .int a1] h (f_M_goFar a1 h) := by
  refine ok_of (y := y_M_goFar) (lv0 := [some (.ref 383), some (.int a1), none]) (by decide +kernel) (Nat.le_of_ble_eq_true rfl) ⟨rfl, ⟨rfl, trivial⟩⟩ ?_
  rw [f_M_goFar]
  refine r_aload_n (pc := 0) (i := 0) d_M_goFar_0 rfl rfl ?_
  refine r_cVv (pc := 1) (T := F_12) (N := 73) (st := []) (ok_M_load hn h) (fun s => Std.k s (lc hn rfl) kq_383) rfl w_1483 w_13 w_1480 w_1482 ws_76 hy_M_load ⟨Nat.le_of_ble_eq_true rfl, Nat.le_of_ble_eq_true rfl⟩ ⟨Nat.le_of_ble_eq_true rfl, Nat.le_of_ble_eq_true rfl⟩ rfl (Nat.le_of_ble_eq_true rfl) d_M_goFar_1 (fun hq1 => ?_)
  refine r_iconst (pc := 4) (v := 0) d_M_goFar_4 (by rfl) ?_
  refine r_istore_n (pc := 5) (i := 2) (lv1 := [some (.ref 383), some (.int a1), some (.int (0 : Int32))]) d_M_goFar_5 rfl (Nat.le_of_ble_eq_true rfl) rfl ?_
  exact r_wk (o_M_goFar_l6 hn FU (0 : Int32) hq1) ⟨rfl, ⟨rfl, ⟨rfl, trivial⟩⟩⟩

def f_M_will  (a1 : Int32) (a2 : Int32) (a3 : Int32) (h : AH) : Option (Int32 × AH) :=
  bI (f_M_areTwo a1 a2 h) fun rq1 hq2 =>
  if rq1 = 0 then
    some ((-1 : Int32), hq2)
  else
    bI (f_M_isIn a3 (0 : Int32) (60 : Int32) hq2) fun rq3 hq4 =>
    if ¬ rq3 = 0 then
      bV (f_M_goFar a3 hq4) fun hq5 =>
      bI (f_M_priceOf a1 a2 hq5) fun rq6 hq7 =>
      some (rq6, hq7)
    else
      some ((-1 : Int32), hq4)
set_option maxHeartbeats 2000000 in
theorem ok_M_will {G : AE} {n : Nat} (hn : NN ≤ n)  (a1 : Int32) (a2 : Int32) (a3 : Int32) (h : AH) : OK G n y_M_will (7) φI [.ref 383, .int a1, .int a2, .int a3] h (f_M_will a1 a2 a3 h) := by
  refine ok_of (y := y_M_will) (lv0 := [some (.ref 383), some (.int a1), some (.int a2), some (.int a3)]) (by decide +kernel) (Nat.le_of_ble_eq_true rfl) ⟨rfl, ⟨rfl, ⟨rfl, ⟨rfl, trivial⟩⟩⟩⟩ ?_
  rw [f_M_will]
  refine r_aload_n (pc := 0) (i := 0) d_M_will_0 rfl rfl ?_
  refine r_iload_n (pc := 1) (i := 1) d_M_will_1 rfl rfl ?_
  refine r_iload_n (pc := 2) (i := 2) d_M_will_2 rfl rfl ?_
  refine r_cVi (pc := 3) (T := F_12) (N := 73) (st := []) (ok_M_areTwo hn a1 a2 h) (fun s => Std.k s (lc hn rfl) kq_383) rfl w_1532 w_13 w_1529 w_1531 ws_84 hy_M_areTwo ⟨Nat.le_of_ble_eq_true rfl, Nat.le_of_ble_eq_true rfl⟩ ⟨Nat.le_of_ble_eq_true rfl, Nat.le_of_ble_eq_true rfl⟩ rfl (Nat.le_of_ble_eq_true rfl) d_M_will_3 (fun rq1 hq2 => ?_)
  refine r_if_eq (pc := 6) (tgt := 19) d_M_will_6 (by rfl) ?_ ?_
  · refine r_iconst (pc := 19) (v := -1) d_M_will_19 (by rfl) ?_
    exact r_iret (pc := 20) rfl d_M_will_20
  · refine r_iload_n (pc := 9) (i := 3) d_M_will_9 rfl rfl ?_
    refine r_iconst (pc := 10) (v := 0) d_M_will_10 (by rfl) ?_
    refine r_bipush (pc := 11) (v := 60) d_M_will_11 (by rfl) ?_
    refine r_cSi (pc := 13) (st := []) (ok_M_isIn hn a3 (0 : Int32) (60 : Int32) hq2) w_1479 w_13 w_1477 w_1478 hy_M_isIn ⟨Nat.le_of_ble_eq_true rfl, Nat.le_of_ble_eq_true rfl⟩ ⟨Nat.le_of_ble_eq_true rfl, Nat.le_of_ble_eq_true rfl⟩ rfl (Nat.le_of_ble_eq_true rfl) d_M_will_13 (fun rq3 hq4 => ?_)
    refine r_if_ne (pc := 16) (tgt := 21) d_M_will_16 (by rfl) ?_ ?_
    · refine r_aload_n (pc := 21) (i := 0) d_M_will_21 rfl rfl ?_
      refine r_iload_n (pc := 22) (i := 3) d_M_will_22 rfl rfl ?_
      refine r_cVv (pc := 23) (T := F_12) (N := 73) (st := []) (ok_M_goFar hn a3 hq4) (fun s => Std.k s (lc hn rfl) kq_383) rfl w_1608 w_13 w_1605 w_1607 ws_93 hy_M_goFar ⟨Nat.le_of_ble_eq_true rfl, Nat.le_of_ble_eq_true rfl⟩ ⟨Nat.le_of_ble_eq_true rfl, Nat.le_of_ble_eq_true rfl⟩ rfl (Nat.le_of_ble_eq_true rfl) d_M_will_23 (fun hq5 => ?_)
      refine r_aload_n (pc := 26) (i := 0) d_M_will_26 rfl rfl ?_
      refine r_iload_n (pc := 27) (i := 1) d_M_will_27 rfl rfl ?_
      refine r_iload_n (pc := 28) (i := 2) d_M_will_28 rfl rfl ?_
      refine r_cVi (pc := 29) (T := F_12) (N := 73) (st := []) (ok_M_priceOf hn a1 a2 hq5) (fun s => Std.k s (lc hn rfl) kq_383) rfl w_1536 w_13 w_1533 w_1535 ws_85 hy_M_priceOf ⟨Nat.le_of_ble_eq_true rfl, Nat.le_of_ble_eq_true rfl⟩ ⟨Nat.le_of_ble_eq_true rfl, Nat.le_of_ble_eq_true rfl⟩ rfl (Nat.le_of_ble_eq_true rfl) d_M_will_29 (fun rq6 hq7 => ?_)
      exact r_iret (pc := 32) rfl d_M_will_32
    · refine r_iconst (pc := 19) (v := -1) d_M_will_19 (by rfl) ?_
      exact r_iret (pc := 20) rfl d_M_will_20

def f_M_edge_b61  (a1 : Int32) (a2 : Int32) (a3 : Int32) (a4 : Int32) (k18 : Int32 → Int32 → Int32 → AH → Option (Int32 × AH)) (x7 : Int32) (x8 : Int32) (h : AH) : Option (Int32 × AH) :=
  lt (x7 + (1 : Int32)) fun xq1 =>
  k18 x7 x8 xq1 h
set_option maxHeartbeats 2000000 in
theorem o_M_edge_b61 {G : AE} {n : Nat} (hn : NN ≤ n)  {a1 : Int32} {a2 : Int32} {a3 : Int32} {a4 : Int32}  {k18 : Int32 → Int32 → Int32 → AH → Option (Int32 × AH)} (hk18 : ∀ (x5 : Int32) (x6 : Int32) (x7 : Int32) (h : AH), AJ G n y_M_edge (7) φI 18 [some (.ref 383), some (.int a1), some (.int a2), some (.int a3), some (.int a4), some (.int x5), some (.int x6), some (.int x7), none] [] h (k18 x5 x6 x7 h)) : ∀ (x7 : Int32) (x8 : Int32) (h : AH), AJ G n y_M_edge (7) φI 61 [some (.ref 383), some (.int a1), some (.int a2), some (.int a3), some (.int a4), none, none, some (.int x7), some (.int x8)] [] h (f_M_edge_b61 a1 a2 a3 a4 k18 x7 x8 h) := by
  intro x7 x8 h
  rw [f_M_edge_b61]
  refine r_iload (pc := 61) d_M_edge_61 rfl ?_
  refine r_istore (pc := 63) (lv1 := [some (.ref 383), some (.int a1), some (.int a2), some (.int a3), some (.int a4), none, some (.int x8), some (.int x7), some (.int x8)]) d_M_edge_63 (Nat.le_of_ble_eq_true rfl) rfl ?_
  refine r_iload (pc := 65) d_M_edge_65 rfl ?_
  refine r_istore (pc := 67) (lv1 := [some (.ref 383), some (.int a1), some (.int a2), some (.int a3), some (.int a4), some (.int x7), some (.int x8), some (.int x7), some (.int x8)]) d_M_edge_67 (Nat.le_of_ble_eq_true rfl) rfl ?_
  refine r_ltE (fun xq1 exq1 => ?_)
  refine r_iinc (pc := 69) (v := xq1) (lv1 := [some (.ref 383), some (.int a1), some (.int a2), some (.int a3), some (.int a4), some (.int x7), some (.int x8), some (.int xq1), some (.int x8)]) d_M_edge_69 rfl exq1.symm (Nat.le_of_ble_eq_true rfl) rfl ?_
  refine r_goto (pc := 72) (tgt := 18) d_M_edge_72 (by rfl) ?_
  exact r_wk (hk18 x7 x8 xq1 h) ⟨rfl, ⟨rfl, ⟨rfl, ⟨rfl, ⟨rfl, ⟨rfl, ⟨rfl, ⟨rfl, trivial⟩⟩⟩⟩⟩⟩⟩⟩
def f_M_edge_l18  (a1 : Int32) (a2 : Int32) (a3 : Int32) (a4 : Int32)  : Nat → Int32 → Int32 → Int32 → AH → Option (Int32 × AH)
  | 0, _, _, _, _ => none
  | n + 1, x5, x6, x7, h =>
    if a3 < x7 then
      some (x5, h)
    else
      bV (f_M_goHour h) fun hq1 =>
      bI (f_M_priceOf a1 a2 hq1) fun rq2 hq3 =>
      if a4 = 0 then
        if rq2 < x6 then
          f_M_edge_b61 a1 a2 a3 a4 (f_M_edge_l18 a1 a2 a3 a4 n) x7 rq2 hq3
        else
          lt (x7 + (1 : Int32)) fun xq4 =>
          f_M_edge_l18 a1 a2 a3 a4 n x5 x6 xq4 hq3
      else
        if x6 < rq2 then
          f_M_edge_b61 a1 a2 a3 a4 (f_M_edge_l18 a1 a2 a3 a4 n) x7 rq2 hq3
        else
          lt (x7 + (1 : Int32)) fun xq5 =>
          f_M_edge_l18 a1 a2 a3 a4 n x5 x6 xq5 hq3
set_option maxHeartbeats 2000000 in
theorem o_M_edge_l18 {G : AE} {n : Nat} (hn : NN ≤ n)  {a1 : Int32} {a2 : Int32} {a3 : Int32} {a4 : Int32}   : ∀ (n0 : Nat) (x5 : Int32) (x6 : Int32) (x7 : Int32) (h : AH), AJ G n y_M_edge (7) φI 18 [some (.ref 383), some (.int a1), some (.int a2), some (.int a3), some (.int a4), some (.int x5), some (.int x6), some (.int x7), none] [] h (f_M_edge_l18 a1 a2 a3 a4 n0 x5 x6 x7 h) := by
  intro n0
  induction n0 with
  | zero => intros; exact r_none
  | succ n0 ih =>
    intro x5 x6 x7 h
    rw [f_M_edge_l18]
    refine r_iload (pc := 18) d_M_edge_18 rfl ?_
    refine r_iload_n (pc := 20) (i := 3) d_M_edge_20 rfl rfl ?_
    refine r_icmp_gt (pc := 21) (tgt := 75) d_M_edge_21 (by rfl) ?_ ?_
    · refine r_iload (pc := 75) d_M_edge_75 rfl ?_
      exact r_iret (pc := 77) rfl d_M_edge_77
    · refine r_aload_n (pc := 24) (i := 0) d_M_edge_24 rfl rfl ?_
      refine r_cVv (pc := 25) (T := F_12) (N := 73) (st := []) (ok_M_goHour hn h) (fun s => Std.k s (lc hn rfl) kq_383) rfl w_1580 w_13 w_1577 w_1579 ws_89 hy_M_goHour ⟨Nat.le_of_ble_eq_true rfl, Nat.le_of_ble_eq_true rfl⟩ ⟨Nat.le_of_ble_eq_true rfl, Nat.le_of_ble_eq_true rfl⟩ rfl (Nat.le_of_ble_eq_true rfl) d_M_edge_25 (fun hq1 => ?_)
      refine r_aload_n (pc := 28) (i := 0) d_M_edge_28 rfl rfl ?_
      refine r_iload_n (pc := 29) (i := 1) d_M_edge_29 rfl rfl ?_
      refine r_iload_n (pc := 30) (i := 2) d_M_edge_30 rfl rfl ?_
      refine r_cVi (pc := 31) (T := F_12) (N := 73) (st := []) (ok_M_priceOf hn a1 a2 hq1) (fun s => Std.k s (lc hn rfl) kq_383) rfl w_1536 w_13 w_1533 w_1535 ws_85 hy_M_priceOf ⟨Nat.le_of_ble_eq_true rfl, Nat.le_of_ble_eq_true rfl⟩ ⟨Nat.le_of_ble_eq_true rfl, Nat.le_of_ble_eq_true rfl⟩ rfl (Nat.le_of_ble_eq_true rfl) d_M_edge_31 (fun rq2 hq3 => ?_)
      refine r_istore (pc := 34) (lv1 := [some (.ref 383), some (.int a1), some (.int a2), some (.int a3), some (.int a4), some (.int x5), some (.int x6), some (.int x7), some (.int rq2)]) d_M_edge_34 (Nat.le_of_ble_eq_true rfl) rfl ?_
      refine r_iload (pc := 36) d_M_edge_36 rfl ?_
      refine r_if_eq (pc := 38) (tgt := 51) d_M_edge_38 (by rfl) ?_ ?_
      · refine r_iload (pc := 51) d_M_edge_51 rfl ?_
        refine r_iload (pc := 53) d_M_edge_53 rfl ?_
        refine r_icmp_lt (pc := 55) (tgt := 61) d_M_edge_55 (by rfl) ?_ ?_
        · exact r_wk (o_M_edge_b61 hn ih x7 rq2 hq3) ⟨rfl, ⟨rfl, ⟨rfl, ⟨rfl, ⟨rfl, ⟨rfl, ⟨rfl, trivial⟩⟩⟩⟩⟩⟩⟩
        · refine r_goto (pc := 58) (tgt := 69) d_M_edge_58 (by rfl) ?_
          refine r_ltE (fun xq4 exq4 => ?_)
          refine r_iinc (pc := 69) (v := xq4) (lv1 := [some (.ref 383), some (.int a1), some (.int a2), some (.int a3), some (.int a4), some (.int x5), some (.int x6), some (.int xq4), some (.int rq2)]) d_M_edge_69 rfl exq4.symm (Nat.le_of_ble_eq_true rfl) rfl ?_
          refine r_goto (pc := 72) (tgt := 18) d_M_edge_72 (by rfl) ?_
          exact r_wk (ih x5 x6 xq4 hq3) ⟨rfl, ⟨rfl, ⟨rfl, ⟨rfl, ⟨rfl, ⟨rfl, ⟨rfl, ⟨rfl, trivial⟩⟩⟩⟩⟩⟩⟩⟩
      · refine r_iload (pc := 41) d_M_edge_41 rfl ?_
        refine r_iload (pc := 43) d_M_edge_43 rfl ?_
        refine r_icmp_gt (pc := 45) (tgt := 61) d_M_edge_45 (by rfl) ?_ ?_
        · exact r_wk (o_M_edge_b61 hn ih x7 rq2 hq3) ⟨rfl, ⟨rfl, ⟨rfl, ⟨rfl, ⟨rfl, ⟨rfl, ⟨rfl, trivial⟩⟩⟩⟩⟩⟩⟩
        · refine r_goto (pc := 48) (tgt := 69) d_M_edge_48 (by rfl) ?_
          refine r_ltE (fun xq5 exq5 => ?_)
          refine r_iinc (pc := 69) (v := xq5) (lv1 := [some (.ref 383), some (.int a1), some (.int a2), some (.int a3), some (.int a4), some (.int x5), some (.int x6), some (.int xq5), some (.int rq2)]) d_M_edge_69 rfl exq5.symm (Nat.le_of_ble_eq_true rfl) rfl ?_
          refine r_goto (pc := 72) (tgt := 18) d_M_edge_72 (by rfl) ?_
          exact r_wk (ih x5 x6 xq5 hq3) ⟨rfl, ⟨rfl, ⟨rfl, ⟨rfl, ⟨rfl, ⟨rfl, ⟨rfl, ⟨rfl, trivial⟩⟩⟩⟩⟩⟩⟩⟩
def f_M_edge  (a1 : Int32) (a2 : Int32) (a3 : Int32) (a4 : Int32) (h : AH) : Option (Int32 × AH) :=
  bV (f_M_load h) fun hq1 =>
  bI (f_M_priceOf a1 a2 hq1) fun rq2 hq3 =>
  f_M_edge_l18 a1 a2 a3 a4 FU (0 : Int32) rq2 (1 : Int32) hq3
set_option maxHeartbeats 2000000 in
theorem ok_M_edge {G : AE} {n : Nat} (hn : NN ≤ n)  (a1 : Int32) (a2 : Int32) (a3 : Int32) (a4 : Int32) (h : AH) : OK G n y_M_edge (7) φI [.ref 383, .int a1, .int a2, .int a3, .int a4] h (f_M_edge a1 a2 a3 a4 h) := by
  refine ok_of (y := y_M_edge) (lv0 := [some (.ref 383), some (.int a1), some (.int a2), some (.int a3), some (.int a4), none, none, none, none]) (by decide +kernel) (Nat.le_of_ble_eq_true rfl) ⟨rfl, ⟨rfl, ⟨rfl, ⟨rfl, ⟨rfl, trivial⟩⟩⟩⟩⟩ ?_
  rw [f_M_edge]
  refine r_aload_n (pc := 0) (i := 0) d_M_edge_0 rfl rfl ?_
  refine r_cVv (pc := 1) (T := F_12) (N := 73) (st := []) (ok_M_load hn h) (fun s => Std.k s (lc hn rfl) kq_383) rfl w_1483 w_13 w_1480 w_1482 ws_76 hy_M_load ⟨Nat.le_of_ble_eq_true rfl, Nat.le_of_ble_eq_true rfl⟩ ⟨Nat.le_of_ble_eq_true rfl, Nat.le_of_ble_eq_true rfl⟩ rfl (Nat.le_of_ble_eq_true rfl) d_M_edge_1 (fun hq1 => ?_)
  refine r_iconst (pc := 4) (v := 0) d_M_edge_4 (by rfl) ?_
  refine r_istore (pc := 5) (lv1 := [some (.ref 383), some (.int a1), some (.int a2), some (.int a3), some (.int a4), some (.int (0 : Int32)), none, none, none]) d_M_edge_5 (Nat.le_of_ble_eq_true rfl) rfl ?_
  refine r_aload_n (pc := 7) (i := 0) d_M_edge_7 rfl rfl ?_
  refine r_iload_n (pc := 8) (i := 1) d_M_edge_8 rfl rfl ?_
  refine r_iload_n (pc := 9) (i := 2) d_M_edge_9 rfl rfl ?_
  refine r_cVi (pc := 10) (T := F_12) (N := 73) (st := []) (ok_M_priceOf hn a1 a2 hq1) (fun s => Std.k s (lc hn rfl) kq_383) rfl w_1536 w_13 w_1533 w_1535 ws_85 hy_M_priceOf ⟨Nat.le_of_ble_eq_true rfl, Nat.le_of_ble_eq_true rfl⟩ ⟨Nat.le_of_ble_eq_true rfl, Nat.le_of_ble_eq_true rfl⟩ rfl (Nat.le_of_ble_eq_true rfl) d_M_edge_10 (fun rq2 hq3 => ?_)
  refine r_istore (pc := 13) (lv1 := [some (.ref 383), some (.int a1), some (.int a2), some (.int a3), some (.int a4), some (.int (0 : Int32)), some (.int rq2), none, none]) d_M_edge_13 (Nat.le_of_ble_eq_true rfl) rfl ?_
  refine r_iconst (pc := 15) (v := 1) d_M_edge_15 (by rfl) ?_
  refine r_istore (pc := 16) (lv1 := [some (.ref 383), some (.int a1), some (.int a2), some (.int a3), some (.int a4), some (.int (0 : Int32)), some (.int rq2), some (.int (1 : Int32)), none]) d_M_edge_16 (Nat.le_of_ble_eq_true rfl) rfl ?_
  exact r_wk (o_M_edge_l18 hn FU (0 : Int32) rq2 (1 : Int32) hq3) ⟨rfl, ⟨rfl, ⟨rfl, ⟨rfl, ⟨rfl, ⟨rfl, ⟨rfl, ⟨rfl, trivial⟩⟩⟩⟩⟩⟩⟩⟩

def f_M_low  (a1 : Int32) (a2 : Int32) (a3 : Int32) (h : AH) : Option (Int32 × AH) :=
  bI (f_M_areTwo a1 a2 h) fun rq1 hq2 =>
  if rq1 = 0 then
    some ((-1 : Int32), hq2)
  else
    bI (f_M_isIn a3 (0 : Int32) (60 : Int32) hq2) fun rq3 hq4 =>
    if rq3 = 0 then
      some ((-1 : Int32), hq4)
    else
      bI (f_M_edge a1 a2 a3 (0 : Int32) hq4) fun rq5 hq6 =>
      some (rq5, hq6)
set_option maxHeartbeats 2000000 in
theorem ok_M_low {G : AE} {n : Nat} (hn : NN ≤ n)  (a1 : Int32) (a2 : Int32) (a3 : Int32) (h : AH) : OK G n y_M_low (8) φI [.ref 383, .int a1, .int a2, .int a3] h (f_M_low a1 a2 a3 h) := by
  refine ok_of (y := y_M_low) (lv0 := [some (.ref 383), some (.int a1), some (.int a2), some (.int a3)]) (by decide +kernel) (Nat.le_of_ble_eq_true rfl) ⟨rfl, ⟨rfl, ⟨rfl, ⟨rfl, trivial⟩⟩⟩⟩ ?_
  rw [f_M_low]
  refine r_aload_n (pc := 0) (i := 0) d_M_low_0 rfl rfl ?_
  refine r_iload_n (pc := 1) (i := 1) d_M_low_1 rfl rfl ?_
  refine r_iload_n (pc := 2) (i := 2) d_M_low_2 rfl rfl ?_
  refine r_cVi (pc := 3) (T := F_12) (N := 73) (st := []) (ok_M_areTwo hn a1 a2 h) (fun s => Std.k s (lc hn rfl) kq_383) rfl w_1532 w_13 w_1529 w_1531 ws_84 hy_M_areTwo ⟨Nat.le_of_ble_eq_true rfl, Nat.le_of_ble_eq_true rfl⟩ ⟨Nat.le_of_ble_eq_true rfl, Nat.le_of_ble_eq_true rfl⟩ rfl (Nat.le_of_ble_eq_true rfl) d_M_low_3 (fun rq1 hq2 => ?_)
  refine r_if_eq (pc := 6) (tgt := 30) d_M_low_6 (by rfl) ?_ ?_
  · refine r_iconst (pc := 30) (v := -1) d_M_low_30 (by rfl) ?_
    exact r_iret (pc := 31) rfl d_M_low_31
  · refine r_iload_n (pc := 9) (i := 3) d_M_low_9 rfl rfl ?_
    refine r_iconst (pc := 10) (v := 0) d_M_low_10 (by rfl) ?_
    refine r_bipush (pc := 11) (v := 60) d_M_low_11 (by rfl) ?_
    refine r_cSi (pc := 13) (st := []) (ok_M_isIn hn a3 (0 : Int32) (60 : Int32) hq2) w_1479 w_13 w_1477 w_1478 hy_M_isIn ⟨Nat.le_of_ble_eq_true rfl, Nat.le_of_ble_eq_true rfl⟩ ⟨Nat.le_of_ble_eq_true rfl, Nat.le_of_ble_eq_true rfl⟩ rfl (Nat.le_of_ble_eq_true rfl) d_M_low_13 (fun rq3 hq4 => ?_)
    refine r_if_eq (pc := 16) (tgt := 30) d_M_low_16 (by rfl) ?_ ?_
    · refine r_iconst (pc := 30) (v := -1) d_M_low_30 (by rfl) ?_
      exact r_iret (pc := 31) rfl d_M_low_31
    · refine r_aload_n (pc := 19) (i := 0) d_M_low_19 rfl rfl ?_
      refine r_iload_n (pc := 20) (i := 1) d_M_low_20 rfl rfl ?_
      refine r_iload_n (pc := 21) (i := 2) d_M_low_21 rfl rfl ?_
      refine r_iload_n (pc := 22) (i := 3) d_M_low_22 rfl rfl ?_
      refine r_iconst (pc := 23) (v := 0) d_M_low_23 (by rfl) ?_
      refine r_cVi (pc := 24) (T := F_12) (N := 73) (st := []) (ok_M_edge hn a1 a2 a3 (0 : Int32) hq4) (fun s => Std.k s (lc hn rfl) kq_383) rfl w_1616 w_13 w_1613 w_1615 ws_94 hy_M_edge ⟨Nat.le_of_ble_eq_true rfl, Nat.le_of_ble_eq_true rfl⟩ ⟨Nat.le_of_ble_eq_true rfl, Nat.le_of_ble_eq_true rfl⟩ rfl (Nat.le_of_ble_eq_true rfl) d_M_low_24 (fun rq5 hq6 => ?_)
      refine r_goto (pc := 27) (tgt := 31) d_M_low_27 (by rfl) ?_
      exact r_iret (pc := 31) rfl d_M_low_31

def f_M_high  (a1 : Int32) (a2 : Int32) (a3 : Int32) (h : AH) : Option (Int32 × AH) :=
  bI (f_M_areTwo a1 a2 h) fun rq1 hq2 =>
  if rq1 = 0 then
    some ((-1 : Int32), hq2)
  else
    bI (f_M_isIn a3 (0 : Int32) (60 : Int32) hq2) fun rq3 hq4 =>
    if rq3 = 0 then
      some ((-1 : Int32), hq4)
    else
      bI (f_M_edge a1 a2 a3 (1 : Int32) hq4) fun rq5 hq6 =>
      some (rq5, hq6)
set_option maxHeartbeats 2000000 in
theorem ok_M_high {G : AE} {n : Nat} (hn : NN ≤ n)  (a1 : Int32) (a2 : Int32) (a3 : Int32) (h : AH) : OK G n y_M_high (8) φI [.ref 383, .int a1, .int a2, .int a3] h (f_M_high a1 a2 a3 h) := by
  refine ok_of (y := y_M_high) (lv0 := [some (.ref 383), some (.int a1), some (.int a2), some (.int a3)]) (by decide +kernel) (Nat.le_of_ble_eq_true rfl) ⟨rfl, ⟨rfl, ⟨rfl, ⟨rfl, trivial⟩⟩⟩⟩ ?_
  rw [f_M_high]
  refine r_aload_n (pc := 0) (i := 0) d_M_high_0 rfl rfl ?_
  refine r_iload_n (pc := 1) (i := 1) d_M_high_1 rfl rfl ?_
  refine r_iload_n (pc := 2) (i := 2) d_M_high_2 rfl rfl ?_
  refine r_cVi (pc := 3) (T := F_12) (N := 73) (st := []) (ok_M_areTwo hn a1 a2 h) (fun s => Std.k s (lc hn rfl) kq_383) rfl w_1532 w_13 w_1529 w_1531 ws_84 hy_M_areTwo ⟨Nat.le_of_ble_eq_true rfl, Nat.le_of_ble_eq_true rfl⟩ ⟨Nat.le_of_ble_eq_true rfl, Nat.le_of_ble_eq_true rfl⟩ rfl (Nat.le_of_ble_eq_true rfl) d_M_high_3 (fun rq1 hq2 => ?_)
  refine r_if_eq (pc := 6) (tgt := 30) d_M_high_6 (by rfl) ?_ ?_
  · refine r_iconst (pc := 30) (v := -1) d_M_high_30 (by rfl) ?_
    exact r_iret (pc := 31) rfl d_M_high_31
  · refine r_iload_n (pc := 9) (i := 3) d_M_high_9 rfl rfl ?_
    refine r_iconst (pc := 10) (v := 0) d_M_high_10 (by rfl) ?_
    refine r_bipush (pc := 11) (v := 60) d_M_high_11 (by rfl) ?_
    refine r_cSi (pc := 13) (st := []) (ok_M_isIn hn a3 (0 : Int32) (60 : Int32) hq2) w_1479 w_13 w_1477 w_1478 hy_M_isIn ⟨Nat.le_of_ble_eq_true rfl, Nat.le_of_ble_eq_true rfl⟩ ⟨Nat.le_of_ble_eq_true rfl, Nat.le_of_ble_eq_true rfl⟩ rfl (Nat.le_of_ble_eq_true rfl) d_M_high_13 (fun rq3 hq4 => ?_)
    refine r_if_eq (pc := 16) (tgt := 30) d_M_high_16 (by rfl) ?_ ?_
    · refine r_iconst (pc := 30) (v := -1) d_M_high_30 (by rfl) ?_
      exact r_iret (pc := 31) rfl d_M_high_31
    · refine r_aload_n (pc := 19) (i := 0) d_M_high_19 rfl rfl ?_
      refine r_iload_n (pc := 20) (i := 1) d_M_high_20 rfl rfl ?_
      refine r_iload_n (pc := 21) (i := 2) d_M_high_21 rfl rfl ?_
      refine r_iload_n (pc := 22) (i := 3) d_M_high_22 rfl rfl ?_
      refine r_iconst (pc := 23) (v := 1) d_M_high_23 (by rfl) ?_
      refine r_cVi (pc := 24) (T := F_12) (N := 73) (st := []) (ok_M_edge hn a1 a2 a3 (1 : Int32) hq4) (fun s => Std.k s (lc hn rfl) kq_383) rfl w_1616 w_13 w_1613 w_1615 ws_94 hy_M_edge ⟨Nat.le_of_ble_eq_true rfl, Nat.le_of_ble_eq_true rfl⟩ ⟨Nat.le_of_ble_eq_true rfl, Nat.le_of_ble_eq_true rfl⟩ rfl (Nat.le_of_ble_eq_true rfl) d_M_high_24 (fun rq5 hq6 => ?_)
      refine r_goto (pc := 27) (tgt := 31) d_M_high_27 (by rfl) ?_
      exact r_iret (pc := 31) rfl d_M_high_31

def f_M_plan_l110  (a1 : Int32) (a2 : Int32) (a3 : Int32) (a4 : Int32) (k99 : Int32 → Int32 → AH → Option (Int32 × AH)) : Nat → Int32 → Int32 → Int32 → Int32 → AH → Option (Int32 × AH)
  | 0, _, _, _, _, _ => none
  | n + 1, x5, x6, x7, x8, h =>
    if a4 ≤ x8 then
      gx x7 12 <|
      gx x7 12 <|
      lt (sI h 409 (ix x7) ((hI h 409 (ix x7)) + (1 : Int32))) fun hq3 =>
      gx x7 12 <|
      lt (x6 + (hI hq3 408 (ix x7))) fun xq5 =>
      lt (x5 + (-1 : Int32)) fun xq6 =>
      k99 xq6 xq5 hq3
    else
      gx x8 12 <|
      if (hI h 383 46) ≤ (hI h 409 (ix x8)) then
        lt (x8 + (1 : Int32)) fun xq8 =>
        f_M_plan_l110 a1 a2 a3 a4 k99 n x5 x6 x7 xq8 h
      else
        if x7 < 0 then
          lt (x8 + (1 : Int32)) fun xq9 =>
          f_M_plan_l110 a1 a2 a3 a4 k99 n x5 x6 x8 xq9 h
        else
          gx x8 12 <|
          gx x7 12 <|
          if (hI h 408 (ix x7)) ≤ (hI h 408 (ix x8)) then
            lt (x8 + (1 : Int32)) fun xq12 =>
            f_M_plan_l110 a1 a2 a3 a4 k99 n x5 x6 x7 xq12 h
          else
            lt (x8 + (1 : Int32)) fun xq13 =>
            f_M_plan_l110 a1 a2 a3 a4 k99 n x5 x6 x8 xq13 h
set_option maxHeartbeats 2000000 in
theorem o_M_plan_l110 {G : AE} {n : Nat} (hn : NN ≤ n)  {a1 : Int32} {a2 : Int32} {a3 : Int32} {a4 : Int32}  {k99 : Int32 → Int32 → AH → Option (Int32 × AH)} (hk99 : ∀ (x5 : Int32) (x6 : Int32) (h : AH), AJ G n y_M_plan (7) φI 99 [some (.ref 383), none, none, none, some (.int a4), some (.int x5), some (.int x6), none, none] [] h (k99 x5 x6 h)) : ∀ (n0 : Nat) (x5 : Int32) (x6 : Int32) (x7 : Int32) (x8 : Int32) (h : AH), AJ G n y_M_plan (7) φI 110 [some (.ref 383), none, none, none, some (.int a4), some (.int x5), some (.int x6), some (.int x7), some (.int x8)] [] h (f_M_plan_l110 a1 a2 a3 a4 k99 n0 x5 x6 x7 x8 h) := by
  intro n0
  induction n0 with
  | zero => intros; exact r_none
  | succ n0 ih =>
    intro x5 x6 x7 x8 h
    rw [f_M_plan_l110]
    refine r_iload (pc := 110) d_M_plan_110 rfl ?_
    refine r_iload (pc := 112) d_M_plan_112 rfl ?_
    refine r_icmp_ge (pc := 114) (tgt := 163) d_M_plan_114 (by rfl) ?_ ?_
    · refine r_aload_n (pc := 163) (i := 0) d_M_plan_163 rfl rfl ?_
      refine r_getf (pc := 164) (ci := 12) (k := 56) (C := "CricketHayModel") (T := F_12) (N := 73) (v := .ref 409) (fun s => Std.k s (lc hn rfl) kq_383) rfl (Nat.le_of_ble_eq_true rfl) rfl w_1142 (fun s => vr rfl (Std.r s (lc hn rfl) rq_383_56)) d_M_plan_164 ?_
      refine r_iload (pc := 167) d_M_plan_167 rfl ?_
      refine r_dup2 (pc := 169) d_M_plan_169 rfl rfl ?_
      refine r_gx (fun zq1 => ?_)
      refine r_iald (pc := 170) (n := 12) (i0 := (ix x7)) (fun s => Std.k s (lc hn rfl) kq_409) zq1 rfl d_M_plan_170 ?_
      refine r_iconst (pc := 171) (v := 1) d_M_plan_171 (by rfl) ?_
      refine r_iadd (pc := 172) d_M_plan_172 ?_
      refine r_gx (fun zq2 => ?_)
      refine r_iast (pc := 173) (n := 12) (i0 := (ix x7)) (fun s => Std.k s (lc hn rfl) kq_409) zq2 rfl (fun s => Std.sI s _ _ _) d_M_plan_173 ?_
      refine r_ltH (fun hq3 => ?_)
      refine r_iload (pc := 174) d_M_plan_174 rfl ?_
      refine r_aload_n (pc := 176) (i := 0) d_M_plan_176 rfl rfl ?_
      refine r_getf (pc := 177) (ci := 12) (k := 55) (C := "CricketHayModel") (T := F_12) (N := 73) (v := .ref 408) (fun s => Std.k s (lc hn rfl) kq_383) rfl (Nat.le_of_ble_eq_true rfl) rfl w_1141 (fun s => vr rfl (Std.r s (lc hn rfl) rq_383_55)) d_M_plan_177 ?_
      refine r_iload (pc := 180) d_M_plan_180 rfl ?_
      refine r_gx (fun zq4 => ?_)
      refine r_iald (pc := 182) (n := 12) (i0 := (ix x7)) (fun s => Std.k s (lc hn rfl) kq_408) zq4 rfl d_M_plan_182 ?_
      refine r_iadd (pc := 183) d_M_plan_183 ?_
      refine r_ltI (fun xq5 => ?_)
      refine r_istore (pc := 184) (lv1 := [some (.ref 383), none, none, none, some (.int a4), some (.int x5), some (.int xq5), some (.int x7), some (.int x8)]) d_M_plan_184 (Nat.le_of_ble_eq_true rfl) rfl ?_
      refine r_ltE (fun xq6 exq6 => ?_)
      refine r_iinc (pc := 186) (v := xq6) (lv1 := [some (.ref 383), none, none, none, some (.int a4), some (.int xq6), some (.int xq5), some (.int x7), some (.int x8)]) d_M_plan_186 rfl exq6.symm (Nat.le_of_ble_eq_true rfl) rfl ?_
      refine r_goto (pc := 189) (tgt := 99) d_M_plan_189 (by rfl) ?_
      exact r_wk (hk99 xq6 xq5 hq3) ⟨rfl, ⟨rfl, ⟨rfl, ⟨rfl, trivial⟩⟩⟩⟩
    · refine r_aload_n (pc := 117) (i := 0) d_M_plan_117 rfl rfl ?_
      refine r_getf (pc := 118) (ci := 12) (k := 56) (C := "CricketHayModel") (T := F_12) (N := 73) (v := .ref 409) (fun s => Std.k s (lc hn rfl) kq_383) rfl (Nat.le_of_ble_eq_true rfl) rfl w_1142 (fun s => vr rfl (Std.r s (lc hn rfl) rq_383_56)) d_M_plan_118 ?_
      refine r_iload (pc := 121) d_M_plan_121 rfl ?_
      refine r_gx (fun zq7 => ?_)
      refine r_iald (pc := 123) (n := 12) (i0 := (ix x8)) (fun s => Std.k s (lc hn rfl) kq_409) zq7 rfl d_M_plan_123 ?_
      refine r_aload_n (pc := 124) (i := 0) d_M_plan_124 rfl rfl ?_
      refine r_getf (pc := 125) (ci := 12) (k := 46) (C := "CricketHayModel") (T := F_12) (N := 73) (v := .int (hI h 383 46)) (fun s => Std.k s (lc hn rfl) kq_383) rfl (Nat.le_of_ble_eq_true rfl) rfl w_1132 (fun _ => rfl) d_M_plan_125 ?_
      refine r_icmp_ge (pc := 128) (tgt := 157) d_M_plan_128 (by rfl) ?_ ?_
      · refine r_ltE (fun xq8 exq8 => ?_)
        refine r_iinc (pc := 157) (v := xq8) (lv1 := [some (.ref 383), none, none, none, some (.int a4), some (.int x5), some (.int x6), some (.int x7), some (.int xq8)]) d_M_plan_157 rfl exq8.symm (Nat.le_of_ble_eq_true rfl) rfl ?_
        refine r_goto (pc := 160) (tgt := 110) d_M_plan_160 (by rfl) ?_
        exact r_wk (ih x5 x6 x7 xq8 h) ⟨rfl, ⟨rfl, ⟨rfl, ⟨rfl, ⟨rfl, ⟨rfl, trivial⟩⟩⟩⟩⟩⟩
      · refine r_iload (pc := 131) d_M_plan_131 rfl ?_
        refine r_if_lt (pc := 133) (tgt := 153) d_M_plan_133 (by rfl) ?_ ?_
        · refine r_iload (pc := 153) d_M_plan_153 rfl ?_
          refine r_istore (pc := 155) (lv1 := [some (.ref 383), none, none, none, some (.int a4), some (.int x5), some (.int x6), some (.int x8), some (.int x8)]) d_M_plan_155 (Nat.le_of_ble_eq_true rfl) rfl ?_
          refine r_ltE (fun xq9 exq9 => ?_)
          refine r_iinc (pc := 157) (v := xq9) (lv1 := [some (.ref 383), none, none, none, some (.int a4), some (.int x5), some (.int x6), some (.int x8), some (.int xq9)]) d_M_plan_157 rfl exq9.symm (Nat.le_of_ble_eq_true rfl) rfl ?_
          refine r_goto (pc := 160) (tgt := 110) d_M_plan_160 (by rfl) ?_
          exact r_wk (ih x5 x6 x8 xq9 h) ⟨rfl, ⟨rfl, ⟨rfl, ⟨rfl, ⟨rfl, ⟨rfl, trivial⟩⟩⟩⟩⟩⟩
        · refine r_aload_n (pc := 136) (i := 0) d_M_plan_136 rfl rfl ?_
          refine r_getf (pc := 137) (ci := 12) (k := 55) (C := "CricketHayModel") (T := F_12) (N := 73) (v := .ref 408) (fun s => Std.k s (lc hn rfl) kq_383) rfl (Nat.le_of_ble_eq_true rfl) rfl w_1141 (fun s => vr rfl (Std.r s (lc hn rfl) rq_383_55)) d_M_plan_137 ?_
          refine r_iload (pc := 140) d_M_plan_140 rfl ?_
          refine r_gx (fun zq10 => ?_)
          refine r_iald (pc := 142) (n := 12) (i0 := (ix x8)) (fun s => Std.k s (lc hn rfl) kq_408) zq10 rfl d_M_plan_142 ?_
          refine r_aload_n (pc := 143) (i := 0) d_M_plan_143 rfl rfl ?_
          refine r_getf (pc := 144) (ci := 12) (k := 55) (C := "CricketHayModel") (T := F_12) (N := 73) (v := .ref 408) (fun s => Std.k s (lc hn rfl) kq_383) rfl (Nat.le_of_ble_eq_true rfl) rfl w_1141 (fun s => vr rfl (Std.r s (lc hn rfl) rq_383_55)) d_M_plan_144 ?_
          refine r_iload (pc := 147) d_M_plan_147 rfl ?_
          refine r_gx (fun zq11 => ?_)
          refine r_iald (pc := 149) (n := 12) (i0 := (ix x7)) (fun s => Std.k s (lc hn rfl) kq_408) zq11 rfl d_M_plan_149 ?_
          refine r_icmp_ge (pc := 150) (tgt := 157) d_M_plan_150 (by rfl) ?_ ?_
          · refine r_ltE (fun xq12 exq12 => ?_)
            refine r_iinc (pc := 157) (v := xq12) (lv1 := [some (.ref 383), none, none, none, some (.int a4), some (.int x5), some (.int x6), some (.int x7), some (.int xq12)]) d_M_plan_157 rfl exq12.symm (Nat.le_of_ble_eq_true rfl) rfl ?_
            refine r_goto (pc := 160) (tgt := 110) d_M_plan_160 (by rfl) ?_
            exact r_wk (ih x5 x6 x7 xq12 h) ⟨rfl, ⟨rfl, ⟨rfl, ⟨rfl, ⟨rfl, ⟨rfl, trivial⟩⟩⟩⟩⟩⟩
          · refine r_iload (pc := 153) d_M_plan_153 rfl ?_
            refine r_istore (pc := 155) (lv1 := [some (.ref 383), none, none, none, some (.int a4), some (.int x5), some (.int x6), some (.int x8), some (.int x8)]) d_M_plan_155 (Nat.le_of_ble_eq_true rfl) rfl ?_
            refine r_ltE (fun xq13 exq13 => ?_)
            refine r_iinc (pc := 157) (v := xq13) (lv1 := [some (.ref 383), none, none, none, some (.int a4), some (.int x5), some (.int x6), some (.int x8), some (.int xq13)]) d_M_plan_157 rfl exq13.symm (Nat.le_of_ble_eq_true rfl) rfl ?_
            refine r_goto (pc := 160) (tgt := 110) d_M_plan_160 (by rfl) ?_
            exact r_wk (ih x5 x6 x8 xq13 h) ⟨rfl, ⟨rfl, ⟨rfl, ⟨rfl, ⟨rfl, ⟨rfl, trivial⟩⟩⟩⟩⟩⟩
def f_M_plan_l99  (a1 : Int32) (a2 : Int32) (a3 : Int32) (a4 : Int32)  : Nat → Int32 → Int32 → AH → Option (Int32 × AH)
  | 0, _, _, _ => none
  | n + 1, x5, x6, h =>
    if x5 ≤ 0 then
      lt (sI h 383 57 a4) fun hq1 =>
      some (x6, hq1)
    else
      f_M_plan_l110 a1 a2 a3 a4 (f_M_plan_l99 a1 a2 a3 a4 n) FU x5 x6 (-1 : Int32) (0 : Int32) h
set_option maxHeartbeats 2000000 in
theorem o_M_plan_l99 {G : AE} {n : Nat} (hn : NN ≤ n)  {a1 : Int32} {a2 : Int32} {a3 : Int32} {a4 : Int32}   : ∀ (n0 : Nat) (x5 : Int32) (x6 : Int32) (h : AH), AJ G n y_M_plan (7) φI 99 [some (.ref 383), none, none, none, some (.int a4), some (.int x5), some (.int x6), none, none] [] h (f_M_plan_l99 a1 a2 a3 a4 n0 x5 x6 h) := by
  intro n0
  induction n0 with
  | zero => intros; exact r_none
  | succ n0 ih =>
    intro x5 x6 h
    rw [f_M_plan_l99]
    refine r_iload (pc := 99) d_M_plan_99 rfl ?_
    refine r_if_le (pc := 101) (tgt := 192) d_M_plan_101 (by rfl) ?_ ?_
    · refine r_aload_n (pc := 192) (i := 0) d_M_plan_192 rfl rfl ?_
      refine r_iload (pc := 193) d_M_plan_193 rfl ?_
      refine r_putI (pc := 195) (ci := 12) (k := 57) (C := "CricketHayModel") (T := F_12) (N := 73) (fun s => Std.k s (lc hn rfl) kq_383) rfl (Nat.le_of_ble_eq_true rfl) rfl rfl w_1143 (fun _ _ => rfl) (fun _ => rfl) (fun _ => rfl) (fun s => Std.sI s _ _ _) d_M_plan_195 ?_
      refine r_ltH (fun hq1 => ?_)
      refine r_iload (pc := 198) d_M_plan_198 rfl ?_
      exact r_iret (pc := 200) rfl d_M_plan_200
    · refine r_iconst (pc := 104) (v := -1) d_M_plan_104 (by rfl) ?_
      refine r_istore (pc := 105) (lv1 := [some (.ref 383), none, none, none, some (.int a4), some (.int x5), some (.int x6), some (.int (-1 : Int32)), none]) d_M_plan_105 (Nat.le_of_ble_eq_true rfl) rfl ?_
      refine r_iconst (pc := 107) (v := 0) d_M_plan_107 (by rfl) ?_
      refine r_istore (pc := 108) (lv1 := [some (.ref 383), none, none, none, some (.int a4), some (.int x5), some (.int x6), some (.int (-1 : Int32)), some (.int (0 : Int32))]) d_M_plan_108 (Nat.le_of_ble_eq_true rfl) rfl ?_
      exact r_wk (o_M_plan_l110 hn ih FU x5 x6 (-1 : Int32) (0 : Int32) h) ⟨rfl, ⟨rfl, ⟨rfl, ⟨rfl, ⟨rfl, ⟨rfl, trivial⟩⟩⟩⟩⟩⟩
def f_M_plan_l55  (a1 : Int32) (a2 : Int32) (a3 : Int32) (a4 : Int32)  : Nat → Int32 → AH → Option (Int32 × AH)
  | 0, _, _ => none
  | n + 1, x5, h =>
    if a4 ≤ x5 then
      f_M_plan_l99 a1 a2 a3 a4 FU a3 (0 : Int32) h
    else
      bI (f_M_priceOf a1 a2 h) fun rq1 hq2 =>
      gx x5 12 <|
      lt (sI hq2 408 (ix x5) rq1) fun hq4 =>
      gx x5 12 <|
      lt (sI hq4 409 (ix x5) (0 : Int32)) fun hq6 =>
      bV (f_M_goHour hq6) fun hq7 =>
      lt (x5 + (1 : Int32)) fun xq8 =>
      f_M_plan_l55 a1 a2 a3 a4 n xq8 hq7
set_option maxHeartbeats 2000000 in
theorem o_M_plan_l55 {G : AE} {n : Nat} (hn : NN ≤ n)  {a1 : Int32} {a2 : Int32} {a3 : Int32} {a4 : Int32}   : ∀ (n0 : Nat) (x5 : Int32) (h : AH), AJ G n y_M_plan (7) φI 55 [some (.ref 383), some (.int a1), some (.int a2), some (.int a3), some (.int a4), some (.int x5), none, none, none] [] h (f_M_plan_l55 a1 a2 a3 a4 n0 x5 h) := by
  intro n0
  induction n0 with
  | zero => intros; exact r_none
  | succ n0 ih =>
    intro x5 h
    rw [f_M_plan_l55]
    refine r_iload (pc := 55) d_M_plan_55 rfl ?_
    refine r_iload (pc := 57) d_M_plan_57 rfl ?_
    refine r_icmp_ge (pc := 59) (tgt := 93) d_M_plan_59 (by rfl) ?_ ?_
    · refine r_iload_n (pc := 93) (i := 3) d_M_plan_93 rfl rfl ?_
      refine r_istore (pc := 94) (lv1 := [some (.ref 383), some (.int a1), some (.int a2), some (.int a3), some (.int a4), some (.int a3), none, none, none]) d_M_plan_94 (Nat.le_of_ble_eq_true rfl) rfl ?_
      refine r_iconst (pc := 96) (v := 0) d_M_plan_96 (by rfl) ?_
      refine r_istore (pc := 97) (lv1 := [some (.ref 383), some (.int a1), some (.int a2), some (.int a3), some (.int a4), some (.int a3), some (.int (0 : Int32)), none, none]) d_M_plan_97 (Nat.le_of_ble_eq_true rfl) rfl ?_
      exact r_wk (o_M_plan_l99 hn FU a3 (0 : Int32) h) ⟨rfl, ⟨rfl, ⟨rfl, ⟨rfl, trivial⟩⟩⟩⟩
    · refine r_aload_n (pc := 62) (i := 0) d_M_plan_62 rfl rfl ?_
      refine r_getf (pc := 63) (ci := 12) (k := 55) (C := "CricketHayModel") (T := F_12) (N := 73) (v := .ref 408) (fun s => Std.k s (lc hn rfl) kq_383) rfl (Nat.le_of_ble_eq_true rfl) rfl w_1141 (fun s => vr rfl (Std.r s (lc hn rfl) rq_383_55)) d_M_plan_63 ?_
      refine r_iload (pc := 66) d_M_plan_66 rfl ?_
      refine r_aload_n (pc := 68) (i := 0) d_M_plan_68 rfl rfl ?_
      refine r_iload_n (pc := 69) (i := 1) d_M_plan_69 rfl rfl ?_
      refine r_iload_n (pc := 70) (i := 2) d_M_plan_70 rfl rfl ?_
      refine r_cVi (pc := 71) (T := F_12) (N := 73) (st := [.int x5, .ref 408]) (ok_M_priceOf hn a1 a2 h) (fun s => Std.k s (lc hn rfl) kq_383) rfl w_1536 w_13 w_1533 w_1535 ws_85 hy_M_priceOf ⟨Nat.le_of_ble_eq_true rfl, Nat.le_of_ble_eq_true rfl⟩ ⟨Nat.le_of_ble_eq_true rfl, Nat.le_of_ble_eq_true rfl⟩ rfl (Nat.le_of_ble_eq_true rfl) d_M_plan_71 (fun rq1 hq2 => ?_)
      refine r_gx (fun zq3 => ?_)
      refine r_iast (pc := 74) (n := 12) (i0 := (ix x5)) (fun s => Std.k s (lc hn rfl) kq_408) zq3 rfl (fun s => Std.sI s _ _ _) d_M_plan_74 ?_
      refine r_ltH (fun hq4 => ?_)
      refine r_aload_n (pc := 75) (i := 0) d_M_plan_75 rfl rfl ?_
      refine r_getf (pc := 76) (ci := 12) (k := 56) (C := "CricketHayModel") (T := F_12) (N := 73) (v := .ref 409) (fun s => Std.k s (lc hn rfl) kq_383) rfl (Nat.le_of_ble_eq_true rfl) rfl w_1142 (fun s => vr rfl (Std.r s (lc hn rfl) rq_383_56)) d_M_plan_76 ?_
      refine r_iload (pc := 79) d_M_plan_79 rfl ?_
      refine r_iconst (pc := 81) (v := 0) d_M_plan_81 (by rfl) ?_
      refine r_gx (fun zq5 => ?_)
      refine r_iast (pc := 82) (n := 12) (i0 := (ix x5)) (fun s => Std.k s (lc hn rfl) kq_409) zq5 rfl (fun s => Std.sI s _ _ _) d_M_plan_82 ?_
      refine r_ltH (fun hq6 => ?_)
      refine r_aload_n (pc := 83) (i := 0) d_M_plan_83 rfl rfl ?_
      refine r_cVv (pc := 84) (T := F_12) (N := 73) (st := []) (ok_M_goHour hn hq6) (fun s => Std.k s (lc hn rfl) kq_383) rfl w_1580 w_13 w_1577 w_1579 ws_89 hy_M_goHour ⟨Nat.le_of_ble_eq_true rfl, Nat.le_of_ble_eq_true rfl⟩ ⟨Nat.le_of_ble_eq_true rfl, Nat.le_of_ble_eq_true rfl⟩ rfl (Nat.le_of_ble_eq_true rfl) d_M_plan_84 (fun hq7 => ?_)
      refine r_ltE (fun xq8 exq8 => ?_)
      refine r_iinc (pc := 87) (v := xq8) (lv1 := [some (.ref 383), some (.int a1), some (.int a2), some (.int a3), some (.int a4), some (.int xq8), none, none, none]) d_M_plan_87 rfl exq8.symm (Nat.le_of_ble_eq_true rfl) rfl ?_
      refine r_goto (pc := 90) (tgt := 55) d_M_plan_90 (by rfl) ?_
      exact r_wk (ih xq8 hq7) ⟨rfl, ⟨rfl, ⟨rfl, ⟨rfl, ⟨rfl, ⟨rfl, trivial⟩⟩⟩⟩⟩⟩
def f_M_plan  (a1 : Int32) (a2 : Int32) (a3 : Int32) (a4 : Int32) (h : AH) : Option (Int32 × AH) :=
  lt (sI h 383 57 (0 : Int32)) fun hq1 =>
  bI (f_M_areTwo a1 a2 hq1) fun rq2 hq3 =>
  if rq2 = 0 then
    some ((-1 : Int32), hq3)
  else
    bI (f_M_isIn a3 (1 : Int32) (20 : Int32) hq3) fun rq4 hq5 =>
    if rq4 = 0 then
      some ((-1 : Int32), hq5)
    else
      bI (f_M_isIn a4 (1 : Int32) (12 : Int32) hq5) fun rq6 hq7 =>
      if rq6 = 0 then
        some ((-1 : Int32), hq7)
      else
        if a3 ≤ ((hI hq7 383 46) * a4) then
          bV (f_M_load hq7) fun hq8 =>
          f_M_plan_l55 a1 a2 a3 a4 FU (0 : Int32) hq8
        else
          some ((-1 : Int32), hq7)
set_option maxHeartbeats 2000000 in
theorem ok_M_plan {G : AE} {n : Nat} (hn : NN ≤ n)  (a1 : Int32) (a2 : Int32) (a3 : Int32) (a4 : Int32) (h : AH) : OK G n y_M_plan (7) φI [.ref 383, .int a1, .int a2, .int a3, .int a4] h (f_M_plan a1 a2 a3 a4 h) := by
  refine ok_of (y := y_M_plan) (lv0 := [some (.ref 383), some (.int a1), some (.int a2), some (.int a3), some (.int a4), none, none, none, none]) (by decide +kernel) (Nat.le_of_ble_eq_true rfl) ⟨rfl, ⟨rfl, ⟨rfl, ⟨rfl, ⟨rfl, trivial⟩⟩⟩⟩⟩ ?_
  rw [f_M_plan]
  refine r_aload_n (pc := 0) (i := 0) d_M_plan_0 rfl rfl ?_
  refine r_iconst (pc := 1) (v := 0) d_M_plan_1 (by rfl) ?_
  refine r_putI (pc := 2) (ci := 12) (k := 57) (C := "CricketHayModel") (T := F_12) (N := 73) (fun s => Std.k s (lc hn rfl) kq_383) rfl (Nat.le_of_ble_eq_true rfl) rfl rfl w_1143 (fun _ _ => rfl) (fun _ => rfl) (fun _ => rfl) (fun s => Std.sI s _ _ _) d_M_plan_2 ?_
  refine r_ltH (fun hq1 => ?_)
  refine r_aload_n (pc := 5) (i := 0) d_M_plan_5 rfl rfl ?_
  refine r_iload_n (pc := 6) (i := 1) d_M_plan_6 rfl rfl ?_
  refine r_iload_n (pc := 7) (i := 2) d_M_plan_7 rfl rfl ?_
  refine r_cVi (pc := 8) (T := F_12) (N := 73) (st := []) (ok_M_areTwo hn a1 a2 hq1) (fun s => Std.k s (lc hn rfl) kq_383) rfl w_1532 w_13 w_1529 w_1531 ws_84 hy_M_areTwo ⟨Nat.le_of_ble_eq_true rfl, Nat.le_of_ble_eq_true rfl⟩ ⟨Nat.le_of_ble_eq_true rfl, Nat.le_of_ble_eq_true rfl⟩ rfl (Nat.le_of_ble_eq_true rfl) d_M_plan_8 (fun rq2 hq3 => ?_)
  refine r_if_eq (pc := 11) (tgt := 46) d_M_plan_11 (by rfl) ?_ ?_
  · refine r_iconst (pc := 46) (v := -1) d_M_plan_46 (by rfl) ?_
    exact r_iret (pc := 47) rfl d_M_plan_47
  · refine r_iload_n (pc := 14) (i := 3) d_M_plan_14 rfl rfl ?_
    refine r_iconst (pc := 15) (v := 1) d_M_plan_15 (by rfl) ?_
    refine r_bipush (pc := 16) (v := 20) d_M_plan_16 (by rfl) ?_
    refine r_cSi (pc := 18) (st := []) (ok_M_isIn hn a3 (1 : Int32) (20 : Int32) hq3) w_1479 w_13 w_1477 w_1478 hy_M_isIn ⟨Nat.le_of_ble_eq_true rfl, Nat.le_of_ble_eq_true rfl⟩ ⟨Nat.le_of_ble_eq_true rfl, Nat.le_of_ble_eq_true rfl⟩ rfl (Nat.le_of_ble_eq_true rfl) d_M_plan_18 (fun rq4 hq5 => ?_)
    refine r_if_eq (pc := 21) (tgt := 46) d_M_plan_21 (by rfl) ?_ ?_
    · refine r_iconst (pc := 46) (v := -1) d_M_plan_46 (by rfl) ?_
      exact r_iret (pc := 47) rfl d_M_plan_47
    · refine r_iload (pc := 24) d_M_plan_24 rfl ?_
      refine r_iconst (pc := 26) (v := 1) d_M_plan_26 (by rfl) ?_
      refine r_bipush (pc := 27) (v := 12) d_M_plan_27 (by rfl) ?_
      refine r_cSi (pc := 29) (st := []) (ok_M_isIn hn a4 (1 : Int32) (12 : Int32) hq5) w_1479 w_13 w_1477 w_1478 hy_M_isIn ⟨Nat.le_of_ble_eq_true rfl, Nat.le_of_ble_eq_true rfl⟩ ⟨Nat.le_of_ble_eq_true rfl, Nat.le_of_ble_eq_true rfl⟩ rfl (Nat.le_of_ble_eq_true rfl) d_M_plan_29 (fun rq6 hq7 => ?_)
      refine r_if_eq (pc := 32) (tgt := 46) d_M_plan_32 (by rfl) ?_ ?_
      · refine r_iconst (pc := 46) (v := -1) d_M_plan_46 (by rfl) ?_
        exact r_iret (pc := 47) rfl d_M_plan_47
      · refine r_aload_n (pc := 35) (i := 0) d_M_plan_35 rfl rfl ?_
        refine r_getf (pc := 36) (ci := 12) (k := 46) (C := "CricketHayModel") (T := F_12) (N := 73) (v := .int (hI hq7 383 46)) (fun s => Std.k s (lc hn rfl) kq_383) rfl (Nat.le_of_ble_eq_true rfl) rfl w_1132 (fun _ => rfl) d_M_plan_36 ?_
        refine r_iload (pc := 39) d_M_plan_39 rfl ?_
        refine r_imul (pc := 41) d_M_plan_41 ?_
        refine r_iload_n (pc := 42) (i := 3) d_M_plan_42 rfl rfl ?_
        refine r_icmp_ge (pc := 43) (tgt := 48) d_M_plan_43 (by rfl) ?_ ?_
        · refine r_aload_n (pc := 48) (i := 0) d_M_plan_48 rfl rfl ?_
          refine r_cVv (pc := 49) (T := F_12) (N := 73) (st := []) (ok_M_load hn hq7) (fun s => Std.k s (lc hn rfl) kq_383) rfl w_1483 w_13 w_1480 w_1482 ws_76 hy_M_load ⟨Nat.le_of_ble_eq_true rfl, Nat.le_of_ble_eq_true rfl⟩ ⟨Nat.le_of_ble_eq_true rfl, Nat.le_of_ble_eq_true rfl⟩ rfl (Nat.le_of_ble_eq_true rfl) d_M_plan_49 (fun hq8 => ?_)
          refine r_iconst (pc := 52) (v := 0) d_M_plan_52 (by rfl) ?_
          refine r_istore (pc := 53) (lv1 := [some (.ref 383), some (.int a1), some (.int a2), some (.int a3), some (.int a4), some (.int (0 : Int32)), none, none, none]) d_M_plan_53 (Nat.le_of_ble_eq_true rfl) rfl ?_
          exact r_wk (o_M_plan_l55 hn FU (0 : Int32) hq8) ⟨rfl, ⟨rfl, ⟨rfl, ⟨rfl, ⟨rfl, ⟨rfl, trivial⟩⟩⟩⟩⟩⟩
        · refine r_iconst (pc := 46) (v := -1) d_M_plan_46 (by rfl) ?_
          exact r_iret (pc := 47) rfl d_M_plan_47

def f_M_gain_l38  (a1 : Int32) (k27 : Int32 → Int32 → AH → Option (Int32 × AH)) : Nat → Int32 → Int32 → Int32 → AH → Option (Int32 × AH)
  | 0, _, _, _, _ => none
  | n + 1, x2, x3, x4, h =>
    if (hI h 383 43) ≤ x4 then
      lt (x3 + (1 : Int32)) fun xq1 =>
      k27 x2 xq1 h
    else
      if x3 = a1 then
        lt (x4 + (1 : Int32)) fun xq2 =>
        f_M_gain_l38 a1 k27 n x2 x3 xq2 h
      else
        if x4 = a1 then
          lt (x4 + (1 : Int32)) fun xq3 =>
          f_M_gain_l38 a1 k27 n x2 x3 xq3 h
        else
          if x3 = x4 then
            lt (x4 + (1 : Int32)) fun xq4 =>
            f_M_gain_l38 a1 k27 n x2 x3 xq4 h
          else
            gx ((6 : Int32) + x3) 35 <|
            if (hI h 406 (ix ((6 : Int32) + x3))) = 0 then
              lt (x4 + (1 : Int32)) fun xq6 =>
              f_M_gain_l38 a1 k27 n x2 x3 xq6 h
            else
              bI (f_M_priceOf a1 x3 h) fun rq7 hq8 =>
              gx a1 35 <|
              if (hI hq8 406 (ix a1)) < rq7 then
                lt (x4 + (1 : Int32)) fun xq10 =>
                f_M_gain_l38 a1 k27 n x2 x3 xq10 hq8
              else
                bI (f_M_priceOf a1 x4 hq8) fun rq11 hq12 =>
                gx x4 35 <|
                if rq11 ≤ (hI hq12 406 (ix x4)) then
                  bI (f_M_priceOf a1 x4 hq12) fun rq14 hq15 =>
                  bI (f_M_priceOf a1 x3 hq15) fun rq16 hq17 =>
                  lt (rq14 - rq16) fun xq18 =>
                  if x2 < xq18 then
                    lt (sI hq17 409 0 x3) fun hq19 =>
                    lt (sI hq19 409 1 x4) fun hq20 =>
                    lt (x4 + (1 : Int32)) fun xq21 =>
                    f_M_gain_l38 a1 k27 n xq18 x3 xq21 hq20
                  else
                    lt (x4 + (1 : Int32)) fun xq22 =>
                    f_M_gain_l38 a1 k27 n x2 x3 xq22 hq17
                else
                  lt (x4 + (1 : Int32)) fun xq23 =>
                  f_M_gain_l38 a1 k27 n x2 x3 xq23 hq12
set_option maxHeartbeats 2000000 in
theorem o_M_gain_l38 {G : AE} {n : Nat} (hn : NN ≤ n)  {a1 : Int32}  {k27 : Int32 → Int32 → AH → Option (Int32 × AH)} (hk27 : ∀ (x2 : Int32) (x3 : Int32) (h : AH), AJ G n y_M_gain (7) φI 27 [some (.ref 383), some (.int a1), some (.int x2), some (.int x3), none, none] [] h (k27 x2 x3 h)) : ∀ (n0 : Nat) (x2 : Int32) (x3 : Int32) (x4 : Int32) (h : AH), AJ G n y_M_gain (7) φI 38 [some (.ref 383), some (.int a1), some (.int x2), some (.int x3), some (.int x4), none] [] h (f_M_gain_l38 a1 k27 n0 x2 x3 x4 h) := by
  intro n0
  induction n0 with
  | zero => intros; exact r_none
  | succ n0 ih =>
    intro x2 x3 x4 h
    rw [f_M_gain_l38]
    refine r_iload (pc := 38) d_M_gain_38 rfl ?_
    refine r_aload_n (pc := 40) (i := 0) d_M_gain_40 rfl rfl ?_
    refine r_getf (pc := 41) (ci := 12) (k := 43) (C := "CricketHayModel") (T := F_12) (N := 73) (v := .int (hI h 383 43)) (fun s => Std.k s (lc hn rfl) kq_383) rfl (Nat.le_of_ble_eq_true rfl) rfl w_1129 (fun _ => rfl) d_M_gain_41 ?_
    refine r_icmp_ge (pc := 44) (tgt := 160) d_M_gain_44 (by rfl) ?_ ?_
    · refine r_ltE (fun xq1 exq1 => ?_)
      refine r_iinc (pc := 160) (v := xq1) (lv1 := [some (.ref 383), some (.int a1), some (.int x2), some (.int xq1), some (.int x4), none]) d_M_gain_160 rfl exq1.symm (Nat.le_of_ble_eq_true rfl) rfl ?_
      refine r_goto (pc := 163) (tgt := 27) d_M_gain_163 (by rfl) ?_
      exact r_wk (hk27 x2 xq1 h) ⟨rfl, ⟨rfl, ⟨rfl, ⟨rfl, trivial⟩⟩⟩⟩
    · refine r_iload_n (pc := 47) (i := 3) d_M_gain_47 rfl rfl ?_
      refine r_iload_n (pc := 48) (i := 1) d_M_gain_48 rfl rfl ?_
      refine r_icmp_eq (pc := 49) (tgt := 154) d_M_gain_49 (by rfl) ?_ ?_
      · refine r_ltE (fun xq2 exq2 => ?_)
        refine r_iinc (pc := 154) (v := xq2) (lv1 := [some (.ref 383), some (.int a1), some (.int x2), some (.int x3), some (.int xq2), none]) d_M_gain_154 rfl exq2.symm (Nat.le_of_ble_eq_true rfl) rfl ?_
        refine r_goto (pc := 157) (tgt := 38) d_M_gain_157 (by rfl) ?_
        exact r_wk (ih x2 x3 xq2 h) ⟨rfl, ⟨rfl, ⟨rfl, ⟨rfl, ⟨rfl, trivial⟩⟩⟩⟩⟩
      · refine r_iload (pc := 52) d_M_gain_52 rfl ?_
        refine r_iload_n (pc := 54) (i := 1) d_M_gain_54 rfl rfl ?_
        refine r_icmp_eq (pc := 55) (tgt := 154) d_M_gain_55 (by rfl) ?_ ?_
        · refine r_ltE (fun xq3 exq3 => ?_)
          refine r_iinc (pc := 154) (v := xq3) (lv1 := [some (.ref 383), some (.int a1), some (.int x2), some (.int x3), some (.int xq3), none]) d_M_gain_154 rfl exq3.symm (Nat.le_of_ble_eq_true rfl) rfl ?_
          refine r_goto (pc := 157) (tgt := 38) d_M_gain_157 (by rfl) ?_
          exact r_wk (ih x2 x3 xq3 h) ⟨rfl, ⟨rfl, ⟨rfl, ⟨rfl, ⟨rfl, trivial⟩⟩⟩⟩⟩
        · refine r_iload_n (pc := 58) (i := 3) d_M_gain_58 rfl rfl ?_
          refine r_iload (pc := 59) d_M_gain_59 rfl ?_
          refine r_icmp_eq (pc := 61) (tgt := 154) d_M_gain_61 (by rfl) ?_ ?_
          · refine r_ltE (fun xq4 exq4 => ?_)
            refine r_iinc (pc := 154) (v := xq4) (lv1 := [some (.ref 383), some (.int a1), some (.int x2), some (.int x3), some (.int xq4), none]) d_M_gain_154 rfl exq4.symm (Nat.le_of_ble_eq_true rfl) rfl ?_
            refine r_goto (pc := 157) (tgt := 38) d_M_gain_157 (by rfl) ?_
            exact r_wk (ih x2 x3 xq4 h) ⟨rfl, ⟨rfl, ⟨rfl, ⟨rfl, ⟨rfl, trivial⟩⟩⟩⟩⟩
          · refine r_aload_n (pc := 64) (i := 0) d_M_gain_64 rfl rfl ?_
            refine r_getf (pc := 65) (ci := 12) (k := 51) (C := "CricketHayModel") (T := F_12) (N := 73) (v := .ref 406) (fun s => Std.k s (lc hn rfl) kq_383) rfl (Nat.le_of_ble_eq_true rfl) rfl w_1137 (fun s => vr rfl (Std.r s (lc hn rfl) rq_383_51)) d_M_gain_65 ?_
            refine r_bipush (pc := 68) (v := 6) d_M_gain_68 (by rfl) ?_
            refine r_iload_n (pc := 70) (i := 3) d_M_gain_70 rfl rfl ?_
            refine r_iadd (pc := 71) d_M_gain_71 ?_
            refine r_gx (fun zq5 => ?_)
            refine r_iald (pc := 72) (n := 35) (i0 := (ix ((6 : Int32) + x3))) (fun s => Std.k s (lc hn rfl) kq_406) zq5 rfl d_M_gain_72 ?_
            refine r_if_eq (pc := 73) (tgt := 154) d_M_gain_73 (by rfl) ?_ ?_
            · refine r_ltE (fun xq6 exq6 => ?_)
              refine r_iinc (pc := 154) (v := xq6) (lv1 := [some (.ref 383), some (.int a1), some (.int x2), some (.int x3), some (.int xq6), none]) d_M_gain_154 rfl exq6.symm (Nat.le_of_ble_eq_true rfl) rfl ?_
              refine r_goto (pc := 157) (tgt := 38) d_M_gain_157 (by rfl) ?_
              exact r_wk (ih x2 x3 xq6 h) ⟨rfl, ⟨rfl, ⟨rfl, ⟨rfl, ⟨rfl, trivial⟩⟩⟩⟩⟩
            · refine r_aload_n (pc := 76) (i := 0) d_M_gain_76 rfl rfl ?_
              refine r_iload_n (pc := 77) (i := 1) d_M_gain_77 rfl rfl ?_
              refine r_iload_n (pc := 78) (i := 3) d_M_gain_78 rfl rfl ?_
              refine r_cVi (pc := 79) (T := F_12) (N := 73) (st := []) (ok_M_priceOf hn a1 x3 h) (fun s => Std.k s (lc hn rfl) kq_383) rfl w_1536 w_13 w_1533 w_1535 ws_85 hy_M_priceOf ⟨Nat.le_of_ble_eq_true rfl, Nat.le_of_ble_eq_true rfl⟩ ⟨Nat.le_of_ble_eq_true rfl, Nat.le_of_ble_eq_true rfl⟩ rfl (Nat.le_of_ble_eq_true rfl) d_M_gain_79 (fun rq7 hq8 => ?_)
              refine r_aload_n (pc := 82) (i := 0) d_M_gain_82 rfl rfl ?_
              refine r_getf (pc := 83) (ci := 12) (k := 51) (C := "CricketHayModel") (T := F_12) (N := 73) (v := .ref 406) (fun s => Std.k s (lc hn rfl) kq_383) rfl (Nat.le_of_ble_eq_true rfl) rfl w_1137 (fun s => vr rfl (Std.r s (lc hn rfl) rq_383_51)) d_M_gain_83 ?_
              refine r_iload_n (pc := 86) (i := 1) d_M_gain_86 rfl rfl ?_
              refine r_gx (fun zq9 => ?_)
              refine r_iald (pc := 87) (n := 35) (i0 := (ix a1)) (fun s => Std.k s (lc hn rfl) kq_406) zq9 rfl d_M_gain_87 ?_
              refine r_icmp_gt (pc := 88) (tgt := 154) d_M_gain_88 (by rfl) ?_ ?_
              · refine r_ltE (fun xq10 exq10 => ?_)
                refine r_iinc (pc := 154) (v := xq10) (lv1 := [some (.ref 383), some (.int a1), some (.int x2), some (.int x3), some (.int xq10), none]) d_M_gain_154 rfl exq10.symm (Nat.le_of_ble_eq_true rfl) rfl ?_
                refine r_goto (pc := 157) (tgt := 38) d_M_gain_157 (by rfl) ?_
                exact r_wk (ih x2 x3 xq10 hq8) ⟨rfl, ⟨rfl, ⟨rfl, ⟨rfl, ⟨rfl, trivial⟩⟩⟩⟩⟩
              · refine r_aload_n (pc := 91) (i := 0) d_M_gain_91 rfl rfl ?_
                refine r_iload_n (pc := 92) (i := 1) d_M_gain_92 rfl rfl ?_
                refine r_iload (pc := 93) d_M_gain_93 rfl ?_
                refine r_cVi (pc := 95) (T := F_12) (N := 73) (st := []) (ok_M_priceOf hn a1 x4 hq8) (fun s => Std.k s (lc hn rfl) kq_383) rfl w_1536 w_13 w_1533 w_1535 ws_85 hy_M_priceOf ⟨Nat.le_of_ble_eq_true rfl, Nat.le_of_ble_eq_true rfl⟩ ⟨Nat.le_of_ble_eq_true rfl, Nat.le_of_ble_eq_true rfl⟩ rfl (Nat.le_of_ble_eq_true rfl) d_M_gain_95 (fun rq11 hq12 => ?_)
                refine r_aload_n (pc := 98) (i := 0) d_M_gain_98 rfl rfl ?_
                refine r_getf (pc := 99) (ci := 12) (k := 51) (C := "CricketHayModel") (T := F_12) (N := 73) (v := .ref 406) (fun s => Std.k s (lc hn rfl) kq_383) rfl (Nat.le_of_ble_eq_true rfl) rfl w_1137 (fun s => vr rfl (Std.r s (lc hn rfl) rq_383_51)) d_M_gain_99 ?_
                refine r_iload (pc := 102) d_M_gain_102 rfl ?_
                refine r_gx (fun zq13 => ?_)
                refine r_iald (pc := 104) (n := 35) (i0 := (ix x4)) (fun s => Std.k s (lc hn rfl) kq_406) zq13 rfl d_M_gain_104 ?_
                refine r_icmp_le (pc := 105) (tgt := 111) d_M_gain_105 (by rfl) ?_ ?_
                · refine r_aload_n (pc := 111) (i := 0) d_M_gain_111 rfl rfl ?_
                  refine r_iload_n (pc := 112) (i := 1) d_M_gain_112 rfl rfl ?_
                  refine r_iload (pc := 113) d_M_gain_113 rfl ?_
                  refine r_cVi (pc := 115) (T := F_12) (N := 73) (st := []) (ok_M_priceOf hn a1 x4 hq12) (fun s => Std.k s (lc hn rfl) kq_383) rfl w_1536 w_13 w_1533 w_1535 ws_85 hy_M_priceOf ⟨Nat.le_of_ble_eq_true rfl, Nat.le_of_ble_eq_true rfl⟩ ⟨Nat.le_of_ble_eq_true rfl, Nat.le_of_ble_eq_true rfl⟩ rfl (Nat.le_of_ble_eq_true rfl) d_M_gain_115 (fun rq14 hq15 => ?_)
                  refine r_aload_n (pc := 118) (i := 0) d_M_gain_118 rfl rfl ?_
                  refine r_iload_n (pc := 119) (i := 1) d_M_gain_119 rfl rfl ?_
                  refine r_iload_n (pc := 120) (i := 3) d_M_gain_120 rfl rfl ?_
                  refine r_cVi (pc := 121) (T := F_12) (N := 73) (st := [.int rq14]) (ok_M_priceOf hn a1 x3 hq15) (fun s => Std.k s (lc hn rfl) kq_383) rfl w_1536 w_13 w_1533 w_1535 ws_85 hy_M_priceOf ⟨Nat.le_of_ble_eq_true rfl, Nat.le_of_ble_eq_true rfl⟩ ⟨Nat.le_of_ble_eq_true rfl, Nat.le_of_ble_eq_true rfl⟩ rfl (Nat.le_of_ble_eq_true rfl) d_M_gain_121 (fun rq16 hq17 => ?_)
                  refine r_isub (pc := 124) d_M_gain_124 ?_
                  refine r_ltI (fun xq18 => ?_)
                  refine r_istore (pc := 125) (lv1 := [some (.ref 383), some (.int a1), some (.int x2), some (.int x3), some (.int x4), some (.int xq18)]) d_M_gain_125 (Nat.le_of_ble_eq_true rfl) rfl ?_
                  refine r_iload (pc := 127) d_M_gain_127 rfl ?_
                  refine r_iload_n (pc := 129) (i := 2) d_M_gain_129 rfl rfl ?_
                  refine r_icmp_gt (pc := 130) (tgt := 136) d_M_gain_130 (by rfl) ?_ ?_
                  · refine r_iload (pc := 136) d_M_gain_136 rfl ?_
                    refine r_istore_n (pc := 138) (i := 2) (lv1 := [some (.ref 383), some (.int a1), some (.int xq18), some (.int x3), some (.int x4), some (.int xq18)]) d_M_gain_138 rfl (Nat.le_of_ble_eq_true rfl) rfl ?_
                    refine r_aload_n (pc := 139) (i := 0) d_M_gain_139 rfl rfl ?_
                    refine r_getf (pc := 140) (ci := 12) (k := 56) (C := "CricketHayModel") (T := F_12) (N := 73) (v := .ref 409) (fun s => Std.k s (lc hn rfl) kq_383) rfl (Nat.le_of_ble_eq_true rfl) rfl w_1142 (fun s => vr rfl (Std.r s (lc hn rfl) rq_383_56)) d_M_gain_140 ?_
                    refine r_iconst (pc := 143) (v := 0) d_M_gain_143 (by rfl) ?_
                    refine r_iload_n (pc := 144) (i := 3) d_M_gain_144 rfl rfl ?_
                    refine r_iast (pc := 145) (n := 12) (i0 := 0) (fun s => Std.k s (lc hn rfl) kq_409) (vin (k := 0) rfl rfl) rfl (fun s => Std.sI s _ _ _) d_M_gain_145 ?_
                    refine r_ltH (fun hq19 => ?_)
                    refine r_aload_n (pc := 146) (i := 0) d_M_gain_146 rfl rfl ?_
                    refine r_getf (pc := 147) (ci := 12) (k := 56) (C := "CricketHayModel") (T := F_12) (N := 73) (v := .ref 409) (fun s => Std.k s (lc hn rfl) kq_383) rfl (Nat.le_of_ble_eq_true rfl) rfl w_1142 (fun s => vr rfl (Std.r s (lc hn rfl) rq_383_56)) d_M_gain_147 ?_
                    refine r_iconst (pc := 150) (v := 1) d_M_gain_150 (by rfl) ?_
                    refine r_iload (pc := 151) d_M_gain_151 rfl ?_
                    refine r_iast (pc := 153) (n := 12) (i0 := 1) (fun s => Std.k s (lc hn rfl) kq_409) (vin (k := 1) rfl rfl) rfl (fun s => Std.sI s _ _ _) d_M_gain_153 ?_
                    refine r_ltH (fun hq20 => ?_)
                    refine r_ltE (fun xq21 exq21 => ?_)
                    refine r_iinc (pc := 154) (v := xq21) (lv1 := [some (.ref 383), some (.int a1), some (.int xq18), some (.int x3), some (.int xq21), some (.int xq18)]) d_M_gain_154 rfl exq21.symm (Nat.le_of_ble_eq_true rfl) rfl ?_
                    refine r_goto (pc := 157) (tgt := 38) d_M_gain_157 (by rfl) ?_
                    exact r_wk (ih xq18 x3 xq21 hq20) ⟨rfl, ⟨rfl, ⟨rfl, ⟨rfl, ⟨rfl, trivial⟩⟩⟩⟩⟩
                  · refine r_goto (pc := 133) (tgt := 154) d_M_gain_133 (by rfl) ?_
                    refine r_ltE (fun xq22 exq22 => ?_)
                    refine r_iinc (pc := 154) (v := xq22) (lv1 := [some (.ref 383), some (.int a1), some (.int x2), some (.int x3), some (.int xq22), some (.int xq18)]) d_M_gain_154 rfl exq22.symm (Nat.le_of_ble_eq_true rfl) rfl ?_
                    refine r_goto (pc := 157) (tgt := 38) d_M_gain_157 (by rfl) ?_
                    exact r_wk (ih x2 x3 xq22 hq17) ⟨rfl, ⟨rfl, ⟨rfl, ⟨rfl, ⟨rfl, trivial⟩⟩⟩⟩⟩
                · refine r_goto (pc := 108) (tgt := 154) d_M_gain_108 (by rfl) ?_
                  refine r_ltE (fun xq23 exq23 => ?_)
                  refine r_iinc (pc := 154) (v := xq23) (lv1 := [some (.ref 383), some (.int a1), some (.int x2), some (.int x3), some (.int xq23), none]) d_M_gain_154 rfl exq23.symm (Nat.le_of_ble_eq_true rfl) rfl ?_
                  refine r_goto (pc := 157) (tgt := 38) d_M_gain_157 (by rfl) ?_
                  exact r_wk (ih x2 x3 xq23 hq12) ⟨rfl, ⟨rfl, ⟨rfl, ⟨rfl, ⟨rfl, trivial⟩⟩⟩⟩⟩
def f_M_gain_l27  (a1 : Int32)  : Nat → Int32 → Int32 → AH → Option (Int32 × AH)
  | 0, _, _, _ => none
  | n + 1, x2, x3, h =>
    if (hI h 383 43) ≤ x3 then
      if ¬ x2 = (-1000 : Int32) then
        lt (sI h 383 57 (2 : Int32)) fun hq1 =>
        some (x2, hq1)
      else
        lt (sI h 383 57 (0 : Int32)) fun hq2 =>
        some (x2, hq2)
    else
      f_M_gain_l38 a1 (f_M_gain_l27 a1 n) FU x2 x3 (0 : Int32) h
set_option maxHeartbeats 2000000 in
theorem o_M_gain_l27 {G : AE} {n : Nat} (hn : NN ≤ n)  {a1 : Int32}   : ∀ (n0 : Nat) (x2 : Int32) (x3 : Int32) (h : AH), AJ G n y_M_gain (7) φI 27 [some (.ref 383), some (.int a1), some (.int x2), some (.int x3), none, none] [] h (f_M_gain_l27 a1 n0 x2 x3 h) := by
  intro n0
  induction n0 with
  | zero => intros; exact r_none
  | succ n0 ih =>
    intro x2 x3 h
    rw [f_M_gain_l27]
    refine r_iload_n (pc := 27) (i := 3) d_M_gain_27 rfl rfl ?_
    refine r_aload_n (pc := 28) (i := 0) d_M_gain_28 rfl rfl ?_
    refine r_getf (pc := 29) (ci := 12) (k := 43) (C := "CricketHayModel") (T := F_12) (N := 73) (v := .int (hI h 383 43)) (fun s => Std.k s (lc hn rfl) kq_383) rfl (Nat.le_of_ble_eq_true rfl) rfl w_1129 (fun _ => rfl) d_M_gain_29 ?_
    refine r_icmp_ge (pc := 32) (tgt := 166) d_M_gain_32 (by rfl) ?_ ?_
    · refine r_aload_n (pc := 166) (i := 0) d_M_gain_166 rfl rfl ?_
      refine r_iload_n (pc := 167) (i := 2) d_M_gain_167 rfl rfl ?_
      refine r_sipush (pc := 168) (v := -1000) d_M_gain_168 (by rfl) ?_
      refine r_icmp_ne (pc := 171) (tgt := 178) d_M_gain_171 (by rfl) ?_ ?_
      · refine r_iconst (pc := 178) (v := 2) d_M_gain_178 (by rfl) ?_
        refine r_putI (pc := 179) (ci := 12) (k := 57) (C := "CricketHayModel") (T := F_12) (N := 73) (fun s => Std.k s (lc hn rfl) kq_383) rfl (Nat.le_of_ble_eq_true rfl) rfl rfl w_1143 (fun _ _ => rfl) (fun _ => rfl) (fun _ => rfl) (fun s => Std.sI s _ _ _) d_M_gain_179 ?_
        refine r_ltH (fun hq1 => ?_)
        refine r_iload_n (pc := 182) (i := 2) d_M_gain_182 rfl rfl ?_
        exact r_iret (pc := 183) rfl d_M_gain_183
      · refine r_iconst (pc := 174) (v := 0) d_M_gain_174 (by rfl) ?_
        refine r_goto (pc := 175) (tgt := 179) d_M_gain_175 (by rfl) ?_
        refine r_putI (pc := 179) (ci := 12) (k := 57) (C := "CricketHayModel") (T := F_12) (N := 73) (fun s => Std.k s (lc hn rfl) kq_383) rfl (Nat.le_of_ble_eq_true rfl) rfl rfl w_1143 (fun _ _ => rfl) (fun _ => rfl) (fun _ => rfl) (fun s => Std.sI s _ _ _) d_M_gain_179 ?_
        refine r_ltH (fun hq2 => ?_)
        refine r_iload_n (pc := 182) (i := 2) d_M_gain_182 rfl rfl ?_
        exact r_iret (pc := 183) rfl d_M_gain_183
    · refine r_iconst (pc := 35) (v := 0) d_M_gain_35 (by rfl) ?_
      refine r_istore (pc := 36) (lv1 := [some (.ref 383), some (.int a1), some (.int x2), some (.int x3), some (.int (0 : Int32)), none]) d_M_gain_36 (Nat.le_of_ble_eq_true rfl) rfl ?_
      exact r_wk (o_M_gain_l38 hn ih FU x2 x3 (0 : Int32) h) ⟨rfl, ⟨rfl, ⟨rfl, ⟨rfl, ⟨rfl, trivial⟩⟩⟩⟩⟩
def f_M_gain  (a1 : Int32) (h : AH) : Option (Int32 × AH) :=
  lt (sI h 383 57 (0 : Int32)) fun hq1 =>
  bI (f_M_isDealer a1 hq1) fun rq2 hq3 =>
  if ¬ rq2 = 0 then
    bV (f_M_load hq3) fun hq4 =>
    f_M_gain_l27 a1 FU (-1000 : Int32) (0 : Int32) hq4
  else
    some ((-1000 : Int32), hq3)
set_option maxHeartbeats 2000000 in
theorem ok_M_gain {G : AE} {n : Nat} (hn : NN ≤ n)  (a1 : Int32) (h : AH) : OK G n y_M_gain (7) φI [.ref 383, .int a1] h (f_M_gain a1 h) := by
  refine ok_of (y := y_M_gain) (lv0 := [some (.ref 383), some (.int a1), none, none, none, none]) (by decide +kernel) (Nat.le_of_ble_eq_true rfl) ⟨rfl, ⟨rfl, trivial⟩⟩ ?_
  rw [f_M_gain]
  refine r_aload_n (pc := 0) (i := 0) d_M_gain_0 rfl rfl ?_
  refine r_iconst (pc := 1) (v := 0) d_M_gain_1 (by rfl) ?_
  refine r_putI (pc := 2) (ci := 12) (k := 57) (C := "CricketHayModel") (T := F_12) (N := 73) (fun s => Std.k s (lc hn rfl) kq_383) rfl (Nat.le_of_ble_eq_true rfl) rfl rfl w_1143 (fun _ _ => rfl) (fun _ => rfl) (fun _ => rfl) (fun s => Std.sI s _ _ _) d_M_gain_2 ?_
  refine r_ltH (fun hq1 => ?_)
  refine r_aload_n (pc := 5) (i := 0) d_M_gain_5 rfl rfl ?_
  refine r_iload_n (pc := 6) (i := 1) d_M_gain_6 rfl rfl ?_
  refine r_cVi (pc := 7) (T := F_12) (N := 73) (st := []) (ok_M_isDealer hn a1 hq1) (fun s => Std.k s (lc hn rfl) kq_383) rfl w_1476 w_13 w_1473 w_1475 ws_75 hy_M_isDealer ⟨Nat.le_of_ble_eq_true rfl, Nat.le_of_ble_eq_true rfl⟩ ⟨Nat.le_of_ble_eq_true rfl, Nat.le_of_ble_eq_true rfl⟩ rfl (Nat.le_of_ble_eq_true rfl) d_M_gain_7 (fun rq2 hq3 => ?_)
  refine r_if_ne (pc := 10) (tgt := 17) d_M_gain_10 (by rfl) ?_ ?_
  · refine r_aload_n (pc := 17) (i := 0) d_M_gain_17 rfl rfl ?_
    refine r_cVv (pc := 18) (T := F_12) (N := 73) (st := []) (ok_M_load hn hq3) (fun s => Std.k s (lc hn rfl) kq_383) rfl w_1483 w_13 w_1480 w_1482 ws_76 hy_M_load ⟨Nat.le_of_ble_eq_true rfl, Nat.le_of_ble_eq_true rfl⟩ ⟨Nat.le_of_ble_eq_true rfl, Nat.le_of_ble_eq_true rfl⟩ rfl (Nat.le_of_ble_eq_true rfl) d_M_gain_18 (fun hq4 => ?_)
    refine r_sipush (pc := 21) (v := -1000) d_M_gain_21 (by rfl) ?_
    refine r_istore_n (pc := 24) (i := 2) (lv1 := [some (.ref 383), some (.int a1), some (.int (-1000 : Int32)), none, none, none]) d_M_gain_24 rfl (Nat.le_of_ble_eq_true rfl) rfl ?_
    refine r_iconst (pc := 25) (v := 0) d_M_gain_25 (by rfl) ?_
    refine r_istore_n (pc := 26) (i := 3) (lv1 := [some (.ref 383), some (.int a1), some (.int (-1000 : Int32)), some (.int (0 : Int32)), none, none]) d_M_gain_26 rfl (Nat.le_of_ble_eq_true rfl) rfl ?_
    exact r_wk (o_M_gain_l27 hn FU (-1000 : Int32) (0 : Int32) hq4) ⟨rfl, ⟨rfl, ⟨rfl, ⟨rfl, trivial⟩⟩⟩⟩
  · refine r_sipush (pc := 13) (v := -1000) d_M_gain_13 (by rfl) ?_
    exact r_iret (pc := 16) rfl d_M_gain_16

def f_M_wants  (a1 : Int32) (h : AH) : Option (Int32 × AH) :=
  gx ((6 : Int32) + a1) 35 <|
  gx a1 6 <|
  if (hI h 404 (ix a1)) ≤ (hI h 406 (ix ((6 : Int32) + a1))) then
    some ((0 : Int32), h)
  else
    some ((1 : Int32), h)
set_option maxHeartbeats 2000000 in
theorem ok_M_wants {G : AE} {n : Nat} (hn : NN ≤ n)  (a1 : Int32) (h : AH) : OK G n y_M_wants (1) φI [.ref 383, .int a1] h (f_M_wants a1 h) := by
  refine ok_of (y := y_M_wants) (lv0 := [some (.ref 383), some (.int a1)]) (by decide +kernel) (Nat.le_of_ble_eq_true rfl) ⟨rfl, ⟨rfl, trivial⟩⟩ ?_
  rw [f_M_wants]
  refine r_aload_n (pc := 0) (i := 0) d_M_wants_0 rfl rfl ?_
  refine r_getf (pc := 1) (ci := 12) (k := 51) (C := "CricketHayModel") (T := F_12) (N := 73) (v := .ref 406) (fun s => Std.k s (lc hn rfl) kq_383) rfl (Nat.le_of_ble_eq_true rfl) rfl w_1137 (fun s => vr rfl (Std.r s (lc hn rfl) rq_383_51)) d_M_wants_1 ?_
  refine r_bipush (pc := 4) (v := 6) d_M_wants_4 (by rfl) ?_
  refine r_iload_n (pc := 6) (i := 1) d_M_wants_6 rfl rfl ?_
  refine r_iadd (pc := 7) d_M_wants_7 ?_
  refine r_gx (fun zq1 => ?_)
  refine r_iald (pc := 8) (n := 35) (i0 := (ix ((6 : Int32) + a1))) (fun s => Std.k s (lc hn rfl) kq_406) zq1 rfl d_M_wants_8 ?_
  refine r_aload_n (pc := 9) (i := 0) d_M_wants_9 rfl rfl ?_
  refine r_getf (pc := 10) (ci := 12) (k := 35) (C := "CricketHayModel") (T := F_12) (N := 73) (v := .ref 404) (fun s => Std.k s (lc hn rfl) kq_383) rfl (Nat.le_of_ble_eq_true rfl) rfl w_1121 (fun s => vr rfl (Std.r s (lc hn rfl) rq_383_35)) d_M_wants_10 ?_
  refine r_iload_n (pc := 13) (i := 1) d_M_wants_13 rfl rfl ?_
  refine r_gx (fun zq2 => ?_)
  refine r_iald (pc := 14) (n := 6) (i0 := (ix a1)) (fun s => Std.k s (lc hn rfl) kq_404) zq2 rfl d_M_wants_14 ?_
  refine r_icmp_ge (pc := 15) (tgt := 22) d_M_wants_15 (by rfl) ?_ ?_
  · refine r_iconst (pc := 22) (v := 0) d_M_wants_22 (by rfl) ?_
    exact r_zret (pc := 23) rfl rfl d_M_wants_23
  · refine r_iconst (pc := 18) (v := 1) d_M_wants_18 (by rfl) ?_
    refine r_goto (pc := 19) (tgt := 23) d_M_wants_19 (by rfl) ?_
    exact r_zret (pc := 23) rfl rfl d_M_wants_23

def f_M_over  (a1 : Int32) (h : AH) : Option (Int32 × AH) :=
  gx ((6 : Int32) + a1) 35 <|
  gx a1 6 <|
  if (hI h 406 (ix ((6 : Int32) + a1))) ≤ (hI h 404 (ix a1)) then
    some ((0 : Int32), h)
  else
    gx ((6 : Int32) + a1) 35 <|
    gx a1 6 <|
    some (((hI h 406 (ix ((6 : Int32) + a1))) - (hI h 404 (ix a1))), h)
set_option maxHeartbeats 2000000 in
theorem ok_M_over {G : AE} {n : Nat} (hn : NN ≤ n)  (a1 : Int32) (h : AH) : OK G n y_M_over (1) φI [.ref 383, .int a1] h (f_M_over a1 h) := by
  refine ok_of (y := y_M_over) (lv0 := [some (.ref 383), some (.int a1)]) (by decide +kernel) (Nat.le_of_ble_eq_true rfl) ⟨rfl, ⟨rfl, trivial⟩⟩ ?_
  rw [f_M_over]
  refine r_aload_n (pc := 0) (i := 0) d_M_over_0 rfl rfl ?_
  refine r_getf (pc := 1) (ci := 12) (k := 51) (C := "CricketHayModel") (T := F_12) (N := 73) (v := .ref 406) (fun s => Std.k s (lc hn rfl) kq_383) rfl (Nat.le_of_ble_eq_true rfl) rfl w_1137 (fun s => vr rfl (Std.r s (lc hn rfl) rq_383_51)) d_M_over_1 ?_
  refine r_bipush (pc := 4) (v := 6) d_M_over_4 (by rfl) ?_
  refine r_iload_n (pc := 6) (i := 1) d_M_over_6 rfl rfl ?_
  refine r_iadd (pc := 7) d_M_over_7 ?_
  refine r_gx (fun zq1 => ?_)
  refine r_iald (pc := 8) (n := 35) (i0 := (ix ((6 : Int32) + a1))) (fun s => Std.k s (lc hn rfl) kq_406) zq1 rfl d_M_over_8 ?_
  refine r_aload_n (pc := 9) (i := 0) d_M_over_9 rfl rfl ?_
  refine r_getf (pc := 10) (ci := 12) (k := 35) (C := "CricketHayModel") (T := F_12) (N := 73) (v := .ref 404) (fun s => Std.k s (lc hn rfl) kq_383) rfl (Nat.le_of_ble_eq_true rfl) rfl w_1121 (fun s => vr rfl (Std.r s (lc hn rfl) rq_383_35)) d_M_over_10 ?_
  refine r_iload_n (pc := 13) (i := 1) d_M_over_13 rfl rfl ?_
  refine r_gx (fun zq2 => ?_)
  refine r_iald (pc := 14) (n := 6) (i0 := (ix a1)) (fun s => Std.k s (lc hn rfl) kq_404) zq2 rfl d_M_over_14 ?_
  refine r_icmp_le (pc := 15) (tgt := 37) d_M_over_15 (by rfl) ?_ ?_
  · refine r_iconst (pc := 37) (v := 0) d_M_over_37 (by rfl) ?_
    exact r_iret (pc := 38) rfl d_M_over_38
  · refine r_aload_n (pc := 18) (i := 0) d_M_over_18 rfl rfl ?_
    refine r_getf (pc := 19) (ci := 12) (k := 51) (C := "CricketHayModel") (T := F_12) (N := 73) (v := .ref 406) (fun s => Std.k s (lc hn rfl) kq_383) rfl (Nat.le_of_ble_eq_true rfl) rfl w_1137 (fun s => vr rfl (Std.r s (lc hn rfl) rq_383_51)) d_M_over_19 ?_
    refine r_bipush (pc := 22) (v := 6) d_M_over_22 (by rfl) ?_
    refine r_iload_n (pc := 24) (i := 1) d_M_over_24 rfl rfl ?_
    refine r_iadd (pc := 25) d_M_over_25 ?_
    refine r_gx (fun zq3 => ?_)
    refine r_iald (pc := 26) (n := 35) (i0 := (ix ((6 : Int32) + a1))) (fun s => Std.k s (lc hn rfl) kq_406) zq3 rfl d_M_over_26 ?_
    refine r_aload_n (pc := 27) (i := 0) d_M_over_27 rfl rfl ?_
    refine r_getf (pc := 28) (ci := 12) (k := 35) (C := "CricketHayModel") (T := F_12) (N := 73) (v := .ref 404) (fun s => Std.k s (lc hn rfl) kq_383) rfl (Nat.le_of_ble_eq_true rfl) rfl w_1121 (fun s => vr rfl (Std.r s (lc hn rfl) rq_383_35)) d_M_over_28 ?_
    refine r_iload_n (pc := 31) (i := 1) d_M_over_31 rfl rfl ?_
    refine r_gx (fun zq4 => ?_)
    refine r_iald (pc := 32) (n := 6) (i0 := (ix a1)) (fun s => Std.k s (lc hn rfl) kq_404) zq4 rfl d_M_over_32 ?_
    refine r_isub (pc := 33) d_M_over_33 ?_
    refine r_goto (pc := 34) (tgt := 38) d_M_over_34 (by rfl) ?_
    exact r_iret (pc := 38) rfl d_M_over_38

def f_M_canSell  (a1 : Int32) (a2 : Int32) (h : AH) : Option (Int32 × AH) :=
  if a2 < 0 then
    some ((1 : Int32), h)
  else
    if a2 = a1 then
      some ((0 : Int32), h)
    else
      bI (f_M_wants a1 h) fun rq1 hq2 =>
      if rq1 = 0 then
        some ((0 : Int32), hq2)
      else
        bI (f_M_over a2 hq2) fun rq3 hq4 =>
        if rq3 ≤ 0 then
          some ((0 : Int32), hq4)
        else
          bI (f_M_priceOf a1 a2 hq4) fun rq5 hq6 =>
          gx a1 35 <|
          if (hI hq6 406 (ix a1)) < rq5 then
            some ((0 : Int32), hq6)
          else
            some ((1 : Int32), hq6)
set_option maxHeartbeats 2000000 in
theorem ok_M_canSell {G : AE} {n : Nat} (hn : NN ≤ n)  (a1 : Int32) (a2 : Int32) (h : AH) : OK G n y_M_canSell (7) φI [.ref 383, .int a1, .int a2] h (f_M_canSell a1 a2 h) := by
  refine ok_of (y := y_M_canSell) (lv0 := [some (.ref 383), some (.int a1), some (.int a2)]) (by decide +kernel) (Nat.le_of_ble_eq_true rfl) ⟨rfl, ⟨rfl, ⟨rfl, trivial⟩⟩⟩ ?_
  rw [f_M_canSell]
  refine r_iload_n (pc := 0) (i := 2) d_M_canSell_0 rfl rfl ?_
  refine r_if_lt (pc := 1) (tgt := 40) d_M_canSell_1 (by rfl) ?_ ?_
  · refine r_iconst (pc := 40) (v := 1) d_M_canSell_40 (by rfl) ?_
    refine r_goto (pc := 41) (tgt := 45) d_M_canSell_41 (by rfl) ?_
    exact r_zret (pc := 45) rfl rfl d_M_canSell_45
  · refine r_iload_n (pc := 4) (i := 2) d_M_canSell_4 rfl rfl ?_
    refine r_iload_n (pc := 5) (i := 1) d_M_canSell_5 rfl rfl ?_
    refine r_icmp_eq (pc := 6) (tgt := 44) d_M_canSell_6 (by rfl) ?_ ?_
    · refine r_iconst (pc := 44) (v := 0) d_M_canSell_44 (by rfl) ?_
      exact r_zret (pc := 45) rfl rfl d_M_canSell_45
    · refine r_aload_n (pc := 9) (i := 0) d_M_canSell_9 rfl rfl ?_
      refine r_iload_n (pc := 10) (i := 1) d_M_canSell_10 rfl rfl ?_
      refine r_cVi (pc := 11) (T := F_12) (N := 73) (st := []) (ok_M_wants hn a1 h) (fun s => Std.k s (lc hn rfl) kq_383) rfl w_1644 w_13 w_1641 w_1643 ws_97 hy_M_wants ⟨Nat.le_of_ble_eq_true rfl, Nat.le_of_ble_eq_true rfl⟩ ⟨Nat.le_of_ble_eq_true rfl, Nat.le_of_ble_eq_true rfl⟩ rfl (Nat.le_of_ble_eq_true rfl) d_M_canSell_11 (fun rq1 hq2 => ?_)
      refine r_if_eq (pc := 14) (tgt := 44) d_M_canSell_14 (by rfl) ?_ ?_
      · refine r_iconst (pc := 44) (v := 0) d_M_canSell_44 (by rfl) ?_
        exact r_zret (pc := 45) rfl rfl d_M_canSell_45
      · refine r_aload_n (pc := 17) (i := 0) d_M_canSell_17 rfl rfl ?_
        refine r_iload_n (pc := 18) (i := 2) d_M_canSell_18 rfl rfl ?_
        refine r_cVi (pc := 19) (T := F_12) (N := 73) (st := []) (ok_M_over hn a2 hq2) (fun s => Std.k s (lc hn rfl) kq_383) rfl w_1648 w_13 w_1645 w_1647 ws_98 hy_M_over ⟨Nat.le_of_ble_eq_true rfl, Nat.le_of_ble_eq_true rfl⟩ ⟨Nat.le_of_ble_eq_true rfl, Nat.le_of_ble_eq_true rfl⟩ rfl (Nat.le_of_ble_eq_true rfl) d_M_canSell_19 (fun rq3 hq4 => ?_)
        refine r_if_le (pc := 22) (tgt := 44) d_M_canSell_22 (by rfl) ?_ ?_
        · refine r_iconst (pc := 44) (v := 0) d_M_canSell_44 (by rfl) ?_
          exact r_zret (pc := 45) rfl rfl d_M_canSell_45
        · refine r_aload_n (pc := 25) (i := 0) d_M_canSell_25 rfl rfl ?_
          refine r_iload_n (pc := 26) (i := 1) d_M_canSell_26 rfl rfl ?_
          refine r_iload_n (pc := 27) (i := 2) d_M_canSell_27 rfl rfl ?_
          refine r_cVi (pc := 28) (T := F_12) (N := 73) (st := []) (ok_M_priceOf hn a1 a2 hq4) (fun s => Std.k s (lc hn rfl) kq_383) rfl w_1536 w_13 w_1533 w_1535 ws_85 hy_M_priceOf ⟨Nat.le_of_ble_eq_true rfl, Nat.le_of_ble_eq_true rfl⟩ ⟨Nat.le_of_ble_eq_true rfl, Nat.le_of_ble_eq_true rfl⟩ rfl (Nat.le_of_ble_eq_true rfl) d_M_canSell_28 (fun rq5 hq6 => ?_)
          refine r_aload_n (pc := 31) (i := 0) d_M_canSell_31 rfl rfl ?_
          refine r_getf (pc := 32) (ci := 12) (k := 51) (C := "CricketHayModel") (T := F_12) (N := 73) (v := .ref 406) (fun s => Std.k s (lc hn rfl) kq_383) rfl (Nat.le_of_ble_eq_true rfl) rfl w_1137 (fun s => vr rfl (Std.r s (lc hn rfl) rq_383_51)) d_M_canSell_32 ?_
          refine r_iload_n (pc := 35) (i := 1) d_M_canSell_35 rfl rfl ?_
          refine r_gx (fun zq7 => ?_)
          refine r_iald (pc := 36) (n := 35) (i0 := (ix a1)) (fun s => Std.k s (lc hn rfl) kq_406) zq7 rfl d_M_canSell_36 ?_
          refine r_icmp_gt (pc := 37) (tgt := 44) d_M_canSell_37 (by rfl) ?_ ?_
          · refine r_iconst (pc := 44) (v := 0) d_M_canSell_44 (by rfl) ?_
            exact r_zret (pc := 45) rfl rfl d_M_canSell_45
          · refine r_iconst (pc := 40) (v := 1) d_M_canSell_40 (by rfl) ?_
            refine r_goto (pc := 41) (tgt := 45) d_M_canSell_41 (by rfl) ?_
            exact r_zret (pc := 45) rfl rfl d_M_canSell_45

def f_M_laySellers_l42  (a1 : Int32)  : Nat → Int32 → Int32 → AH → Option (Int32 × AH)
  | 0, _, _, _ => none
  | n + 1, x2, x3, h =>
    if x3 < 0 then
      some ((1 : Int32), h)
    else
      gz ((hI h 383 43) + (1 : Int32)) <|
      lt ((x2 - x2 / ((hI h 383 43) + (1 : Int32)) * ((hI h 383 43) + (1 : Int32))) - (1 : Int32)) fun xq2 =>
      gz ((hI h 383 43) + (1 : Int32)) <|
      lt (x2 / ((hI h 383 43) + (1 : Int32))) fun xq4 =>
      gx x3 6 <|
      lt (sI h 410 (ix x3) xq2) fun hq6 =>
      bI (f_M_canSell x3 xq2 hq6) fun rq7 hq8 =>
      if ¬ rq7 = 0 then
        if 0 ≤ xq2 then
          gx xq2 6 <|
          gx xq2 6 <|
          lt (sI hq8 411 (ix xq2) ((hI hq8 411 (ix xq2)) + (1 : Int32))) fun hq11 =>
          lt (sI hq11 383 60 ((hI hq11 383 60) + (1 : Int32))) fun hq12 =>
          bI (f_M_priceOf x3 xq2 hq12) fun rq13 hq14 =>
          lt (sI hq14 383 61 ((hI hq12 383 61) + rq13)) fun hq15 =>
          gx xq2 6 <|
          bI (f_M_over xq2 hq15) fun rq17 hq18 =>
          if (hI hq15 411 (ix xq2)) ≤ rq17 then
            lt (x3 + (-1 : Int32)) fun xq19 =>
            f_M_laySellers_l42 a1 n xq4 xq19 hq18
          else
            some ((0 : Int32), hq18)
        else
          lt (x3 + (-1 : Int32)) fun xq20 =>
          f_M_laySellers_l42 a1 n xq4 xq20 hq8
      else
        some ((0 : Int32), hq8)
set_option maxHeartbeats 2000000 in
theorem o_M_laySellers_l42 {G : AE} {n : Nat} (hn : NN ≤ n)  {a1 : Int32}   : ∀ (n0 : Nat) (x2 : Int32) (x3 : Int32) (h : AH), AJ G n y_M_laySellers (8) φI 42 [some (.ref 383), none, some (.int x2), some (.int x3), none] [] h (f_M_laySellers_l42 a1 n0 x2 x3 h) := by
  intro n0
  induction n0 with
  | zero => intros; exact r_none
  | succ n0 ih =>
    intro x2 x3 h
    rw [f_M_laySellers_l42]
    refine r_iload_n (pc := 42) (i := 3) d_M_laySellers_42 rfl rfl ?_
    refine r_if_lt (pc := 43) (tgt := 156) d_M_laySellers_43 (by rfl) ?_ ?_
    · refine r_iconst (pc := 156) (v := 1) d_M_laySellers_156 (by rfl) ?_
      exact r_zret (pc := 157) rfl rfl d_M_laySellers_157
    · refine r_iload_n (pc := 46) (i := 2) d_M_laySellers_46 rfl rfl ?_
      refine r_aload_n (pc := 47) (i := 0) d_M_laySellers_47 rfl rfl ?_
      refine r_getf (pc := 48) (ci := 12) (k := 43) (C := "CricketHayModel") (T := F_12) (N := 73) (v := .int (hI h 383 43)) (fun s => Std.k s (lc hn rfl) kq_383) rfl (Nat.le_of_ble_eq_true rfl) rfl w_1129 (fun _ => rfl) d_M_laySellers_48 ?_
      refine r_iconst (pc := 51) (v := 1) d_M_laySellers_51 (by rfl) ?_
      refine r_iadd (pc := 52) d_M_laySellers_52 ?_
      refine r_gz (fun zq1 => ?_)
      refine r_iremC (pc := 53) zq1 d_M_laySellers_53 ?_
      refine r_iconst (pc := 54) (v := 1) d_M_laySellers_54 (by rfl) ?_
      refine r_isub (pc := 55) d_M_laySellers_55 ?_
      refine r_ltI (fun xq2 => ?_)
      refine r_istore (pc := 56) (lv1 := [some (.ref 383), none, some (.int x2), some (.int x3), some (.int xq2)]) d_M_laySellers_56 (Nat.le_of_ble_eq_true rfl) rfl ?_
      refine r_iload_n (pc := 58) (i := 2) d_M_laySellers_58 rfl rfl ?_
      refine r_aload_n (pc := 59) (i := 0) d_M_laySellers_59 rfl rfl ?_
      refine r_getf (pc := 60) (ci := 12) (k := 43) (C := "CricketHayModel") (T := F_12) (N := 73) (v := .int (hI h 383 43)) (fun s => Std.k s (lc hn rfl) kq_383) rfl (Nat.le_of_ble_eq_true rfl) rfl w_1129 (fun _ => rfl) d_M_laySellers_60 ?_
      refine r_iconst (pc := 63) (v := 1) d_M_laySellers_63 (by rfl) ?_
      refine r_iadd (pc := 64) d_M_laySellers_64 ?_
      refine r_gz (fun zq3 => ?_)
      refine r_idivC (pc := 65) zq3 d_M_laySellers_65 ?_
      refine r_ltI (fun xq4 => ?_)
      refine r_istore_n (pc := 66) (i := 2) (lv1 := [some (.ref 383), none, some (.int xq4), some (.int x3), some (.int xq2)]) d_M_laySellers_66 rfl (Nat.le_of_ble_eq_true rfl) rfl ?_
      refine r_aload_n (pc := 67) (i := 0) d_M_laySellers_67 rfl rfl ?_
      refine r_getf (pc := 68) (ci := 12) (k := 58) (C := "CricketHayModel") (T := F_12) (N := 73) (v := .ref 410) (fun s => Std.k s (lc hn rfl) kq_383) rfl (Nat.le_of_ble_eq_true rfl) rfl w_1144 (fun s => vr rfl (Std.r s (lc hn rfl) rq_383_58)) d_M_laySellers_68 ?_
      refine r_iload_n (pc := 71) (i := 3) d_M_laySellers_71 rfl rfl ?_
      refine r_iload (pc := 72) d_M_laySellers_72 rfl ?_
      refine r_gx (fun zq5 => ?_)
      refine r_iast (pc := 74) (n := 6) (i0 := (ix x3)) (fun s => Std.k s (lc hn rfl) kq_410) zq5 rfl (fun s => Std.sI s _ _ _) d_M_laySellers_74 ?_
      refine r_ltH (fun hq6 => ?_)
      refine r_aload_n (pc := 75) (i := 0) d_M_laySellers_75 rfl rfl ?_
      refine r_iload_n (pc := 76) (i := 3) d_M_laySellers_76 rfl rfl ?_
      refine r_iload (pc := 77) d_M_laySellers_77 rfl ?_
      refine r_cVi (pc := 79) (T := F_12) (N := 73) (st := []) (ok_M_canSell hn x3 xq2 hq6) (fun s => Std.k s (lc hn rfl) kq_383) rfl w_1640 w_13 w_1637 w_1639 ws_96 hy_M_canSell ⟨Nat.le_of_ble_eq_true rfl, Nat.le_of_ble_eq_true rfl⟩ ⟨Nat.le_of_ble_eq_true rfl, Nat.le_of_ble_eq_true rfl⟩ rfl (Nat.le_of_ble_eq_true rfl) d_M_laySellers_79 (fun rq7 hq8 => ?_)
      refine r_if_ne (pc := 82) (tgt := 87) d_M_laySellers_82 (by rfl) ?_ ?_
      · refine r_iload (pc := 87) d_M_laySellers_87 rfl ?_
        refine r_if_ge (pc := 89) (tgt := 95) d_M_laySellers_89 (by rfl) ?_ ?_
        · refine r_aload_n (pc := 95) (i := 0) d_M_laySellers_95 rfl rfl ?_
          refine r_getf (pc := 96) (ci := 12) (k := 59) (C := "CricketHayModel") (T := F_12) (N := 73) (v := .ref 411) (fun s => Std.k s (lc hn rfl) kq_383) rfl (Nat.le_of_ble_eq_true rfl) rfl w_1145 (fun s => vr rfl (Std.r s (lc hn rfl) rq_383_59)) d_M_laySellers_96 ?_
          refine r_iload (pc := 99) d_M_laySellers_99 rfl ?_
          refine r_dup2 (pc := 101) d_M_laySellers_101 rfl rfl ?_
          refine r_gx (fun zq9 => ?_)
          refine r_iald (pc := 102) (n := 6) (i0 := (ix xq2)) (fun s => Std.k s (lc hn rfl) kq_411) zq9 rfl d_M_laySellers_102 ?_
          refine r_iconst (pc := 103) (v := 1) d_M_laySellers_103 (by rfl) ?_
          refine r_iadd (pc := 104) d_M_laySellers_104 ?_
          refine r_gx (fun zq10 => ?_)
          refine r_iast (pc := 105) (n := 6) (i0 := (ix xq2)) (fun s => Std.k s (lc hn rfl) kq_411) zq10 rfl (fun s => Std.sI s _ _ _) d_M_laySellers_105 ?_
          refine r_ltH (fun hq11 => ?_)
          refine r_aload_n (pc := 106) (i := 0) d_M_laySellers_106 rfl rfl ?_
          refine r_dup (pc := 107) d_M_laySellers_107 rfl ?_
          refine r_getf (pc := 108) (ci := 12) (k := 60) (C := "CricketHayModel") (T := F_12) (N := 73) (v := .int (hI hq11 383 60)) (fun s => Std.k s (lc hn rfl) kq_383) rfl (Nat.le_of_ble_eq_true rfl) rfl w_1146 (fun _ => rfl) d_M_laySellers_108 ?_
          refine r_iconst (pc := 111) (v := 1) d_M_laySellers_111 (by rfl) ?_
          refine r_iadd (pc := 112) d_M_laySellers_112 ?_
          refine r_putI (pc := 113) (ci := 12) (k := 60) (C := "CricketHayModel") (T := F_12) (N := 73) (fun s => Std.k s (lc hn rfl) kq_383) rfl (Nat.le_of_ble_eq_true rfl) rfl rfl w_1146 (fun _ _ => rfl) (fun _ => rfl) (fun _ => rfl) (fun s => Std.sI s _ _ _) d_M_laySellers_113 ?_
          refine r_ltH (fun hq12 => ?_)
          refine r_aload_n (pc := 116) (i := 0) d_M_laySellers_116 rfl rfl ?_
          refine r_dup (pc := 117) d_M_laySellers_117 rfl ?_
          refine r_getf (pc := 118) (ci := 12) (k := 61) (C := "CricketHayModel") (T := F_12) (N := 73) (v := .int (hI hq12 383 61)) (fun s => Std.k s (lc hn rfl) kq_383) rfl (Nat.le_of_ble_eq_true rfl) rfl w_1147 (fun _ => rfl) d_M_laySellers_118 ?_
          refine r_aload_n (pc := 121) (i := 0) d_M_laySellers_121 rfl rfl ?_
          refine r_iload_n (pc := 122) (i := 3) d_M_laySellers_122 rfl rfl ?_
          refine r_iload (pc := 123) d_M_laySellers_123 rfl ?_
          refine r_cVi (pc := 125) (T := F_12) (N := 73) (st := [.int (hI hq12 383 61), .ref 383]) (ok_M_priceOf hn x3 xq2 hq12) (fun s => Std.k s (lc hn rfl) kq_383) rfl w_1536 w_13 w_1533 w_1535 ws_85 hy_M_priceOf ⟨Nat.le_of_ble_eq_true rfl, Nat.le_of_ble_eq_true rfl⟩ ⟨Nat.le_of_ble_eq_true rfl, Nat.le_of_ble_eq_true rfl⟩ rfl (Nat.le_of_ble_eq_true rfl) d_M_laySellers_125 (fun rq13 hq14 => ?_)
          refine r_iadd (pc := 128) d_M_laySellers_128 ?_
          refine r_putI (pc := 129) (ci := 12) (k := 61) (C := "CricketHayModel") (T := F_12) (N := 73) (fun s => Std.k s (lc hn rfl) kq_383) rfl (Nat.le_of_ble_eq_true rfl) rfl rfl w_1147 (fun _ _ => rfl) (fun _ => rfl) (fun _ => rfl) (fun s => Std.sI s _ _ _) d_M_laySellers_129 ?_
          refine r_ltH (fun hq15 => ?_)
          refine r_aload_n (pc := 132) (i := 0) d_M_laySellers_132 rfl rfl ?_
          refine r_getf (pc := 133) (ci := 12) (k := 59) (C := "CricketHayModel") (T := F_12) (N := 73) (v := .ref 411) (fun s => Std.k s (lc hn rfl) kq_383) rfl (Nat.le_of_ble_eq_true rfl) rfl w_1145 (fun s => vr rfl (Std.r s (lc hn rfl) rq_383_59)) d_M_laySellers_133 ?_
          refine r_iload (pc := 136) d_M_laySellers_136 rfl ?_
          refine r_gx (fun zq16 => ?_)
          refine r_iald (pc := 138) (n := 6) (i0 := (ix xq2)) (fun s => Std.k s (lc hn rfl) kq_411) zq16 rfl d_M_laySellers_138 ?_
          refine r_aload_n (pc := 139) (i := 0) d_M_laySellers_139 rfl rfl ?_
          refine r_iload (pc := 140) d_M_laySellers_140 rfl ?_
          refine r_cVi (pc := 142) (T := F_12) (N := 73) (st := [.int (hI hq15 411 (ix xq2))]) (ok_M_over hn xq2 hq15) (fun s => Std.k s (lc hn rfl) kq_383) rfl w_1648 w_13 w_1645 w_1647 ws_98 hy_M_over ⟨Nat.le_of_ble_eq_true rfl, Nat.le_of_ble_eq_true rfl⟩ ⟨Nat.le_of_ble_eq_true rfl, Nat.le_of_ble_eq_true rfl⟩ rfl (Nat.le_of_ble_eq_true rfl) d_M_laySellers_142 (fun rq17 hq18 => ?_)
          refine r_icmp_le (pc := 145) (tgt := 150) d_M_laySellers_145 (by rfl) ?_ ?_
          · refine r_ltE (fun xq19 exq19 => ?_)
            refine r_iinc (pc := 150) (v := xq19) (lv1 := [some (.ref 383), none, some (.int xq4), some (.int xq19), some (.int xq2)]) d_M_laySellers_150 rfl exq19.symm (Nat.le_of_ble_eq_true rfl) rfl ?_
            refine r_goto (pc := 153) (tgt := 42) d_M_laySellers_153 (by rfl) ?_
            exact r_wk (ih xq4 xq19 hq18) ⟨rfl, ⟨rfl, ⟨rfl, trivial⟩⟩⟩
          · refine r_iconst (pc := 148) (v := 0) d_M_laySellers_148 (by rfl) ?_
            exact r_zret (pc := 149) rfl rfl d_M_laySellers_149
        · refine r_goto (pc := 92) (tgt := 150) d_M_laySellers_92 (by rfl) ?_
          refine r_ltE (fun xq20 exq20 => ?_)
          refine r_iinc (pc := 150) (v := xq20) (lv1 := [some (.ref 383), none, some (.int xq4), some (.int xq20), some (.int xq2)]) d_M_laySellers_150 rfl exq20.symm (Nat.le_of_ble_eq_true rfl) rfl ?_
          refine r_goto (pc := 153) (tgt := 42) d_M_laySellers_153 (by rfl) ?_
          exact r_wk (ih xq4 xq20 hq8) ⟨rfl, ⟨rfl, ⟨rfl, trivial⟩⟩⟩
      · refine r_iconst (pc := 85) (v := 0) d_M_laySellers_85 (by rfl) ?_
        exact r_zret (pc := 86) rfl rfl d_M_laySellers_86
def f_M_laySellers_l14  (a1 : Int32)  : Nat → Int32 → Int32 → AH → Option (Int32 × AH)
  | 0, _, _, _ => none
  | n + 1, x2, x3, h =>
    if (hI h 383 43) ≤ x3 then
      lt ((hI h 383 43) - (1 : Int32)) fun xq1 =>
      f_M_laySellers_l42 a1 FU x2 xq1 h
    else
      gx x3 6 <|
      lt (sI h 411 (ix x3) (0 : Int32)) fun hq3 =>
      lt (x3 + (1 : Int32)) fun xq4 =>
      f_M_laySellers_l14 a1 n x2 xq4 hq3
set_option maxHeartbeats 2000000 in
theorem o_M_laySellers_l14 {G : AE} {n : Nat} (hn : NN ≤ n)  {a1 : Int32}   : ∀ (n0 : Nat) (x2 : Int32) (x3 : Int32) (h : AH), AJ G n y_M_laySellers (8) φI 14 [some (.ref 383), none, some (.int x2), some (.int x3), none] [] h (f_M_laySellers_l14 a1 n0 x2 x3 h) := by
  intro n0
  induction n0 with
  | zero => intros; exact r_none
  | succ n0 ih =>
    intro x2 x3 h
    rw [f_M_laySellers_l14]
    refine r_iload_n (pc := 14) (i := 3) d_M_laySellers_14 rfl rfl ?_
    refine r_aload_n (pc := 15) (i := 0) d_M_laySellers_15 rfl rfl ?_
    refine r_getf (pc := 16) (ci := 12) (k := 43) (C := "CricketHayModel") (T := F_12) (N := 73) (v := .int (hI h 383 43)) (fun s => Std.k s (lc hn rfl) kq_383) rfl (Nat.le_of_ble_eq_true rfl) rfl w_1129 (fun _ => rfl) d_M_laySellers_16 ?_
    refine r_icmp_ge (pc := 19) (tgt := 35) d_M_laySellers_19 (by rfl) ?_ ?_
    · refine r_aload_n (pc := 35) (i := 0) d_M_laySellers_35 rfl rfl ?_
      refine r_getf (pc := 36) (ci := 12) (k := 43) (C := "CricketHayModel") (T := F_12) (N := 73) (v := .int (hI h 383 43)) (fun s => Std.k s (lc hn rfl) kq_383) rfl (Nat.le_of_ble_eq_true rfl) rfl w_1129 (fun _ => rfl) d_M_laySellers_36 ?_
      refine r_iconst (pc := 39) (v := 1) d_M_laySellers_39 (by rfl) ?_
      refine r_isub (pc := 40) d_M_laySellers_40 ?_
      refine r_ltI (fun xq1 => ?_)
      refine r_istore_n (pc := 41) (i := 3) (lv1 := [some (.ref 383), none, some (.int x2), some (.int xq1), none]) d_M_laySellers_41 rfl (Nat.le_of_ble_eq_true rfl) rfl ?_
      exact r_wk (o_M_laySellers_l42 hn FU x2 xq1 h) ⟨rfl, ⟨rfl, ⟨rfl, trivial⟩⟩⟩
    · refine r_aload_n (pc := 22) (i := 0) d_M_laySellers_22 rfl rfl ?_
      refine r_getf (pc := 23) (ci := 12) (k := 59) (C := "CricketHayModel") (T := F_12) (N := 73) (v := .ref 411) (fun s => Std.k s (lc hn rfl) kq_383) rfl (Nat.le_of_ble_eq_true rfl) rfl w_1145 (fun s => vr rfl (Std.r s (lc hn rfl) rq_383_59)) d_M_laySellers_23 ?_
      refine r_iload_n (pc := 26) (i := 3) d_M_laySellers_26 rfl rfl ?_
      refine r_iconst (pc := 27) (v := 0) d_M_laySellers_27 (by rfl) ?_
      refine r_gx (fun zq2 => ?_)
      refine r_iast (pc := 28) (n := 6) (i0 := (ix x3)) (fun s => Std.k s (lc hn rfl) kq_411) zq2 rfl (fun s => Std.sI s _ _ _) d_M_laySellers_28 ?_
      refine r_ltH (fun hq3 => ?_)
      refine r_ltE (fun xq4 exq4 => ?_)
      refine r_iinc (pc := 29) (v := xq4) (lv1 := [some (.ref 383), none, some (.int x2), some (.int xq4), none]) d_M_laySellers_29 rfl exq4.symm (Nat.le_of_ble_eq_true rfl) rfl ?_
      refine r_goto (pc := 32) (tgt := 14) d_M_laySellers_32 (by rfl) ?_
      exact r_wk (ih x2 xq4 hq3) ⟨rfl, ⟨rfl, ⟨rfl, trivial⟩⟩⟩
def f_M_laySellers  (a1 : Int32) (h : AH) : Option (Int32 × AH) :=
  lt (sI h 383 60 (0 : Int32)) fun hq1 =>
  lt (sI hq1 383 61 (0 : Int32)) fun hq2 =>
  f_M_laySellers_l14 a1 FU a1 (0 : Int32) hq2
set_option maxHeartbeats 2000000 in
theorem ok_M_laySellers {G : AE} {n : Nat} (hn : NN ≤ n)  (a1 : Int32) (h : AH) : OK G n y_M_laySellers (8) φI [.ref 383, .int a1] h (f_M_laySellers a1 h) := by
  refine ok_of (y := y_M_laySellers) (lv0 := [some (.ref 383), some (.int a1), none, none, none]) (by decide +kernel) (Nat.le_of_ble_eq_true rfl) ⟨rfl, ⟨rfl, trivial⟩⟩ ?_
  rw [f_M_laySellers]
  refine r_iload_n (pc := 0) (i := 1) d_M_laySellers_0 rfl rfl ?_
  refine r_istore_n (pc := 1) (i := 2) (lv1 := [some (.ref 383), some (.int a1), some (.int a1), none, none]) d_M_laySellers_1 rfl (Nat.le_of_ble_eq_true rfl) rfl ?_
  refine r_aload_n (pc := 2) (i := 0) d_M_laySellers_2 rfl rfl ?_
  refine r_iconst (pc := 3) (v := 0) d_M_laySellers_3 (by rfl) ?_
  refine r_putI (pc := 4) (ci := 12) (k := 60) (C := "CricketHayModel") (T := F_12) (N := 73) (fun s => Std.k s (lc hn rfl) kq_383) rfl (Nat.le_of_ble_eq_true rfl) rfl rfl w_1146 (fun _ _ => rfl) (fun _ => rfl) (fun _ => rfl) (fun s => Std.sI s _ _ _) d_M_laySellers_4 ?_
  refine r_ltH (fun hq1 => ?_)
  refine r_aload_n (pc := 7) (i := 0) d_M_laySellers_7 rfl rfl ?_
  refine r_iconst (pc := 8) (v := 0) d_M_laySellers_8 (by rfl) ?_
  refine r_putI (pc := 9) (ci := 12) (k := 61) (C := "CricketHayModel") (T := F_12) (N := 73) (fun s => Std.k s (lc hn rfl) kq_383) rfl (Nat.le_of_ble_eq_true rfl) rfl rfl w_1147 (fun _ _ => rfl) (fun _ => rfl) (fun _ => rfl) (fun s => Std.sI s _ _ _) d_M_laySellers_9 ?_
  refine r_ltH (fun hq2 => ?_)
  refine r_iconst (pc := 12) (v := 0) d_M_laySellers_12 (by rfl) ?_
  refine r_istore_n (pc := 13) (i := 3) (lv1 := [some (.ref 383), some (.int a1), some (.int a1), some (.int (0 : Int32)), none]) d_M_laySellers_13 rfl (Nat.le_of_ble_eq_true rfl) rfl ?_
  exact r_wk (o_M_laySellers_l14 hn FU a1 (0 : Int32) hq2) ⟨rfl, ⟨rfl, ⟨rfl, trivial⟩⟩⟩

def f_M_clear_l112  (a1 : Int32) (k55 : Int32 → Int32 → Int32 → Int32 → AH → Option (Int32 × AH)) : Nat → Int32 → Int32 → Int32 → Int32 → Int32 → AH → Option (Int32 × AH)
  | 0, _, _, _, _, _, _ => none
  | n + 1, x2, x3, x4, x5, x6, h =>
    if (hI h 383 43) ≤ x6 then
      lt (x5 + (1 : Int32)) fun xq1 =>
      k55 x2 x3 x4 xq1 h
    else
      gx x6 6 <|
      gx x6 12 <|
      lt (sI h 409 (ix x6) (hI h 410 (ix x6))) fun hq4 =>
      lt (x6 + (1 : Int32)) fun xq5 =>
      f_M_clear_l112 a1 k55 n x2 x3 x4 x5 xq5 hq4
set_option maxHeartbeats 2000000 in
theorem o_M_clear_l112 {G : AE} {n : Nat} (hn : NN ≤ n)  {a1 : Int32}  {k55 : Int32 → Int32 → Int32 → Int32 → AH → Option (Int32 × AH)} (hk55 : ∀ (x2 : Int32) (x3 : Int32) (x4 : Int32) (x5 : Int32) (h : AH), AJ G n y_M_clear (9) φI 55 [some (.ref 383), some (.int a1), some (.int x2), some (.int x3), some (.int x4), some (.int x5), none] [] h (k55 x2 x3 x4 x5 h)) : ∀ (n0 : Nat) (x2 : Int32) (x3 : Int32) (x4 : Int32) (x5 : Int32) (x6 : Int32) (h : AH), AJ G n y_M_clear (9) φI 112 [some (.ref 383), some (.int a1), some (.int x2), some (.int x3), some (.int x4), some (.int x5), some (.int x6)] [] h (f_M_clear_l112 a1 k55 n0 x2 x3 x4 x5 x6 h) := by
  intro n0
  induction n0 with
  | zero => intros; exact r_none
  | succ n0 ih =>
    intro x2 x3 x4 x5 x6 h
    rw [f_M_clear_l112]
    refine r_iload (pc := 112) d_M_clear_112 rfl ?_
    refine r_aload_n (pc := 114) (i := 0) d_M_clear_114 rfl rfl ?_
    refine r_getf (pc := 115) (ci := 12) (k := 43) (C := "CricketHayModel") (T := F_12) (N := 73) (v := .int (hI h 383 43)) (fun s => Std.k s (lc hn rfl) kq_383) rfl (Nat.le_of_ble_eq_true rfl) rfl w_1129 (fun _ => rfl) d_M_clear_115 ?_
    refine r_icmp_ge (pc := 118) (tgt := 141) d_M_clear_118 (by rfl) ?_ ?_
    · refine r_ltE (fun xq1 exq1 => ?_)
      refine r_iinc (pc := 141) (v := xq1) (lv1 := [some (.ref 383), some (.int a1), some (.int x2), some (.int x3), some (.int x4), some (.int xq1), some (.int x6)]) d_M_clear_141 rfl exq1.symm (Nat.le_of_ble_eq_true rfl) rfl ?_
      refine r_goto (pc := 144) (tgt := 55) d_M_clear_144 (by rfl) ?_
      exact r_wk (hk55 x2 x3 x4 xq1 h) ⟨rfl, ⟨rfl, ⟨rfl, ⟨rfl, ⟨rfl, ⟨rfl, trivial⟩⟩⟩⟩⟩⟩
    · refine r_aload_n (pc := 121) (i := 0) d_M_clear_121 rfl rfl ?_
      refine r_getf (pc := 122) (ci := 12) (k := 56) (C := "CricketHayModel") (T := F_12) (N := 73) (v := .ref 409) (fun s => Std.k s (lc hn rfl) kq_383) rfl (Nat.le_of_ble_eq_true rfl) rfl w_1142 (fun s => vr rfl (Std.r s (lc hn rfl) rq_383_56)) d_M_clear_122 ?_
      refine r_iload (pc := 125) d_M_clear_125 rfl ?_
      refine r_aload_n (pc := 127) (i := 0) d_M_clear_127 rfl rfl ?_
      refine r_getf (pc := 128) (ci := 12) (k := 58) (C := "CricketHayModel") (T := F_12) (N := 73) (v := .ref 410) (fun s => Std.k s (lc hn rfl) kq_383) rfl (Nat.le_of_ble_eq_true rfl) rfl w_1144 (fun s => vr rfl (Std.r s (lc hn rfl) rq_383_58)) d_M_clear_128 ?_
      refine r_iload (pc := 131) d_M_clear_131 rfl ?_
      refine r_gx (fun zq2 => ?_)
      refine r_iald (pc := 133) (n := 6) (i0 := (ix x6)) (fun s => Std.k s (lc hn rfl) kq_410) zq2 rfl d_M_clear_133 ?_
      refine r_gx (fun zq3 => ?_)
      refine r_iast (pc := 134) (n := 12) (i0 := (ix x6)) (fun s => Std.k s (lc hn rfl) kq_409) zq3 rfl (fun s => Std.sI s _ _ _) d_M_clear_134 ?_
      refine r_ltH (fun hq4 => ?_)
      refine r_ltE (fun xq5 exq5 => ?_)
      refine r_iinc (pc := 135) (v := xq5) (lv1 := [some (.ref 383), some (.int a1), some (.int x2), some (.int x3), some (.int x4), some (.int x5), some (.int xq5)]) d_M_clear_135 rfl exq5.symm (Nat.le_of_ble_eq_true rfl) rfl ?_
      refine r_goto (pc := 138) (tgt := 112) d_M_clear_138 (by rfl) ?_
      exact r_wk (ih x2 x3 x4 x5 xq5 hq4) ⟨rfl, ⟨rfl, ⟨rfl, ⟨rfl, ⟨rfl, ⟨rfl, ⟨rfl, trivial⟩⟩⟩⟩⟩⟩⟩
def f_M_clear_b98  (a1 : Int32) (k55 : Int32 → Int32 → Int32 → Int32 → AH → Option (Int32 × AH)) (x2 : Int32) (x5 : Int32) (h : AH) : Option (Int32 × AH) :=
  lt (hI h 383 60) fun xq1 =>
  lt (hI h 383 61) fun xq2 =>
  f_M_clear_l112 a1 k55 FU x2 xq1 xq2 x5 (0 : Int32) h
set_option maxHeartbeats 2000000 in
theorem o_M_clear_b98 {G : AE} {n : Nat} (hn : NN ≤ n)  {a1 : Int32}  {k55 : Int32 → Int32 → Int32 → Int32 → AH → Option (Int32 × AH)} (hk55 : ∀ (x2 : Int32) (x3 : Int32) (x4 : Int32) (x5 : Int32) (h : AH), AJ G n y_M_clear (9) φI 55 [some (.ref 383), some (.int a1), some (.int x2), some (.int x3), some (.int x4), some (.int x5), none] [] h (k55 x2 x3 x4 x5 h)) : ∀ (x2 : Int32) (x5 : Int32) (h : AH), AJ G n y_M_clear (9) φI 98 [some (.ref 383), some (.int a1), some (.int x2), none, none, some (.int x5), none] [] h (f_M_clear_b98 a1 k55 x2 x5 h) := by
  intro x2 x5 h
  rw [f_M_clear_b98]
  refine r_aload_n (pc := 98) (i := 0) d_M_clear_98 rfl rfl ?_
  refine r_getf (pc := 99) (ci := 12) (k := 60) (C := "CricketHayModel") (T := F_12) (N := 73) (v := .int (hI h 383 60)) (fun s => Std.k s (lc hn rfl) kq_383) rfl (Nat.le_of_ble_eq_true rfl) rfl w_1146 (fun _ => rfl) d_M_clear_99 ?_
  refine r_ltI (fun xq1 => ?_)
  refine r_istore_n (pc := 102) (i := 3) (lv1 := [some (.ref 383), some (.int a1), some (.int x2), some (.int xq1), none, some (.int x5), none]) d_M_clear_102 rfl (Nat.le_of_ble_eq_true rfl) rfl ?_
  refine r_aload_n (pc := 103) (i := 0) d_M_clear_103 rfl rfl ?_
  refine r_getf (pc := 104) (ci := 12) (k := 61) (C := "CricketHayModel") (T := F_12) (N := 73) (v := .int (hI h 383 61)) (fun s => Std.k s (lc hn rfl) kq_383) rfl (Nat.le_of_ble_eq_true rfl) rfl w_1147 (fun _ => rfl) d_M_clear_104 ?_
  refine r_ltI (fun xq2 => ?_)
  refine r_istore (pc := 107) (lv1 := [some (.ref 383), some (.int a1), some (.int x2), some (.int xq1), some (.int xq2), some (.int x5), none]) d_M_clear_107 (Nat.le_of_ble_eq_true rfl) rfl ?_
  refine r_iconst (pc := 109) (v := 0) d_M_clear_109 (by rfl) ?_
  refine r_istore (pc := 110) (lv1 := [some (.ref 383), some (.int a1), some (.int x2), some (.int xq1), some (.int xq2), some (.int x5), some (.int (0 : Int32))]) d_M_clear_110 (Nat.le_of_ble_eq_true rfl) rfl ?_
  exact r_wk (o_M_clear_l112 hn hk55 FU x2 xq1 xq2 x5 (0 : Int32) h) ⟨rfl, ⟨rfl, ⟨rfl, ⟨rfl, ⟨rfl, ⟨rfl, ⟨rfl, trivial⟩⟩⟩⟩⟩⟩⟩
def f_M_clear_l55  (a1 : Int32)  : Nat → Int32 → Int32 → Int32 → Int32 → AH → Option (Int32 × AH)
  | 0, _, _, _, _, _ => none
  | n + 1, x2, x3, x4, x5, h =>
    if x2 ≤ x5 then
      lt (sI h 383 57 (hI h 383 43)) fun hq1 =>
      if ¬ a1 = 0 then
        some (x4, hq1)
      else
        some (x3, hq1)
    else
      bI (f_M_laySellers x5 h) fun rq2 hq3 =>
      if rq2 = 0 then
        lt (x5 + (1 : Int32)) fun xq4 =>
        f_M_clear_l55 a1 n x2 x3 x4 xq4 hq3
      else
        if (hI hq3 383 60) < x3 then
          lt (x5 + (1 : Int32)) fun xq5 =>
          f_M_clear_l55 a1 n x2 x3 x4 xq5 hq3
        else
          if ¬ (hI hq3 383 60) = x3 then
            f_M_clear_b98 a1 (f_M_clear_l55 a1 n) x2 x5 hq3
          else
            if (hI hq3 383 61) < x4 then
              f_M_clear_b98 a1 (f_M_clear_l55 a1 n) x2 x5 hq3
            else
              lt (x5 + (1 : Int32)) fun xq6 =>
              f_M_clear_l55 a1 n x2 x3 x4 xq6 hq3
set_option maxHeartbeats 2000000 in
theorem o_M_clear_l55 {G : AE} {n : Nat} (hn : NN ≤ n)  {a1 : Int32}   : ∀ (n0 : Nat) (x2 : Int32) (x3 : Int32) (x4 : Int32) (x5 : Int32) (h : AH), AJ G n y_M_clear (9) φI 55 [some (.ref 383), some (.int a1), some (.int x2), some (.int x3), some (.int x4), some (.int x5), none] [] h (f_M_clear_l55 a1 n0 x2 x3 x4 x5 h) := by
  intro n0
  induction n0 with
  | zero => intros; exact r_none
  | succ n0 ih =>
    intro x2 x3 x4 x5 h
    rw [f_M_clear_l55]
    refine r_iload (pc := 55) d_M_clear_55 rfl ?_
    refine r_iload_n (pc := 57) (i := 2) d_M_clear_57 rfl rfl ?_
    refine r_icmp_ge (pc := 58) (tgt := 147) d_M_clear_58 (by rfl) ?_ ?_
    · refine r_aload_n (pc := 147) (i := 0) d_M_clear_147 rfl rfl ?_
      refine r_aload_n (pc := 148) (i := 0) d_M_clear_148 rfl rfl ?_
      refine r_getf (pc := 149) (ci := 12) (k := 43) (C := "CricketHayModel") (T := F_12) (N := 73) (v := .int (hI h 383 43)) (fun s => Std.k s (lc hn rfl) kq_383) rfl (Nat.le_of_ble_eq_true rfl) rfl w_1129 (fun _ => rfl) d_M_clear_149 ?_
      refine r_putI (pc := 152) (ci := 12) (k := 57) (C := "CricketHayModel") (T := F_12) (N := 73) (fun s => Std.k s (lc hn rfl) kq_383) rfl (Nat.le_of_ble_eq_true rfl) rfl rfl w_1143 (fun _ _ => rfl) (fun _ => rfl) (fun _ => rfl) (fun s => Std.sI s _ _ _) d_M_clear_152 ?_
      refine r_ltH (fun hq1 => ?_)
      refine r_iload_n (pc := 155) (i := 1) d_M_clear_155 rfl rfl ?_
      refine r_if_ne (pc := 156) (tgt := 163) d_M_clear_156 (by rfl) ?_ ?_
      · refine r_iload (pc := 163) d_M_clear_163 rfl ?_
        exact r_iret (pc := 165) rfl d_M_clear_165
      · refine r_iload_n (pc := 159) (i := 3) d_M_clear_159 rfl rfl ?_
        refine r_goto (pc := 160) (tgt := 165) d_M_clear_160 (by rfl) ?_
        exact r_iret (pc := 165) rfl d_M_clear_165
    · refine r_aload_n (pc := 61) (i := 0) d_M_clear_61 rfl rfl ?_
      refine r_iload (pc := 62) d_M_clear_62 rfl ?_
      refine r_cVi (pc := 64) (T := F_12) (N := 73) (st := []) (ok_M_laySellers hn x5 h) (fun s => Std.k s (lc hn rfl) kq_383) rfl w_1636 w_13 w_1633 w_1635 ws_95 hy_M_laySellers ⟨Nat.le_of_ble_eq_true rfl, Nat.le_of_ble_eq_true rfl⟩ ⟨Nat.le_of_ble_eq_true rfl, Nat.le_of_ble_eq_true rfl⟩ rfl (Nat.le_of_ble_eq_true rfl) d_M_clear_64 (fun rq2 hq3 => ?_)
      refine r_if_eq (pc := 67) (tgt := 141) d_M_clear_67 (by rfl) ?_ ?_
      · refine r_ltE (fun xq4 exq4 => ?_)
        refine r_iinc (pc := 141) (v := xq4) (lv1 := [some (.ref 383), some (.int a1), some (.int x2), some (.int x3), some (.int x4), some (.int xq4), none]) d_M_clear_141 rfl exq4.symm (Nat.le_of_ble_eq_true rfl) rfl ?_
        refine r_goto (pc := 144) (tgt := 55) d_M_clear_144 (by rfl) ?_
        exact r_wk (ih x2 x3 x4 xq4 hq3) ⟨rfl, ⟨rfl, ⟨rfl, ⟨rfl, ⟨rfl, ⟨rfl, trivial⟩⟩⟩⟩⟩⟩
      · refine r_aload_n (pc := 70) (i := 0) d_M_clear_70 rfl rfl ?_
        refine r_getf (pc := 71) (ci := 12) (k := 60) (C := "CricketHayModel") (T := F_12) (N := 73) (v := .int (hI hq3 383 60)) (fun s => Std.k s (lc hn rfl) kq_383) rfl (Nat.le_of_ble_eq_true rfl) rfl w_1146 (fun _ => rfl) d_M_clear_71 ?_
        refine r_iload_n (pc := 74) (i := 3) d_M_clear_74 rfl rfl ?_
        refine r_icmp_lt (pc := 75) (tgt := 141) d_M_clear_75 (by rfl) ?_ ?_
        · refine r_ltE (fun xq5 exq5 => ?_)
          refine r_iinc (pc := 141) (v := xq5) (lv1 := [some (.ref 383), some (.int a1), some (.int x2), some (.int x3), some (.int x4), some (.int xq5), none]) d_M_clear_141 rfl exq5.symm (Nat.le_of_ble_eq_true rfl) rfl ?_
          refine r_goto (pc := 144) (tgt := 55) d_M_clear_144 (by rfl) ?_
          exact r_wk (ih x2 x3 x4 xq5 hq3) ⟨rfl, ⟨rfl, ⟨rfl, ⟨rfl, ⟨rfl, ⟨rfl, trivial⟩⟩⟩⟩⟩⟩
        · refine r_aload_n (pc := 78) (i := 0) d_M_clear_78 rfl rfl ?_
          refine r_getf (pc := 79) (ci := 12) (k := 60) (C := "CricketHayModel") (T := F_12) (N := 73) (v := .int (hI hq3 383 60)) (fun s => Std.k s (lc hn rfl) kq_383) rfl (Nat.le_of_ble_eq_true rfl) rfl w_1146 (fun _ => rfl) d_M_clear_79 ?_
          refine r_iload_n (pc := 82) (i := 3) d_M_clear_82 rfl rfl ?_
          refine r_icmp_ne (pc := 83) (tgt := 98) d_M_clear_83 (by rfl) ?_ ?_
          · exact r_wk (o_M_clear_b98 hn ih x2 x5 hq3) ⟨rfl, ⟨rfl, ⟨rfl, ⟨rfl, trivial⟩⟩⟩⟩
          · refine r_aload_n (pc := 86) (i := 0) d_M_clear_86 rfl rfl ?_
            refine r_getf (pc := 87) (ci := 12) (k := 61) (C := "CricketHayModel") (T := F_12) (N := 73) (v := .int (hI hq3 383 61)) (fun s => Std.k s (lc hn rfl) kq_383) rfl (Nat.le_of_ble_eq_true rfl) rfl w_1147 (fun _ => rfl) d_M_clear_87 ?_
            refine r_iload (pc := 90) d_M_clear_90 rfl ?_
            refine r_icmp_lt (pc := 92) (tgt := 98) d_M_clear_92 (by rfl) ?_ ?_
            · exact r_wk (o_M_clear_b98 hn ih x2 x5 hq3) ⟨rfl, ⟨rfl, ⟨rfl, ⟨rfl, trivial⟩⟩⟩⟩
            · refine r_goto (pc := 95) (tgt := 141) d_M_clear_95 (by rfl) ?_
              refine r_ltE (fun xq6 exq6 => ?_)
              refine r_iinc (pc := 141) (v := xq6) (lv1 := [some (.ref 383), some (.int a1), some (.int x2), some (.int x3), some (.int x4), some (.int xq6), none]) d_M_clear_141 rfl exq6.symm (Nat.le_of_ble_eq_true rfl) rfl ?_
              refine r_goto (pc := 144) (tgt := 55) d_M_clear_144 (by rfl) ?_
              exact r_wk (ih x2 x3 x4 xq6 hq3) ⟨rfl, ⟨rfl, ⟨rfl, ⟨rfl, ⟨rfl, ⟨rfl, trivial⟩⟩⟩⟩⟩⟩
def f_M_clear_l24  (a1 : Int32)  : Nat → Int32 → Int32 → AH → Option (Int32 × AH)
  | 0, _, _, _ => none
  | n + 1, x2, x3, h =>
    if (hI h 383 43) ≤ x3 then
      f_M_clear_l55 a1 FU x2 (-1 : Int32) (0 : Int32) (0 : Int32) h
    else
      lt (x2 * ((hI h 383 43) + (1 : Int32))) fun xq1 =>
      lt (x3 + (1 : Int32)) fun xq2 =>
      f_M_clear_l24 a1 n xq1 xq2 h
set_option maxHeartbeats 2000000 in
theorem o_M_clear_l24 {G : AE} {n : Nat} (hn : NN ≤ n)  {a1 : Int32}   : ∀ (n0 : Nat) (x2 : Int32) (x3 : Int32) (h : AH), AJ G n y_M_clear (9) φI 24 [some (.ref 383), some (.int a1), some (.int x2), some (.int x3), none, none, none] [] h (f_M_clear_l24 a1 n0 x2 x3 h) := by
  intro n0
  induction n0 with
  | zero => intros; exact r_none
  | succ n0 ih =>
    intro x2 x3 h
    rw [f_M_clear_l24]
    refine r_iload_n (pc := 24) (i := 3) d_M_clear_24 rfl rfl ?_
    refine r_aload_n (pc := 25) (i := 0) d_M_clear_25 rfl rfl ?_
    refine r_getf (pc := 26) (ci := 12) (k := 43) (C := "CricketHayModel") (T := F_12) (N := 73) (v := .int (hI h 383 43)) (fun s => Std.k s (lc hn rfl) kq_383) rfl (Nat.le_of_ble_eq_true rfl) rfl w_1129 (fun _ => rfl) d_M_clear_26 ?_
    refine r_icmp_ge (pc := 29) (tgt := 47) d_M_clear_29 (by rfl) ?_ ?_
    · refine r_iconst (pc := 47) (v := -1) d_M_clear_47 (by rfl) ?_
      refine r_istore_n (pc := 48) (i := 3) (lv1 := [some (.ref 383), some (.int a1), some (.int x2), some (.int (-1 : Int32)), none, none, none]) d_M_clear_48 rfl (Nat.le_of_ble_eq_true rfl) rfl ?_
      refine r_iconst (pc := 49) (v := 0) d_M_clear_49 (by rfl) ?_
      refine r_istore (pc := 50) (lv1 := [some (.ref 383), some (.int a1), some (.int x2), some (.int (-1 : Int32)), some (.int (0 : Int32)), none, none]) d_M_clear_50 (Nat.le_of_ble_eq_true rfl) rfl ?_
      refine r_iconst (pc := 52) (v := 0) d_M_clear_52 (by rfl) ?_
      refine r_istore (pc := 53) (lv1 := [some (.ref 383), some (.int a1), some (.int x2), some (.int (-1 : Int32)), some (.int (0 : Int32)), some (.int (0 : Int32)), none]) d_M_clear_53 (Nat.le_of_ble_eq_true rfl) rfl ?_
      exact r_wk (o_M_clear_l55 hn FU x2 (-1 : Int32) (0 : Int32) (0 : Int32) h) ⟨rfl, ⟨rfl, ⟨rfl, ⟨rfl, ⟨rfl, ⟨rfl, trivial⟩⟩⟩⟩⟩⟩
    · refine r_iload_n (pc := 32) (i := 2) d_M_clear_32 rfl rfl ?_
      refine r_aload_n (pc := 33) (i := 0) d_M_clear_33 rfl rfl ?_
      refine r_getf (pc := 34) (ci := 12) (k := 43) (C := "CricketHayModel") (T := F_12) (N := 73) (v := .int (hI h 383 43)) (fun s => Std.k s (lc hn rfl) kq_383) rfl (Nat.le_of_ble_eq_true rfl) rfl w_1129 (fun _ => rfl) d_M_clear_34 ?_
      refine r_iconst (pc := 37) (v := 1) d_M_clear_37 (by rfl) ?_
      refine r_iadd (pc := 38) d_M_clear_38 ?_
      refine r_imul (pc := 39) d_M_clear_39 ?_
      refine r_ltI (fun xq1 => ?_)
      refine r_istore_n (pc := 40) (i := 2) (lv1 := [some (.ref 383), some (.int a1), some (.int xq1), some (.int x3), none, none, none]) d_M_clear_40 rfl (Nat.le_of_ble_eq_true rfl) rfl ?_
      refine r_ltE (fun xq2 exq2 => ?_)
      refine r_iinc (pc := 41) (v := xq2) (lv1 := [some (.ref 383), some (.int a1), some (.int xq1), some (.int xq2), none, none, none]) d_M_clear_41 rfl exq2.symm (Nat.le_of_ble_eq_true rfl) rfl ?_
      refine r_goto (pc := 44) (tgt := 24) d_M_clear_44 (by rfl) ?_
      exact r_wk (ih xq1 xq2 h) ⟨rfl, ⟨rfl, ⟨rfl, ⟨rfl, trivial⟩⟩⟩⟩
def f_M_clear  (a1 : Int32) (h : AH) : Option (Int32 × AH) :=
  lt (sI h 383 57 (0 : Int32)) fun hq1 =>
  bI (f_M_isIn a1 (0 : Int32) (1 : Int32) hq1) fun rq2 hq3 =>
  if ¬ rq2 = 0 then
    bV (f_M_load hq3) fun hq4 =>
    f_M_clear_l24 a1 FU (1 : Int32) (0 : Int32) hq4
  else
    some ((-1 : Int32), hq3)
set_option maxHeartbeats 2000000 in
theorem ok_M_clear {G : AE} {n : Nat} (hn : NN ≤ n)  (a1 : Int32) (h : AH) : OK G n y_M_clear (9) φI [.ref 383, .int a1] h (f_M_clear a1 h) := by
  refine ok_of (y := y_M_clear) (lv0 := [some (.ref 383), some (.int a1), none, none, none, none, none]) (by decide +kernel) (Nat.le_of_ble_eq_true rfl) ⟨rfl, ⟨rfl, trivial⟩⟩ ?_
  rw [f_M_clear]
  refine r_aload_n (pc := 0) (i := 0) d_M_clear_0 rfl rfl ?_
  refine r_iconst (pc := 1) (v := 0) d_M_clear_1 (by rfl) ?_
  refine r_putI (pc := 2) (ci := 12) (k := 57) (C := "CricketHayModel") (T := F_12) (N := 73) (fun s => Std.k s (lc hn rfl) kq_383) rfl (Nat.le_of_ble_eq_true rfl) rfl rfl w_1143 (fun _ _ => rfl) (fun _ => rfl) (fun _ => rfl) (fun s => Std.sI s _ _ _) d_M_clear_2 ?_
  refine r_ltH (fun hq1 => ?_)
  refine r_iload_n (pc := 5) (i := 1) d_M_clear_5 rfl rfl ?_
  refine r_iconst (pc := 6) (v := 0) d_M_clear_6 (by rfl) ?_
  refine r_iconst (pc := 7) (v := 1) d_M_clear_7 (by rfl) ?_
  refine r_cSi (pc := 8) (st := []) (ok_M_isIn hn a1 (0 : Int32) (1 : Int32) hq1) w_1479 w_13 w_1477 w_1478 hy_M_isIn ⟨Nat.le_of_ble_eq_true rfl, Nat.le_of_ble_eq_true rfl⟩ ⟨Nat.le_of_ble_eq_true rfl, Nat.le_of_ble_eq_true rfl⟩ rfl (Nat.le_of_ble_eq_true rfl) d_M_clear_8 (fun rq2 hq3 => ?_)
  refine r_if_ne (pc := 11) (tgt := 16) d_M_clear_11 (by rfl) ?_ ?_
  · refine r_aload_n (pc := 16) (i := 0) d_M_clear_16 rfl rfl ?_
    refine r_cVv (pc := 17) (T := F_12) (N := 73) (st := []) (ok_M_load hn hq3) (fun s => Std.k s (lc hn rfl) kq_383) rfl w_1483 w_13 w_1480 w_1482 ws_76 hy_M_load ⟨Nat.le_of_ble_eq_true rfl, Nat.le_of_ble_eq_true rfl⟩ ⟨Nat.le_of_ble_eq_true rfl, Nat.le_of_ble_eq_true rfl⟩ rfl (Nat.le_of_ble_eq_true rfl) d_M_clear_17 (fun hq4 => ?_)
    refine r_iconst (pc := 20) (v := 1) d_M_clear_20 (by rfl) ?_
    refine r_istore_n (pc := 21) (i := 2) (lv1 := [some (.ref 383), some (.int a1), some (.int (1 : Int32)), none, none, none, none]) d_M_clear_21 rfl (Nat.le_of_ble_eq_true rfl) rfl ?_
    refine r_iconst (pc := 22) (v := 0) d_M_clear_22 (by rfl) ?_
    refine r_istore_n (pc := 23) (i := 3) (lv1 := [some (.ref 383), some (.int a1), some (.int (1 : Int32)), some (.int (0 : Int32)), none, none, none]) d_M_clear_23 rfl (Nat.le_of_ble_eq_true rfl) rfl ?_
    exact r_wk (o_M_clear_l24 hn FU (1 : Int32) (0 : Int32) hq4) ⟨rfl, ⟨rfl, ⟨rfl, ⟨rfl, trivial⟩⟩⟩⟩
  · refine r_iconst (pc := 14) (v := -1) d_M_clear_14 (by rfl) ?_
    exact r_iret (pc := 15) rfl d_M_clear_15

def f_M_allPrices_l14   (k4 : Int32 → Int32 → AH → Option (Int32 × AH)) : Nat → Int32 → Int32 → Int32 → AH → Option (Int32 × AH)
  | 0, _, _, _, _ => none
  | n + 1, x1, x2, x3, h =>
    if x2 ≤ x3 then
      lt (x2 + (1 : Int32)) fun xq1 =>
      k4 x1 xq1 h
    else
      bI (f_M_priceOf x2 x3 h) fun rq2 hq3 =>
      lt (x1 + rq2) fun xq4 =>
      lt (x3 + (1 : Int32)) fun xq5 =>
      f_M_allPrices_l14 k4 n xq4 x2 xq5 hq3
set_option maxHeartbeats 2000000 in
theorem o_M_allPrices_l14 {G : AE} {n : Nat} (hn : NN ≤ n)    {k4 : Int32 → Int32 → AH → Option (Int32 × AH)} (hk4 : ∀ (x1 : Int32) (x2 : Int32) (h : AH), AJ G n y_M_allPrices (7) φI 4 [some (.ref 383), some (.int x1), some (.int x2), none] [] h (k4 x1 x2 h)) : ∀ (n0 : Nat) (x1 : Int32) (x2 : Int32) (x3 : Int32) (h : AH), AJ G n y_M_allPrices (7) φI 14 [some (.ref 383), some (.int x1), some (.int x2), some (.int x3)] [] h (f_M_allPrices_l14 k4 n0 x1 x2 x3 h) := by
  intro n0
  induction n0 with
  | zero => intros; exact r_none
  | succ n0 ih =>
    intro x1 x2 x3 h
    rw [f_M_allPrices_l14]
    refine r_iload_n (pc := 14) (i := 3) d_M_allPrices_14 rfl rfl ?_
    refine r_iload_n (pc := 15) (i := 2) d_M_allPrices_15 rfl rfl ?_
    refine r_icmp_ge (pc := 16) (tgt := 34) d_M_allPrices_16 (by rfl) ?_ ?_
    · refine r_ltE (fun xq1 exq1 => ?_)
      refine r_iinc (pc := 34) (v := xq1) (lv1 := [some (.ref 383), some (.int x1), some (.int xq1), some (.int x3)]) d_M_allPrices_34 rfl exq1.symm (Nat.le_of_ble_eq_true rfl) rfl ?_
      refine r_goto (pc := 37) (tgt := 4) d_M_allPrices_37 (by rfl) ?_
      exact r_wk (hk4 x1 xq1 h) ⟨rfl, ⟨rfl, ⟨rfl, trivial⟩⟩⟩
    · refine r_iload_n (pc := 19) (i := 1) d_M_allPrices_19 rfl rfl ?_
      refine r_aload_n (pc := 20) (i := 0) d_M_allPrices_20 rfl rfl ?_
      refine r_iload_n (pc := 21) (i := 2) d_M_allPrices_21 rfl rfl ?_
      refine r_iload_n (pc := 22) (i := 3) d_M_allPrices_22 rfl rfl ?_
      refine r_cVi (pc := 23) (T := F_12) (N := 73) (st := [.int x1]) (ok_M_priceOf hn x2 x3 h) (fun s => Std.k s (lc hn rfl) kq_383) rfl w_1536 w_13 w_1533 w_1535 ws_85 hy_M_priceOf ⟨Nat.le_of_ble_eq_true rfl, Nat.le_of_ble_eq_true rfl⟩ ⟨Nat.le_of_ble_eq_true rfl, Nat.le_of_ble_eq_true rfl⟩ rfl (Nat.le_of_ble_eq_true rfl) d_M_allPrices_23 (fun rq2 hq3 => ?_)
      refine r_iadd (pc := 26) d_M_allPrices_26 ?_
      refine r_ltI (fun xq4 => ?_)
      refine r_istore_n (pc := 27) (i := 1) (lv1 := [some (.ref 383), some (.int xq4), some (.int x2), some (.int x3)]) d_M_allPrices_27 rfl (Nat.le_of_ble_eq_true rfl) rfl ?_
      refine r_ltE (fun xq5 exq5 => ?_)
      refine r_iinc (pc := 28) (v := xq5) (lv1 := [some (.ref 383), some (.int xq4), some (.int x2), some (.int xq5)]) d_M_allPrices_28 rfl exq5.symm (Nat.le_of_ble_eq_true rfl) rfl ?_
      refine r_goto (pc := 31) (tgt := 14) d_M_allPrices_31 (by rfl) ?_
      exact r_wk (ih xq4 x2 xq5 hq3) ⟨rfl, ⟨rfl, ⟨rfl, ⟨rfl, trivial⟩⟩⟩⟩
def f_M_allPrices_l4    : Nat → Int32 → Int32 → AH → Option (Int32 × AH)
  | 0, _, _, _ => none
  | n + 1, x1, x2, h =>
    if (hI h 383 43) ≤ x2 then
      some (x1, h)
    else
      f_M_allPrices_l14 (f_M_allPrices_l4 n) FU x1 x2 (0 : Int32) h
set_option maxHeartbeats 2000000 in
theorem o_M_allPrices_l4 {G : AE} {n : Nat} (hn : NN ≤ n)     : ∀ (n0 : Nat) (x1 : Int32) (x2 : Int32) (h : AH), AJ G n y_M_allPrices (7) φI 4 [some (.ref 383), some (.int x1), some (.int x2), none] [] h (f_M_allPrices_l4 n0 x1 x2 h) := by
  intro n0
  induction n0 with
  | zero => intros; exact r_none
  | succ n0 ih =>
    intro x1 x2 h
    rw [f_M_allPrices_l4]
    refine r_iload_n (pc := 4) (i := 2) d_M_allPrices_4 rfl rfl ?_
    refine r_aload_n (pc := 5) (i := 0) d_M_allPrices_5 rfl rfl ?_
    refine r_getf (pc := 6) (ci := 12) (k := 43) (C := "CricketHayModel") (T := F_12) (N := 73) (v := .int (hI h 383 43)) (fun s => Std.k s (lc hn rfl) kq_383) rfl (Nat.le_of_ble_eq_true rfl) rfl w_1129 (fun _ => rfl) d_M_allPrices_6 ?_
    refine r_icmp_ge (pc := 9) (tgt := 40) d_M_allPrices_9 (by rfl) ?_ ?_
    · refine r_iload_n (pc := 40) (i := 1) d_M_allPrices_40 rfl rfl ?_
      exact r_iret (pc := 41) rfl d_M_allPrices_41
    · refine r_iconst (pc := 12) (v := 0) d_M_allPrices_12 (by rfl) ?_
      refine r_istore_n (pc := 13) (i := 3) (lv1 := [some (.ref 383), some (.int x1), some (.int x2), some (.int (0 : Int32))]) d_M_allPrices_13 rfl (Nat.le_of_ble_eq_true rfl) rfl ?_
      exact r_wk (o_M_allPrices_l14 hn ih FU x1 x2 (0 : Int32) h) ⟨rfl, ⟨rfl, ⟨rfl, ⟨rfl, trivial⟩⟩⟩⟩
def f_M_allPrices   (h : AH) : Option (Int32 × AH) :=
  f_M_allPrices_l4 FU (0 : Int32) (0 : Int32) h
set_option maxHeartbeats 2000000 in
theorem ok_M_allPrices {G : AE} {n : Nat} (hn : NN ≤ n)   (h : AH) : OK G n y_M_allPrices (7) φI [.ref 383] h (f_M_allPrices h) := by
  refine ok_of (y := y_M_allPrices) (lv0 := [some (.ref 383), none, none, none]) (by decide +kernel) (Nat.le_of_ble_eq_true rfl) ⟨rfl, trivial⟩ ?_
  rw [f_M_allPrices]
  refine r_iconst (pc := 0) (v := 0) d_M_allPrices_0 (by rfl) ?_
  refine r_istore_n (pc := 1) (i := 1) (lv1 := [some (.ref 383), some (.int (0 : Int32)), none, none]) d_M_allPrices_1 rfl (Nat.le_of_ble_eq_true rfl) rfl ?_
  refine r_iconst (pc := 2) (v := 0) d_M_allPrices_2 (by rfl) ?_
  refine r_istore_n (pc := 3) (i := 2) (lv1 := [some (.ref 383), some (.int (0 : Int32)), some (.int (0 : Int32)), none]) d_M_allPrices_3 rfl (Nat.le_of_ble_eq_true rfl) rfl ?_
  exact r_wk (o_M_allPrices_l4 hn FU (0 : Int32) (0 : Int32) h) ⟨rfl, ⟨rfl, ⟨rfl, trivial⟩⟩⟩

def f_M_spoils  (a1 : Int32) (h : AH) : Option (Int32 × AH) :=
  bI (f_M_isThere a1 h) fun rq1 hq2 =>
  if ¬ rq1 = 0 then
    bV (f_M_load hq2) fun hq3 =>
    bI (f_M_allPrices hq3) fun rq4 hq5 =>
    lt (sI hq5 406 30 ((hI hq5 406 30) ||| ((1 : Int32) <<< (a1 &&& 31)))) fun hq6 =>
    bI (f_M_allPrices hq6) fun rq7 hq8 =>
    some ((rq4 - rq7), hq8)
  else
    some ((-1000000 : Int32), hq2)
set_option maxHeartbeats 2000000 in
theorem ok_M_spoils {G : AE} {n : Nat} (hn : NN ≤ n)  (a1 : Int32) (h : AH) : OK G n y_M_spoils (8) φI [.ref 383, .int a1] h (f_M_spoils a1 h) := by
  refine ok_of (y := y_M_spoils) (lv0 := [some (.ref 383), some (.int a1), none]) (by decide +kernel) (Nat.le_of_ble_eq_true rfl) ⟨rfl, ⟨rfl, trivial⟩⟩ ?_
  rw [f_M_spoils]
  refine r_aload_n (pc := 0) (i := 0) d_M_spoils_0 rfl rfl ?_
  refine r_iload_n (pc := 1) (i := 1) d_M_spoils_1 rfl rfl ?_
  refine r_cVi (pc := 2) (T := F_12) (N := 73) (st := []) (ok_M_isThere hn a1 h) (fun s => Std.k s (lc hn rfl) kq_383) rfl w_1568 w_13 w_1565 w_1567 ws_88 hy_M_isThere ⟨Nat.le_of_ble_eq_true rfl, Nat.le_of_ble_eq_true rfl⟩ ⟨Nat.le_of_ble_eq_true rfl, Nat.le_of_ble_eq_true rfl⟩ rfl (Nat.le_of_ble_eq_true rfl) d_M_spoils_2 (fun rq1 hq2 => ?_)
  refine r_if_ne (pc := 5) (tgt := 12) d_M_spoils_5 (by rfl) ?_ ?_
  · refine r_aload_n (pc := 12) (i := 0) d_M_spoils_12 rfl rfl ?_
    refine r_cVv (pc := 13) (T := F_12) (N := 73) (st := []) (ok_M_load hn hq2) (fun s => Std.k s (lc hn rfl) kq_383) rfl w_1483 w_13 w_1480 w_1482 ws_76 hy_M_load ⟨Nat.le_of_ble_eq_true rfl, Nat.le_of_ble_eq_true rfl⟩ ⟨Nat.le_of_ble_eq_true rfl, Nat.le_of_ble_eq_true rfl⟩ rfl (Nat.le_of_ble_eq_true rfl) d_M_spoils_13 (fun hq3 => ?_)
    refine r_aload_n (pc := 16) (i := 0) d_M_spoils_16 rfl rfl ?_
    refine r_cVi (pc := 17) (T := F_12) (N := 73) (st := []) (ok_M_allPrices hn hq3) (fun s => Std.k s (lc hn rfl) kq_383) rfl w_1657 w_13 w_1654 w_1656 ws_99 hy_M_allPrices ⟨Nat.le_of_ble_eq_true rfl, Nat.le_of_ble_eq_true rfl⟩ ⟨Nat.le_of_ble_eq_true rfl, Nat.le_of_ble_eq_true rfl⟩ rfl (Nat.le_of_ble_eq_true rfl) d_M_spoils_17 (fun rq4 hq5 => ?_)
    refine r_istore_n (pc := 20) (i := 2) (lv1 := [some (.ref 383), some (.int a1), some (.int rq4)]) d_M_spoils_20 rfl (Nat.le_of_ble_eq_true rfl) rfl ?_
    refine r_aload_n (pc := 21) (i := 0) d_M_spoils_21 rfl rfl ?_
    refine r_getf (pc := 22) (ci := 12) (k := 51) (C := "CricketHayModel") (T := F_12) (N := 73) (v := .ref 406) (fun s => Std.k s (lc hn rfl) kq_383) rfl (Nat.le_of_ble_eq_true rfl) rfl w_1137 (fun s => vr rfl (Std.r s (lc hn rfl) rq_383_51)) d_M_spoils_22 ?_
    refine r_bipush (pc := 25) (v := 30) d_M_spoils_25 (by rfl) ?_
    refine r_dup2 (pc := 27) d_M_spoils_27 rfl rfl ?_
    refine r_iald (pc := 28) (n := 35) (i0 := 30) (fun s => Std.k s (lc hn rfl) kq_406) (vin (k := 30) rfl rfl) rfl d_M_spoils_28 ?_
    refine r_iconst (pc := 29) (v := 1) d_M_spoils_29 (by rfl) ?_
    refine r_iload_n (pc := 30) (i := 1) d_M_spoils_30 rfl rfl ?_
    refine r_ishl (pc := 31) d_M_spoils_31 ?_
    refine r_ior (pc := 32) d_M_spoils_32 ?_
    refine r_iast (pc := 33) (n := 35) (i0 := 30) (fun s => Std.k s (lc hn rfl) kq_406) (vin (k := 30) rfl rfl) rfl (fun s => Std.sI s _ _ _) d_M_spoils_33 ?_
    refine r_ltH (fun hq6 => ?_)
    refine r_iload_n (pc := 34) (i := 2) d_M_spoils_34 rfl rfl ?_
    refine r_aload_n (pc := 35) (i := 0) d_M_spoils_35 rfl rfl ?_
    refine r_cVi (pc := 36) (T := F_12) (N := 73) (st := [.int rq4]) (ok_M_allPrices hn hq6) (fun s => Std.k s (lc hn rfl) kq_383) rfl w_1657 w_13 w_1654 w_1656 ws_99 hy_M_allPrices ⟨Nat.le_of_ble_eq_true rfl, Nat.le_of_ble_eq_true rfl⟩ ⟨Nat.le_of_ble_eq_true rfl, Nat.le_of_ble_eq_true rfl⟩ rfl (Nat.le_of_ble_eq_true rfl) d_M_spoils_36 (fun rq7 hq8 => ?_)
    refine r_isub (pc := 39) d_M_spoils_39 ?_
    exact r_iret (pc := 40) rfl d_M_spoils_40
  · refine r_ldcw (pc := 8) w_1653 d_M_spoils_8 ?_
    exact r_iret (pc := 11) rfl d_M_spoils_11

def f_M_starve_l21  (a1 : Int32)  : Nat → Int32 → Int32 → AH → Option (Int32 × AH)
  | 0, _, _, _ => none
  | n + 1, x2, x3, h =>
    if (hI h 383 43) ≤ x3 then
      some (x2, h)
    else
      gx ((12 : Int32) + x3) 35 <|
      lt (x2 + (hI h 406 (ix ((12 : Int32) + x3)))) fun xq2 =>
      lt (x3 + (1 : Int32)) fun xq3 =>
      f_M_starve_l21 a1 n xq2 xq3 h
set_option maxHeartbeats 2000000 in
theorem o_M_starve_l21 {G : AE} {n : Nat} (hn : NN ≤ n)  {a1 : Int32}   : ∀ (n0 : Nat) (x2 : Int32) (x3 : Int32) (h : AH), AJ G n y_M_starve (5) φI 21 [some (.ref 383), none, some (.int x2), some (.int x3)] [] h (f_M_starve_l21 a1 n0 x2 x3 h) := by
  intro n0
  induction n0 with
  | zero => intros; exact r_none
  | succ n0 ih =>
    intro x2 x3 h
    rw [f_M_starve_l21]
    refine r_iload_n (pc := 21) (i := 3) d_M_starve_21 rfl rfl ?_
    refine r_aload_n (pc := 22) (i := 0) d_M_starve_22 rfl rfl ?_
    refine r_getf (pc := 23) (ci := 12) (k := 43) (C := "CricketHayModel") (T := F_12) (N := 73) (v := .int (hI h 383 43)) (fun s => Std.k s (lc hn rfl) kq_383) rfl (Nat.le_of_ble_eq_true rfl) rfl w_1129 (fun _ => rfl) d_M_starve_23 ?_
    refine r_icmp_ge (pc := 26) (tgt := 47) d_M_starve_26 (by rfl) ?_ ?_
    · refine r_iload_n (pc := 47) (i := 2) d_M_starve_47 rfl rfl ?_
      exact r_iret (pc := 48) rfl d_M_starve_48
    · refine r_iload_n (pc := 29) (i := 2) d_M_starve_29 rfl rfl ?_
      refine r_aload_n (pc := 30) (i := 0) d_M_starve_30 rfl rfl ?_
      refine r_getf (pc := 31) (ci := 12) (k := 51) (C := "CricketHayModel") (T := F_12) (N := 73) (v := .ref 406) (fun s => Std.k s (lc hn rfl) kq_383) rfl (Nat.le_of_ble_eq_true rfl) rfl w_1137 (fun s => vr rfl (Std.r s (lc hn rfl) rq_383_51)) d_M_starve_31 ?_
      refine r_bipush (pc := 34) (v := 12) d_M_starve_34 (by rfl) ?_
      refine r_iload_n (pc := 36) (i := 3) d_M_starve_36 rfl rfl ?_
      refine r_iadd (pc := 37) d_M_starve_37 ?_
      refine r_gx (fun zq1 => ?_)
      refine r_iald (pc := 38) (n := 35) (i0 := (ix ((12 : Int32) + x3))) (fun s => Std.k s (lc hn rfl) kq_406) zq1 rfl d_M_starve_38 ?_
      refine r_iadd (pc := 39) d_M_starve_39 ?_
      refine r_ltI (fun xq2 => ?_)
      refine r_istore_n (pc := 40) (i := 2) (lv1 := [some (.ref 383), none, some (.int xq2), some (.int x3)]) d_M_starve_40 rfl (Nat.le_of_ble_eq_true rfl) rfl ?_
      refine r_ltE (fun xq3 exq3 => ?_)
      refine r_iinc (pc := 41) (v := xq3) (lv1 := [some (.ref 383), none, some (.int xq2), some (.int xq3)]) d_M_starve_41 rfl exq3.symm (Nat.le_of_ble_eq_true rfl) rfl ?_
      refine r_goto (pc := 44) (tgt := 21) d_M_starve_44 (by rfl) ?_
      exact r_wk (ih xq2 xq3 h) ⟨rfl, ⟨rfl, ⟨rfl, trivial⟩⟩⟩
def f_M_starve  (a1 : Int32) (h : AH) : Option (Int32 × AH) :=
  bI (f_M_isIn a1 (0 : Int32) (60 : Int32) h) fun rq1 hq2 =>
  if ¬ rq1 = 0 then
    bV (f_M_goFar a1 hq2) fun hq3 =>
    f_M_starve_l21 a1 FU (0 : Int32) (0 : Int32) hq3
  else
    some ((-1 : Int32), hq2)
set_option maxHeartbeats 2000000 in
theorem ok_M_starve {G : AE} {n : Nat} (hn : NN ≤ n)  (a1 : Int32) (h : AH) : OK G n y_M_starve (5) φI [.ref 383, .int a1] h (f_M_starve a1 h) := by
  refine ok_of (y := y_M_starve) (lv0 := [some (.ref 383), some (.int a1), none, none]) (by decide +kernel) (Nat.le_of_ble_eq_true rfl) ⟨rfl, ⟨rfl, trivial⟩⟩ ?_
  rw [f_M_starve]
  refine r_iload_n (pc := 0) (i := 1) d_M_starve_0 rfl rfl ?_
  refine r_iconst (pc := 1) (v := 0) d_M_starve_1 (by rfl) ?_
  refine r_bipush (pc := 2) (v := 60) d_M_starve_2 (by rfl) ?_
  refine r_cSi (pc := 4) (st := []) (ok_M_isIn hn a1 (0 : Int32) (60 : Int32) h) w_1479 w_13 w_1477 w_1478 hy_M_isIn ⟨Nat.le_of_ble_eq_true rfl, Nat.le_of_ble_eq_true rfl⟩ ⟨Nat.le_of_ble_eq_true rfl, Nat.le_of_ble_eq_true rfl⟩ rfl (Nat.le_of_ble_eq_true rfl) d_M_starve_4 (fun rq1 hq2 => ?_)
  refine r_if_ne (pc := 7) (tgt := 12) d_M_starve_7 (by rfl) ?_ ?_
  · refine r_aload_n (pc := 12) (i := 0) d_M_starve_12 rfl rfl ?_
    refine r_iload_n (pc := 13) (i := 1) d_M_starve_13 rfl rfl ?_
    refine r_cVv (pc := 14) (T := F_12) (N := 73) (st := []) (ok_M_goFar hn a1 hq2) (fun s => Std.k s (lc hn rfl) kq_383) rfl w_1608 w_13 w_1605 w_1607 ws_93 hy_M_goFar ⟨Nat.le_of_ble_eq_true rfl, Nat.le_of_ble_eq_true rfl⟩ ⟨Nat.le_of_ble_eq_true rfl, Nat.le_of_ble_eq_true rfl⟩ rfl (Nat.le_of_ble_eq_true rfl) d_M_starve_14 (fun hq3 => ?_)
    refine r_iconst (pc := 17) (v := 0) d_M_starve_17 (by rfl) ?_
    refine r_istore_n (pc := 18) (i := 2) (lv1 := [some (.ref 383), some (.int a1), some (.int (0 : Int32)), none]) d_M_starve_18 rfl (Nat.le_of_ble_eq_true rfl) rfl ?_
    refine r_iconst (pc := 19) (v := 0) d_M_starve_19 (by rfl) ?_
    refine r_istore_n (pc := 20) (i := 3) (lv1 := [some (.ref 383), some (.int a1), some (.int (0 : Int32)), some (.int (0 : Int32))]) d_M_starve_20 rfl (Nat.le_of_ble_eq_true rfl) rfl ?_
    exact r_wk (o_M_starve_l21 hn FU (0 : Int32) (0 : Int32) hq3) ⟨rfl, ⟨rfl, ⟨rfl, trivial⟩⟩⟩
  · refine r_iconst (pc := 10) (v := -1) d_M_starve_10 (by rfl) ?_
    exact r_iret (pc := 11) rfl d_M_starve_11

def f_M_hush_l19  (a1 : Int32)  : Nat → Int32 → AH → Option (Int32 × AH)
  | 0, _, _ => none
  | n + 1, x2, h =>
    if (60 : Int32) < x2 then
      some ((-1 : Int32), h)
    else
      bI (f_M_chorusHere h) fun rq1 hq2 =>
      if a1 < rq1 then
        bV (f_M_goHour hq2) fun hq3 =>
        lt (x2 + (1 : Int32)) fun xq4 =>
        f_M_hush_l19 a1 n xq4 hq3
      else
        some (x2, hq2)
set_option maxHeartbeats 2000000 in
theorem o_M_hush_l19 {G : AE} {n : Nat} (hn : NN ≤ n)  {a1 : Int32}   : ∀ (n0 : Nat) (x2 : Int32) (h : AH), AJ G n y_M_hush (7) φI 19 [some (.ref 383), some (.int a1), some (.int x2)] [] h (f_M_hush_l19 a1 n0 x2 h) := by
  intro n0
  induction n0 with
  | zero => intros; exact r_none
  | succ n0 ih =>
    intro x2 h
    rw [f_M_hush_l19]
    refine r_iload_n (pc := 19) (i := 2) d_M_hush_19 rfl rfl ?_
    refine r_bipush (pc := 20) (v := 60) d_M_hush_20 (by rfl) ?_
    refine r_icmp_gt (pc := 22) (tgt := 45) d_M_hush_22 (by rfl) ?_ ?_
    · refine r_iconst (pc := 45) (v := -1) d_M_hush_45 (by rfl) ?_
      exact r_iret (pc := 46) rfl d_M_hush_46
    · refine r_aload_n (pc := 25) (i := 0) d_M_hush_25 rfl rfl ?_
      refine r_cVi (pc := 26) (T := F_12) (N := 73) (st := []) (ok_M_chorusHere hn h) (fun s => Std.k s (lc hn rfl) kq_383) rfl w_1548 w_13 w_1545 w_1547 ws_86 hy_M_chorusHere ⟨Nat.le_of_ble_eq_true rfl, Nat.le_of_ble_eq_true rfl⟩ ⟨Nat.le_of_ble_eq_true rfl, Nat.le_of_ble_eq_true rfl⟩ rfl (Nat.le_of_ble_eq_true rfl) d_M_hush_26 (fun rq1 hq2 => ?_)
      refine r_iload_n (pc := 29) (i := 1) d_M_hush_29 rfl rfl ?_
      refine r_icmp_gt (pc := 30) (tgt := 35) d_M_hush_30 (by rfl) ?_ ?_
      · refine r_aload_n (pc := 35) (i := 0) d_M_hush_35 rfl rfl ?_
        refine r_cVv (pc := 36) (T := F_12) (N := 73) (st := []) (ok_M_goHour hn hq2) (fun s => Std.k s (lc hn rfl) kq_383) rfl w_1580 w_13 w_1577 w_1579 ws_89 hy_M_goHour ⟨Nat.le_of_ble_eq_true rfl, Nat.le_of_ble_eq_true rfl⟩ ⟨Nat.le_of_ble_eq_true rfl, Nat.le_of_ble_eq_true rfl⟩ rfl (Nat.le_of_ble_eq_true rfl) d_M_hush_36 (fun hq3 => ?_)
        refine r_ltE (fun xq4 exq4 => ?_)
        refine r_iinc (pc := 39) (v := xq4) (lv1 := [some (.ref 383), some (.int a1), some (.int xq4)]) d_M_hush_39 rfl exq4.symm (Nat.le_of_ble_eq_true rfl) rfl ?_
        refine r_goto (pc := 42) (tgt := 19) d_M_hush_42 (by rfl) ?_
        exact r_wk (ih xq4 hq3) ⟨rfl, ⟨rfl, ⟨rfl, trivial⟩⟩⟩
      · refine r_iload_n (pc := 33) (i := 2) d_M_hush_33 rfl rfl ?_
        exact r_iret (pc := 34) rfl d_M_hush_34
def f_M_hush  (a1 : Int32) (h : AH) : Option (Int32 × AH) :=
  bI (f_M_isIn a1 (0 : Int32) (594 : Int32) h) fun rq1 hq2 =>
  if ¬ rq1 = 0 then
    bV (f_M_load hq2) fun hq3 =>
    f_M_hush_l19 a1 FU (0 : Int32) hq3
  else
    some ((-1 : Int32), hq2)
set_option maxHeartbeats 2000000 in
theorem ok_M_hush {G : AE} {n : Nat} (hn : NN ≤ n)  (a1 : Int32) (h : AH) : OK G n y_M_hush (7) φI [.ref 383, .int a1] h (f_M_hush a1 h) := by
  refine ok_of (y := y_M_hush) (lv0 := [some (.ref 383), some (.int a1), none]) (by decide +kernel) (Nat.le_of_ble_eq_true rfl) ⟨rfl, ⟨rfl, trivial⟩⟩ ?_
  rw [f_M_hush]
  refine r_iload_n (pc := 0) (i := 1) d_M_hush_0 rfl rfl ?_
  refine r_iconst (pc := 1) (v := 0) d_M_hush_1 (by rfl) ?_
  refine r_sipush (pc := 2) (v := 594) d_M_hush_2 (by rfl) ?_
  refine r_cSi (pc := 5) (st := []) (ok_M_isIn hn a1 (0 : Int32) (594 : Int32) h) w_1479 w_13 w_1477 w_1478 hy_M_isIn ⟨Nat.le_of_ble_eq_true rfl, Nat.le_of_ble_eq_true rfl⟩ ⟨Nat.le_of_ble_eq_true rfl, Nat.le_of_ble_eq_true rfl⟩ rfl (Nat.le_of_ble_eq_true rfl) d_M_hush_5 (fun rq1 hq2 => ?_)
  refine r_if_ne (pc := 8) (tgt := 13) d_M_hush_8 (by rfl) ?_ ?_
  · refine r_aload_n (pc := 13) (i := 0) d_M_hush_13 rfl rfl ?_
    refine r_cVv (pc := 14) (T := F_12) (N := 73) (st := []) (ok_M_load hn hq2) (fun s => Std.k s (lc hn rfl) kq_383) rfl w_1483 w_13 w_1480 w_1482 ws_76 hy_M_load ⟨Nat.le_of_ble_eq_true rfl, Nat.le_of_ble_eq_true rfl⟩ ⟨Nat.le_of_ble_eq_true rfl, Nat.le_of_ble_eq_true rfl⟩ rfl (Nat.le_of_ble_eq_true rfl) d_M_hush_14 (fun hq3 => ?_)
    refine r_iconst (pc := 17) (v := 0) d_M_hush_17 (by rfl) ?_
    refine r_istore_n (pc := 18) (i := 2) (lv1 := [some (.ref 383), some (.int a1), some (.int (0 : Int32))]) d_M_hush_18 rfl (Nat.le_of_ble_eq_true rfl) rfl ?_
    exact r_wk (o_M_hush_l19 hn FU (0 : Int32) hq3) ⟨rfl, ⟨rfl, ⟨rfl, trivial⟩⟩⟩
  · refine r_iconst (pc := 11) (v := -1) d_M_hush_11 (by rfl) ?_
    exact r_iret (pc := 12) rfl d_M_hush_12

def f_M_payOf_b59  (a1 : Int32) (a2 : Int32) (a3 : Int32) (a4 : Int32) (a5 : Int32) (a6 : Int32)  (x8 : Int32) (v0 : Int32) (h : AH) : Option (Int32 × AH) :=
  if 0 ≤ x8 then
    some ((v0 - ((3 : Int32) * x8)), h)
  else
    some ((v0 - ((3 : Int32) * (-x8))), h)
set_option maxHeartbeats 2000000 in
theorem o_M_payOf_b59 {G : AE} {n : Nat} (hn : NN ≤ n)  {a1 : Int32} {a2 : Int32} {a3 : Int32} {a4 : Int32} {a5 : Int32} {a6 : Int32}   : ∀ (x8 : Int32) (v0 : Int32) (h : AH), AJ G n y_M_payOf (7) φI 59 [none, none, none, none, none, none, none, none, some (.int x8)] [.int v0] h (f_M_payOf_b59 a1 a2 a3 a4 a5 a6 x8 v0 h) := by
  intro x8 v0 h
  rw [f_M_payOf_b59]
  refine r_iconst (pc := 59) (v := 3) d_M_payOf_59 (by rfl) ?_
  refine r_iload (pc := 60) d_M_payOf_60 rfl ?_
  refine r_if_ge (pc := 62) (tgt := 71) d_M_payOf_62 (by rfl) ?_ ?_
  · refine r_iload (pc := 71) d_M_payOf_71 rfl ?_
    refine r_imul (pc := 73) d_M_payOf_73 ?_
    refine r_isub (pc := 74) d_M_payOf_74 ?_
    exact r_iret (pc := 75) rfl d_M_payOf_75
  · refine r_iload (pc := 65) d_M_payOf_65 rfl ?_
    refine r_ineg (pc := 67) d_M_payOf_67 ?_
    refine r_goto (pc := 68) (tgt := 73) d_M_payOf_68 (by rfl) ?_
    refine r_imul (pc := 73) d_M_payOf_73 ?_
    refine r_isub (pc := 74) d_M_payOf_74 ?_
    exact r_iret (pc := 75) rfl d_M_payOf_75
def f_M_payOf_b44  (a1 : Int32) (a2 : Int32) (a3 : Int32) (a4 : Int32) (a5 : Int32) (a6 : Int32)  (x7 : Int32) (v0 : Int32) (h : AH) : Option (Int32 × AH) :=
  if a6 = 0 then
    f_M_payOf_b59 a1 a2 a3 a4 a5 a6 v0 x7 h
  else
    f_M_payOf_b59 a1 a2 a3 a4 a5 a6 v0 (-x7) h
set_option maxHeartbeats 2000000 in
theorem o_M_payOf_b44 {G : AE} {n : Nat} (hn : NN ≤ n)  {a1 : Int32} {a2 : Int32} {a3 : Int32} {a4 : Int32} {a5 : Int32} {a6 : Int32}   : ∀ (x7 : Int32) (v0 : Int32) (h : AH), AJ G n y_M_payOf (7) φI 44 [none, none, none, none, none, none, some (.int a6), some (.int x7), none] [.int v0] h (f_M_payOf_b44 a1 a2 a3 a4 a5 a6 x7 v0 h) := by
  intro x7 v0 h
  rw [f_M_payOf_b44]
  refine r_istore (pc := 44) (lv1 := [none, none, none, none, none, none, some (.int a6), some (.int x7), some (.int v0)]) d_M_payOf_44 (Nat.le_of_ble_eq_true rfl) rfl ?_
  refine r_iload (pc := 46) d_M_payOf_46 rfl ?_
  refine r_if_eq (pc := 48) (tgt := 57) d_M_payOf_48 (by rfl) ?_ ?_
  · refine r_iload (pc := 57) d_M_payOf_57 rfl ?_
    exact r_wk (o_M_payOf_b59 hn v0 x7 h) ⟨rfl, trivial⟩
  · refine r_iload (pc := 51) d_M_payOf_51 rfl ?_
    refine r_ineg (pc := 53) d_M_payOf_53 ?_
    refine r_goto (pc := 54) (tgt := 59) d_M_payOf_54 (by rfl) ?_
    exact r_wk (o_M_payOf_b59 hn v0 (-x7) h) ⟨rfl, trivial⟩
def f_M_payOf  (a1 : Int32) (a2 : Int32) (a3 : Int32) (a4 : Int32) (a5 : Int32) (a6 : Int32) (h : AH) : Option (Int32 × AH) :=
  gx ((24 : Int32) + a1) 35 <|
  lt (sI h 406 (ix ((24 : Int32) + a1)) a4) fun hq2 =>
  gx ((24 : Int32) + a2) 35 <|
  lt (sI hq2 406 (ix ((24 : Int32) + a2)) a5) fun hq4 =>
  bI (f_M_priceOf a1 a2 hq4) fun rq5 hq6 =>
  lt (a3 * rq5) fun xq7 =>
  if a6 = 0 then
    f_M_payOf_b44 a1 a2 a3 a4 a5 a6 xq7 a5 hq6
  else
    f_M_payOf_b44 a1 a2 a3 a4 a5 a6 xq7 a4 hq6
set_option maxHeartbeats 2000000 in
theorem ok_M_payOf {G : AE} {n : Nat} (hn : NN ≤ n)  (a1 : Int32) (a2 : Int32) (a3 : Int32) (a4 : Int32) (a5 : Int32) (a6 : Int32) (h : AH) : OK G n y_M_payOf (7) φI [.ref 383, .int a1, .int a2, .int a3, .int a4, .int a5, .int a6] h (f_M_payOf a1 a2 a3 a4 a5 a6 h) := by
  refine ok_of (y := y_M_payOf) (lv0 := [some (.ref 383), some (.int a1), some (.int a2), some (.int a3), some (.int a4), some (.int a5), some (.int a6), none, none]) (by decide +kernel) (Nat.le_of_ble_eq_true rfl) ⟨rfl, ⟨rfl, ⟨rfl, ⟨rfl, ⟨rfl, ⟨rfl, ⟨rfl, trivial⟩⟩⟩⟩⟩⟩⟩ ?_
  rw [f_M_payOf]
  refine r_aload_n (pc := 0) (i := 0) d_M_payOf_0 rfl rfl ?_
  refine r_getf (pc := 1) (ci := 12) (k := 51) (C := "CricketHayModel") (T := F_12) (N := 73) (v := .ref 406) (fun s => Std.k s (lc hn rfl) kq_383) rfl (Nat.le_of_ble_eq_true rfl) rfl w_1137 (fun s => vr rfl (Std.r s (lc hn rfl) rq_383_51)) d_M_payOf_1 ?_
  refine r_bipush (pc := 4) (v := 24) d_M_payOf_4 (by rfl) ?_
  refine r_iload_n (pc := 6) (i := 1) d_M_payOf_6 rfl rfl ?_
  refine r_iadd (pc := 7) d_M_payOf_7 ?_
  refine r_iload (pc := 8) d_M_payOf_8 rfl ?_
  refine r_gx (fun zq1 => ?_)
  refine r_iast (pc := 10) (n := 35) (i0 := (ix ((24 : Int32) + a1))) (fun s => Std.k s (lc hn rfl) kq_406) zq1 rfl (fun s => Std.sI s _ _ _) d_M_payOf_10 ?_
  refine r_ltH (fun hq2 => ?_)
  refine r_aload_n (pc := 11) (i := 0) d_M_payOf_11 rfl rfl ?_
  refine r_getf (pc := 12) (ci := 12) (k := 51) (C := "CricketHayModel") (T := F_12) (N := 73) (v := .ref 406) (fun s => Std.k s (lc hn rfl) kq_383) rfl (Nat.le_of_ble_eq_true rfl) rfl w_1137 (fun s => vr rfl (Std.r s (lc hn rfl) rq_383_51)) d_M_payOf_12 ?_
  refine r_bipush (pc := 15) (v := 24) d_M_payOf_15 (by rfl) ?_
  refine r_iload_n (pc := 17) (i := 2) d_M_payOf_17 rfl rfl ?_
  refine r_iadd (pc := 18) d_M_payOf_18 ?_
  refine r_iload (pc := 19) d_M_payOf_19 rfl ?_
  refine r_gx (fun zq3 => ?_)
  refine r_iast (pc := 21) (n := 35) (i0 := (ix ((24 : Int32) + a2))) (fun s => Std.k s (lc hn rfl) kq_406) zq3 rfl (fun s => Std.sI s _ _ _) d_M_payOf_21 ?_
  refine r_ltH (fun hq4 => ?_)
  refine r_iload_n (pc := 22) (i := 3) d_M_payOf_22 rfl rfl ?_
  refine r_aload_n (pc := 23) (i := 0) d_M_payOf_23 rfl rfl ?_
  refine r_iload_n (pc := 24) (i := 1) d_M_payOf_24 rfl rfl ?_
  refine r_iload_n (pc := 25) (i := 2) d_M_payOf_25 rfl rfl ?_
  refine r_cVi (pc := 26) (T := F_12) (N := 73) (st := [.int a3]) (ok_M_priceOf hn a1 a2 hq4) (fun s => Std.k s (lc hn rfl) kq_383) rfl w_1536 w_13 w_1533 w_1535 ws_85 hy_M_priceOf ⟨Nat.le_of_ble_eq_true rfl, Nat.le_of_ble_eq_true rfl⟩ ⟨Nat.le_of_ble_eq_true rfl, Nat.le_of_ble_eq_true rfl⟩ rfl (Nat.le_of_ble_eq_true rfl) d_M_payOf_26 (fun rq5 hq6 => ?_)
  refine r_imul (pc := 29) d_M_payOf_29 ?_
  refine r_ltI (fun xq7 => ?_)
  refine r_istore (pc := 30) (lv1 := [some (.ref 383), some (.int a1), some (.int a2), some (.int a3), some (.int a4), some (.int a5), some (.int a6), some (.int xq7), none]) d_M_payOf_30 (Nat.le_of_ble_eq_true rfl) rfl ?_
  refine r_iload (pc := 32) d_M_payOf_32 rfl ?_
  refine r_if_eq (pc := 34) (tgt := 42) d_M_payOf_34 (by rfl) ?_ ?_
  · refine r_iload (pc := 42) d_M_payOf_42 rfl ?_
    exact r_wk (o_M_payOf_b44 hn xq7 a5 hq6) ⟨rfl, ⟨rfl, trivial⟩⟩
  · refine r_iload (pc := 37) d_M_payOf_37 rfl ?_
    refine r_goto (pc := 39) (tgt := 44) d_M_payOf_39 (by rfl) ?_
    exact r_wk (o_M_payOf_b44 hn xq7 a4 hq6) ⟨rfl, ⟨rfl, trivial⟩⟩

def f_M_isRest_l35  (a1 : Int32) (a2 : Int32) (a3 : Int32) (a4 : Int32) (a5 : Int32)  : Nat → Int32 → Int32 → Int32 → Int32 → AH → Option (Int32 × AH)
  | 0, _, _, _, _, _ => none
  | n + 1, x6, x7, x8, x9, h =>
    if (2 : Int32) < x9 then
      gb x8 <|
      some (x8, h)
    else
      if x8 = 0 then
        gb x8 <|
        some (x8, h)
      else
        bI (f_M_payOf a1 a2 a3 x9 a5 (1 : Int32) h) fun rq3 hq4 =>
        if x6 < rq3 then
          lt (x9 + (1 : Int32)) fun xq5 =>
          f_M_isRest_l35 a1 a2 a3 a4 a5 n x6 x7 (0 : Int32) xq5 hq4
        else
          bI (f_M_payOf a1 a2 a3 a4 x9 (0 : Int32) hq4) fun rq6 hq7 =>
          if x7 < rq6 then
            lt (x9 + (1 : Int32)) fun xq8 =>
            f_M_isRest_l35 a1 a2 a3 a4 a5 n x6 x7 (0 : Int32) xq8 hq7
          else
            lt (x9 + (1 : Int32)) fun xq9 =>
            f_M_isRest_l35 a1 a2 a3 a4 a5 n x6 x7 (1 : Int32) xq9 hq7
set_option maxHeartbeats 2000000 in
theorem o_M_isRest_l35 {G : AE} {n : Nat} (hn : NN ≤ n)  {a1 : Int32} {a2 : Int32} {a3 : Int32} {a4 : Int32} {a5 : Int32}   : ∀ (n0 : Nat) (x6 : Int32) (x7 : Int32) (x8 : Int32) (x9 : Int32) (h : AH), AJ G n y_M_isRest (8) φI 35 [some (.ref 383), some (.int a1), some (.int a2), some (.int a3), some (.int a4), some (.int a5), some (.int x6), some (.int x7), some (.int x8), some (.int x9)] [] h (f_M_isRest_l35 a1 a2 a3 a4 a5 n0 x6 x7 x8 x9 h) := by
  intro n0
  induction n0 with
  | zero => intros; exact r_none
  | succ n0 ih =>
    intro x6 x7 x8 x9 h
    rw [f_M_isRest_l35]
    refine r_iload (pc := 35) d_M_isRest_35 rfl ?_
    refine r_iconst (pc := 37) (v := 2) d_M_isRest_37 (by rfl) ?_
    refine r_icmp_gt (pc := 38) (tgt := 93) d_M_isRest_38 (by rfl) ?_ ?_
    · refine r_iload (pc := 93) d_M_isRest_93 rfl ?_
      refine r_gb (fun zq1 => ?_)
      exact r_zret (pc := 95) rfl zq1 d_M_isRest_95
    · refine r_iload (pc := 41) d_M_isRest_41 rfl ?_
      refine r_if_eq (pc := 43) (tgt := 93) d_M_isRest_43 (by rfl) ?_ ?_
      · refine r_iload (pc := 93) d_M_isRest_93 rfl ?_
        refine r_gb (fun zq2 => ?_)
        exact r_zret (pc := 95) rfl zq2 d_M_isRest_95
      · refine r_aload_n (pc := 46) (i := 0) d_M_isRest_46 rfl rfl ?_
        refine r_iload_n (pc := 47) (i := 1) d_M_isRest_47 rfl rfl ?_
        refine r_iload_n (pc := 48) (i := 2) d_M_isRest_48 rfl rfl ?_
        refine r_iload_n (pc := 49) (i := 3) d_M_isRest_49 rfl rfl ?_
        refine r_iload (pc := 50) d_M_isRest_50 rfl ?_
        refine r_iload (pc := 52) d_M_isRest_52 rfl ?_
        refine r_iconst (pc := 54) (v := 1) d_M_isRest_54 (by rfl) ?_
        refine r_cVi (pc := 55) (T := F_12) (N := 73) (st := []) (ok_M_payOf hn a1 a2 a3 x9 a5 (1 : Int32) h) (fun s => Std.k s (lc hn rfl) kq_383) rfl w_1677 w_13 w_1674 w_1676 ws_101 hy_M_payOf ⟨Nat.le_of_ble_eq_true rfl, Nat.le_of_ble_eq_true rfl⟩ ⟨Nat.le_of_ble_eq_true rfl, Nat.le_of_ble_eq_true rfl⟩ rfl (Nat.le_of_ble_eq_true rfl) d_M_isRest_55 (fun rq3 hq4 => ?_)
        refine r_iload (pc := 58) d_M_isRest_58 rfl ?_
        refine r_icmp_gt (pc := 60) (tgt := 84) d_M_isRest_60 (by rfl) ?_ ?_
        · refine r_iconst (pc := 84) (v := 0) d_M_isRest_84 (by rfl) ?_
          refine r_istore (pc := 85) (lv1 := [some (.ref 383), some (.int a1), some (.int a2), some (.int a3), some (.int a4), some (.int a5), some (.int x6), some (.int x7), some (.int (0 : Int32)), some (.int x9)]) d_M_isRest_85 (Nat.le_of_ble_eq_true rfl) rfl ?_
          refine r_ltE (fun xq5 exq5 => ?_)
          refine r_iinc (pc := 87) (v := xq5) (lv1 := [some (.ref 383), some (.int a1), some (.int a2), some (.int a3), some (.int a4), some (.int a5), some (.int x6), some (.int x7), some (.int (0 : Int32)), some (.int xq5)]) d_M_isRest_87 rfl exq5.symm (Nat.le_of_ble_eq_true rfl) rfl ?_
          refine r_goto (pc := 90) (tgt := 35) d_M_isRest_90 (by rfl) ?_
          exact r_wk (ih x6 x7 (0 : Int32) xq5 hq4) ⟨rfl, ⟨rfl, ⟨rfl, ⟨rfl, ⟨rfl, ⟨rfl, ⟨rfl, ⟨rfl, ⟨rfl, ⟨rfl, trivial⟩⟩⟩⟩⟩⟩⟩⟩⟩⟩
        · refine r_aload_n (pc := 63) (i := 0) d_M_isRest_63 rfl rfl ?_
          refine r_iload_n (pc := 64) (i := 1) d_M_isRest_64 rfl rfl ?_
          refine r_iload_n (pc := 65) (i := 2) d_M_isRest_65 rfl rfl ?_
          refine r_iload_n (pc := 66) (i := 3) d_M_isRest_66 rfl rfl ?_
          refine r_iload (pc := 67) d_M_isRest_67 rfl ?_
          refine r_iload (pc := 69) d_M_isRest_69 rfl ?_
          refine r_iconst (pc := 71) (v := 0) d_M_isRest_71 (by rfl) ?_
          refine r_cVi (pc := 72) (T := F_12) (N := 73) (st := []) (ok_M_payOf hn a1 a2 a3 a4 x9 (0 : Int32) hq4) (fun s => Std.k s (lc hn rfl) kq_383) rfl w_1677 w_13 w_1674 w_1676 ws_101 hy_M_payOf ⟨Nat.le_of_ble_eq_true rfl, Nat.le_of_ble_eq_true rfl⟩ ⟨Nat.le_of_ble_eq_true rfl, Nat.le_of_ble_eq_true rfl⟩ rfl (Nat.le_of_ble_eq_true rfl) d_M_isRest_72 (fun rq6 hq7 => ?_)
          refine r_iload (pc := 75) d_M_isRest_75 rfl ?_
          refine r_icmp_gt (pc := 77) (tgt := 84) d_M_isRest_77 (by rfl) ?_ ?_
          · refine r_iconst (pc := 84) (v := 0) d_M_isRest_84 (by rfl) ?_
            refine r_istore (pc := 85) (lv1 := [some (.ref 383), some (.int a1), some (.int a2), some (.int a3), some (.int a4), some (.int a5), some (.int x6), some (.int x7), some (.int (0 : Int32)), some (.int x9)]) d_M_isRest_85 (Nat.le_of_ble_eq_true rfl) rfl ?_
            refine r_ltE (fun xq8 exq8 => ?_)
            refine r_iinc (pc := 87) (v := xq8) (lv1 := [some (.ref 383), some (.int a1), some (.int a2), some (.int a3), some (.int a4), some (.int a5), some (.int x6), some (.int x7), some (.int (0 : Int32)), some (.int xq8)]) d_M_isRest_87 rfl exq8.symm (Nat.le_of_ble_eq_true rfl) rfl ?_
            refine r_goto (pc := 90) (tgt := 35) d_M_isRest_90 (by rfl) ?_
            exact r_wk (ih x6 x7 (0 : Int32) xq8 hq7) ⟨rfl, ⟨rfl, ⟨rfl, ⟨rfl, ⟨rfl, ⟨rfl, ⟨rfl, ⟨rfl, ⟨rfl, ⟨rfl, trivial⟩⟩⟩⟩⟩⟩⟩⟩⟩⟩
          · refine r_iconst (pc := 80) (v := 1) d_M_isRest_80 (by rfl) ?_
            refine r_goto (pc := 81) (tgt := 85) d_M_isRest_81 (by rfl) ?_
            refine r_istore (pc := 85) (lv1 := [some (.ref 383), some (.int a1), some (.int a2), some (.int a3), some (.int a4), some (.int a5), some (.int x6), some (.int x7), some (.int (1 : Int32)), some (.int x9)]) d_M_isRest_85 (Nat.le_of_ble_eq_true rfl) rfl ?_
            refine r_ltE (fun xq9 exq9 => ?_)
            refine r_iinc (pc := 87) (v := xq9) (lv1 := [some (.ref 383), some (.int a1), some (.int a2), some (.int a3), some (.int a4), some (.int a5), some (.int x6), some (.int x7), some (.int (1 : Int32)), some (.int xq9)]) d_M_isRest_87 rfl exq9.symm (Nat.le_of_ble_eq_true rfl) rfl ?_
            refine r_goto (pc := 90) (tgt := 35) d_M_isRest_90 (by rfl) ?_
            exact r_wk (ih x6 x7 (1 : Int32) xq9 hq7) ⟨rfl, ⟨rfl, ⟨rfl, ⟨rfl, ⟨rfl, ⟨rfl, ⟨rfl, ⟨rfl, ⟨rfl, ⟨rfl, trivial⟩⟩⟩⟩⟩⟩⟩⟩⟩⟩
def f_M_isRest  (a1 : Int32) (a2 : Int32) (a3 : Int32) (a4 : Int32) (a5 : Int32) (h : AH) : Option (Int32 × AH) :=
  bI (f_M_payOf a1 a2 a3 a4 a5 (1 : Int32) h) fun rq1 hq2 =>
  bI (f_M_payOf a1 a2 a3 a4 a5 (0 : Int32) hq2) fun rq3 hq4 =>
  f_M_isRest_l35 a1 a2 a3 a4 a5 FU rq1 rq3 (1 : Int32) (-2 : Int32) hq4
set_option maxHeartbeats 2000000 in
theorem ok_M_isRest {G : AE} {n : Nat} (hn : NN ≤ n)  (a1 : Int32) (a2 : Int32) (a3 : Int32) (a4 : Int32) (a5 : Int32) (h : AH) : OK G n y_M_isRest (8) φI [.ref 383, .int a1, .int a2, .int a3, .int a4, .int a5] h (f_M_isRest a1 a2 a3 a4 a5 h) := by
  refine ok_of (y := y_M_isRest) (lv0 := [some (.ref 383), some (.int a1), some (.int a2), some (.int a3), some (.int a4), some (.int a5), none, none, none, none]) (by decide +kernel) (Nat.le_of_ble_eq_true rfl) ⟨rfl, ⟨rfl, ⟨rfl, ⟨rfl, ⟨rfl, ⟨rfl, trivial⟩⟩⟩⟩⟩⟩ ?_
  rw [f_M_isRest]
  refine r_aload_n (pc := 0) (i := 0) d_M_isRest_0 rfl rfl ?_
  refine r_iload_n (pc := 1) (i := 1) d_M_isRest_1 rfl rfl ?_
  refine r_iload_n (pc := 2) (i := 2) d_M_isRest_2 rfl rfl ?_
  refine r_iload_n (pc := 3) (i := 3) d_M_isRest_3 rfl rfl ?_
  refine r_iload (pc := 4) d_M_isRest_4 rfl ?_
  refine r_iload (pc := 6) d_M_isRest_6 rfl ?_
  refine r_iconst (pc := 8) (v := 1) d_M_isRest_8 (by rfl) ?_
  refine r_cVi (pc := 9) (T := F_12) (N := 73) (st := []) (ok_M_payOf hn a1 a2 a3 a4 a5 (1 : Int32) h) (fun s => Std.k s (lc hn rfl) kq_383) rfl w_1677 w_13 w_1674 w_1676 ws_101 hy_M_payOf ⟨Nat.le_of_ble_eq_true rfl, Nat.le_of_ble_eq_true rfl⟩ ⟨Nat.le_of_ble_eq_true rfl, Nat.le_of_ble_eq_true rfl⟩ rfl (Nat.le_of_ble_eq_true rfl) d_M_isRest_9 (fun rq1 hq2 => ?_)
  refine r_istore (pc := 12) (lv1 := [some (.ref 383), some (.int a1), some (.int a2), some (.int a3), some (.int a4), some (.int a5), some (.int rq1), none, none, none]) d_M_isRest_12 (Nat.le_of_ble_eq_true rfl) rfl ?_
  refine r_aload_n (pc := 14) (i := 0) d_M_isRest_14 rfl rfl ?_
  refine r_iload_n (pc := 15) (i := 1) d_M_isRest_15 rfl rfl ?_
  refine r_iload_n (pc := 16) (i := 2) d_M_isRest_16 rfl rfl ?_
  refine r_iload_n (pc := 17) (i := 3) d_M_isRest_17 rfl rfl ?_
  refine r_iload (pc := 18) d_M_isRest_18 rfl ?_
  refine r_iload (pc := 20) d_M_isRest_20 rfl ?_
  refine r_iconst (pc := 22) (v := 0) d_M_isRest_22 (by rfl) ?_
  refine r_cVi (pc := 23) (T := F_12) (N := 73) (st := []) (ok_M_payOf hn a1 a2 a3 a4 a5 (0 : Int32) hq2) (fun s => Std.k s (lc hn rfl) kq_383) rfl w_1677 w_13 w_1674 w_1676 ws_101 hy_M_payOf ⟨Nat.le_of_ble_eq_true rfl, Nat.le_of_ble_eq_true rfl⟩ ⟨Nat.le_of_ble_eq_true rfl, Nat.le_of_ble_eq_true rfl⟩ rfl (Nat.le_of_ble_eq_true rfl) d_M_isRest_23 (fun rq3 hq4 => ?_)
  refine r_istore (pc := 26) (lv1 := [some (.ref 383), some (.int a1), some (.int a2), some (.int a3), some (.int a4), some (.int a5), some (.int rq1), some (.int rq3), none, none]) d_M_isRest_26 (Nat.le_of_ble_eq_true rfl) rfl ?_
  refine r_iconst (pc := 28) (v := 1) d_M_isRest_28 (by rfl) ?_
  refine r_istore (pc := 29) (lv1 := [some (.ref 383), some (.int a1), some (.int a2), some (.int a3), some (.int a4), some (.int a5), some (.int rq1), some (.int rq3), some (.int (1 : Int32)), none]) d_M_isRest_29 (Nat.le_of_ble_eq_true rfl) rfl ?_
  refine r_bipush (pc := 31) (v := -2) d_M_isRest_31 (by rfl) ?_
  refine r_istore (pc := 33) (lv1 := [some (.ref 383), some (.int a1), some (.int a2), some (.int a3), some (.int a4), some (.int a5), some (.int rq1), some (.int rq3), some (.int (1 : Int32)), some (.int (-2 : Int32))]) d_M_isRest_33 (Nat.le_of_ble_eq_true rfl) rfl ?_
  exact r_wk (o_M_isRest_l35 hn FU rq1 rq3 (1 : Int32) (-2 : Int32) hq4) ⟨rfl, ⟨rfl, ⟨rfl, ⟨rfl, ⟨rfl, ⟨rfl, ⟨rfl, ⟨rfl, ⟨rfl, ⟨rfl, trivial⟩⟩⟩⟩⟩⟩⟩⟩⟩⟩

def f_M_rest_l63  (a1 : Int32) (a2 : Int32) (a3 : Int32) (k53 : Int32 → Int32 → AH → Option (Int32 × AH)) : Nat → Int32 → Int32 → Int32 → AH → Option (Int32 × AH)
  | 0, _, _, _, _ => none
  | n + 1, x4, x5, x6, h =>
    if (2 : Int32) < x6 then
      lt (x5 + (1 : Int32)) fun xq1 =>
      k53 x4 xq1 h
    else
      bI (f_M_isRest a1 a2 a3 x5 x6 h) fun rq2 hq3 =>
      if ¬ rq2 = 0 then
        if ¬ x4 = 0 then
          lt (x4 + (1 : Int32)) fun xq4 =>
          lt (x6 + (1 : Int32)) fun xq5 =>
          f_M_rest_l63 a1 a2 a3 k53 n xq4 x5 xq5 hq3
        else
          lt (sI hq3 409 0 x5) fun hq6 =>
          lt (sI hq6 409 1 x6) fun hq7 =>
          lt (x4 + (1 : Int32)) fun xq8 =>
          lt (x6 + (1 : Int32)) fun xq9 =>
          f_M_rest_l63 a1 a2 a3 k53 n xq8 x5 xq9 hq7
      else
        lt (x6 + (1 : Int32)) fun xq10 =>
        f_M_rest_l63 a1 a2 a3 k53 n x4 x5 xq10 hq3
set_option maxHeartbeats 2000000 in
theorem o_M_rest_l63 {G : AE} {n : Nat} (hn : NN ≤ n)  {a1 : Int32} {a2 : Int32} {a3 : Int32}  {k53 : Int32 → Int32 → AH → Option (Int32 × AH)} (hk53 : ∀ (x4 : Int32) (x5 : Int32) (h : AH), AJ G n y_M_rest (9) φI 53 [some (.ref 383), some (.int a1), some (.int a2), some (.int a3), some (.int x4), some (.int x5), none] [] h (k53 x4 x5 h)) : ∀ (n0 : Nat) (x4 : Int32) (x5 : Int32) (x6 : Int32) (h : AH), AJ G n y_M_rest (9) φI 63 [some (.ref 383), some (.int a1), some (.int a2), some (.int a3), some (.int x4), some (.int x5), some (.int x6)] [] h (f_M_rest_l63 a1 a2 a3 k53 n0 x4 x5 x6 h) := by
  intro n0
  induction n0 with
  | zero => intros; exact r_none
  | succ n0 ih =>
    intro x4 x5 x6 h
    rw [f_M_rest_l63]
    refine r_iload (pc := 63) d_M_rest_63 rfl ?_
    refine r_iconst (pc := 65) (v := 2) d_M_rest_65 (by rfl) ?_
    refine r_icmp_gt (pc := 66) (tgt := 116) d_M_rest_66 (by rfl) ?_ ?_
    · refine r_ltE (fun xq1 exq1 => ?_)
      refine r_iinc (pc := 116) (v := xq1) (lv1 := [some (.ref 383), some (.int a1), some (.int a2), some (.int a3), some (.int x4), some (.int xq1), some (.int x6)]) d_M_rest_116 rfl exq1.symm (Nat.le_of_ble_eq_true rfl) rfl ?_
      refine r_goto (pc := 119) (tgt := 53) d_M_rest_119 (by rfl) ?_
      exact r_wk (hk53 x4 xq1 h) ⟨rfl, ⟨rfl, ⟨rfl, ⟨rfl, ⟨rfl, ⟨rfl, trivial⟩⟩⟩⟩⟩⟩
    · refine r_aload_n (pc := 69) (i := 0) d_M_rest_69 rfl rfl ?_
      refine r_iload_n (pc := 70) (i := 1) d_M_rest_70 rfl rfl ?_
      refine r_iload_n (pc := 71) (i := 2) d_M_rest_71 rfl rfl ?_
      refine r_iload_n (pc := 72) (i := 3) d_M_rest_72 rfl rfl ?_
      refine r_iload (pc := 73) d_M_rest_73 rfl ?_
      refine r_iload (pc := 75) d_M_rest_75 rfl ?_
      refine r_cVi (pc := 77) (T := F_12) (N := 73) (st := []) (ok_M_isRest hn a1 a2 a3 x5 x6 h) (fun s => Std.k s (lc hn rfl) kq_383) rfl w_1673 w_13 w_1670 w_1672 ws_100 hy_M_isRest ⟨Nat.le_of_ble_eq_true rfl, Nat.le_of_ble_eq_true rfl⟩ ⟨Nat.le_of_ble_eq_true rfl, Nat.le_of_ble_eq_true rfl⟩ rfl (Nat.le_of_ble_eq_true rfl) d_M_rest_77 (fun rq2 hq3 => ?_)
      refine r_if_ne (pc := 80) (tgt := 86) d_M_rest_80 (by rfl) ?_ ?_
      · refine r_iload (pc := 86) d_M_rest_86 rfl ?_
        refine r_if_ne (pc := 88) (tgt := 107) d_M_rest_88 (by rfl) ?_ ?_
        · refine r_ltE (fun xq4 exq4 => ?_)
          refine r_iinc (pc := 107) (v := xq4) (lv1 := [some (.ref 383), some (.int a1), some (.int a2), some (.int a3), some (.int xq4), some (.int x5), some (.int x6)]) d_M_rest_107 rfl exq4.symm (Nat.le_of_ble_eq_true rfl) rfl ?_
          refine r_ltE (fun xq5 exq5 => ?_)
          refine r_iinc (pc := 110) (v := xq5) (lv1 := [some (.ref 383), some (.int a1), some (.int a2), some (.int a3), some (.int xq4), some (.int x5), some (.int xq5)]) d_M_rest_110 rfl exq5.symm (Nat.le_of_ble_eq_true rfl) rfl ?_
          refine r_goto (pc := 113) (tgt := 63) d_M_rest_113 (by rfl) ?_
          exact r_wk (ih xq4 x5 xq5 hq3) ⟨rfl, ⟨rfl, ⟨rfl, ⟨rfl, ⟨rfl, ⟨rfl, ⟨rfl, trivial⟩⟩⟩⟩⟩⟩⟩
        · refine r_aload_n (pc := 91) (i := 0) d_M_rest_91 rfl rfl ?_
          refine r_getf (pc := 92) (ci := 12) (k := 56) (C := "CricketHayModel") (T := F_12) (N := 73) (v := .ref 409) (fun s => Std.k s (lc hn rfl) kq_383) rfl (Nat.le_of_ble_eq_true rfl) rfl w_1142 (fun s => vr rfl (Std.r s (lc hn rfl) rq_383_56)) d_M_rest_92 ?_
          refine r_iconst (pc := 95) (v := 0) d_M_rest_95 (by rfl) ?_
          refine r_iload (pc := 96) d_M_rest_96 rfl ?_
          refine r_iast (pc := 98) (n := 12) (i0 := 0) (fun s => Std.k s (lc hn rfl) kq_409) (vin (k := 0) rfl rfl) rfl (fun s => Std.sI s _ _ _) d_M_rest_98 ?_
          refine r_ltH (fun hq6 => ?_)
          refine r_aload_n (pc := 99) (i := 0) d_M_rest_99 rfl rfl ?_
          refine r_getf (pc := 100) (ci := 12) (k := 56) (C := "CricketHayModel") (T := F_12) (N := 73) (v := .ref 409) (fun s => Std.k s (lc hn rfl) kq_383) rfl (Nat.le_of_ble_eq_true rfl) rfl w_1142 (fun s => vr rfl (Std.r s (lc hn rfl) rq_383_56)) d_M_rest_100 ?_
          refine r_iconst (pc := 103) (v := 1) d_M_rest_103 (by rfl) ?_
          refine r_iload (pc := 104) d_M_rest_104 rfl ?_
          refine r_iast (pc := 106) (n := 12) (i0 := 1) (fun s => Std.k s (lc hn rfl) kq_409) (vin (k := 1) rfl rfl) rfl (fun s => Std.sI s _ _ _) d_M_rest_106 ?_
          refine r_ltH (fun hq7 => ?_)
          refine r_ltE (fun xq8 exq8 => ?_)
          refine r_iinc (pc := 107) (v := xq8) (lv1 := [some (.ref 383), some (.int a1), some (.int a2), some (.int a3), some (.int xq8), some (.int x5), some (.int x6)]) d_M_rest_107 rfl exq8.symm (Nat.le_of_ble_eq_true rfl) rfl ?_
          refine r_ltE (fun xq9 exq9 => ?_)
          refine r_iinc (pc := 110) (v := xq9) (lv1 := [some (.ref 383), some (.int a1), some (.int a2), some (.int a3), some (.int xq8), some (.int x5), some (.int xq9)]) d_M_rest_110 rfl exq9.symm (Nat.le_of_ble_eq_true rfl) rfl ?_
          refine r_goto (pc := 113) (tgt := 63) d_M_rest_113 (by rfl) ?_
          exact r_wk (ih xq8 x5 xq9 hq7) ⟨rfl, ⟨rfl, ⟨rfl, ⟨rfl, ⟨rfl, ⟨rfl, ⟨rfl, trivial⟩⟩⟩⟩⟩⟩⟩
      · refine r_goto (pc := 83) (tgt := 110) d_M_rest_83 (by rfl) ?_
        refine r_ltE (fun xq10 exq10 => ?_)
        refine r_iinc (pc := 110) (v := xq10) (lv1 := [some (.ref 383), some (.int a1), some (.int a2), some (.int a3), some (.int x4), some (.int x5), some (.int xq10)]) d_M_rest_110 rfl exq10.symm (Nat.le_of_ble_eq_true rfl) rfl ?_
        refine r_goto (pc := 113) (tgt := 63) d_M_rest_113 (by rfl) ?_
        exact r_wk (ih x4 x5 xq10 hq3) ⟨rfl, ⟨rfl, ⟨rfl, ⟨rfl, ⟨rfl, ⟨rfl, ⟨rfl, trivial⟩⟩⟩⟩⟩⟩⟩
def f_M_rest_l53  (a1 : Int32) (a2 : Int32) (a3 : Int32)  : Nat → Int32 → Int32 → AH → Option (Int32 × AH)
  | 0, _, _, _ => none
  | n + 1, x4, x5, h =>
    if (2 : Int32) < x5 then
      if ¬ x4 = 0 then
        lt (sI h 383 57 (2 : Int32)) fun hq1 =>
        some (x4, hq1)
      else
        lt (sI h 383 57 (0 : Int32)) fun hq2 =>
        some (x4, hq2)
    else
      f_M_rest_l63 a1 a2 a3 (f_M_rest_l53 a1 a2 a3 n) FU x4 x5 (-2 : Int32) h
set_option maxHeartbeats 2000000 in
theorem o_M_rest_l53 {G : AE} {n : Nat} (hn : NN ≤ n)  {a1 : Int32} {a2 : Int32} {a3 : Int32}   : ∀ (n0 : Nat) (x4 : Int32) (x5 : Int32) (h : AH), AJ G n y_M_rest (9) φI 53 [some (.ref 383), some (.int a1), some (.int a2), some (.int a3), some (.int x4), some (.int x5), none] [] h (f_M_rest_l53 a1 a2 a3 n0 x4 x5 h) := by
  intro n0
  induction n0 with
  | zero => intros; exact r_none
  | succ n0 ih =>
    intro x4 x5 h
    rw [f_M_rest_l53]
    refine r_iload (pc := 53) d_M_rest_53 rfl ?_
    refine r_iconst (pc := 55) (v := 2) d_M_rest_55 (by rfl) ?_
    refine r_icmp_gt (pc := 56) (tgt := 122) d_M_rest_56 (by rfl) ?_ ?_
    · refine r_aload_n (pc := 122) (i := 0) d_M_rest_122 rfl rfl ?_
      refine r_iload (pc := 123) d_M_rest_123 rfl ?_
      refine r_if_ne (pc := 125) (tgt := 132) d_M_rest_125 (by rfl) ?_ ?_
      · refine r_iconst (pc := 132) (v := 2) d_M_rest_132 (by rfl) ?_
        refine r_putI (pc := 133) (ci := 12) (k := 57) (C := "CricketHayModel") (T := F_12) (N := 73) (fun s => Std.k s (lc hn rfl) kq_383) rfl (Nat.le_of_ble_eq_true rfl) rfl rfl w_1143 (fun _ _ => rfl) (fun _ => rfl) (fun _ => rfl) (fun s => Std.sI s _ _ _) d_M_rest_133 ?_
        refine r_ltH (fun hq1 => ?_)
        refine r_iload (pc := 136) d_M_rest_136 rfl ?_
        exact r_iret (pc := 138) rfl d_M_rest_138
      · refine r_iconst (pc := 128) (v := 0) d_M_rest_128 (by rfl) ?_
        refine r_goto (pc := 129) (tgt := 133) d_M_rest_129 (by rfl) ?_
        refine r_putI (pc := 133) (ci := 12) (k := 57) (C := "CricketHayModel") (T := F_12) (N := 73) (fun s => Std.k s (lc hn rfl) kq_383) rfl (Nat.le_of_ble_eq_true rfl) rfl rfl w_1143 (fun _ _ => rfl) (fun _ => rfl) (fun _ => rfl) (fun s => Std.sI s _ _ _) d_M_rest_133 ?_
        refine r_ltH (fun hq2 => ?_)
        refine r_iload (pc := 136) d_M_rest_136 rfl ?_
        exact r_iret (pc := 138) rfl d_M_rest_138
    · refine r_bipush (pc := 59) (v := -2) d_M_rest_59 (by rfl) ?_
      refine r_istore (pc := 61) (lv1 := [some (.ref 383), some (.int a1), some (.int a2), some (.int a3), some (.int x4), some (.int x5), some (.int (-2 : Int32))]) d_M_rest_61 (Nat.le_of_ble_eq_true rfl) rfl ?_
      exact r_wk (o_M_rest_l63 hn ih FU x4 x5 (-2 : Int32) h) ⟨rfl, ⟨rfl, ⟨rfl, ⟨rfl, ⟨rfl, ⟨rfl, ⟨rfl, trivial⟩⟩⟩⟩⟩⟩⟩
def f_M_rest  (a1 : Int32) (a2 : Int32) (a3 : Int32) (h : AH) : Option (Int32 × AH) :=
  lt (sI h 383 57 (0 : Int32)) fun hq1 =>
  bI (f_M_areTwo a1 a2 hq1) fun rq2 hq3 =>
  if rq2 = 0 then
    some ((-1 : Int32), hq3)
  else
    bI (f_M_isThere a1 hq3) fun rq4 hq5 =>
    if rq4 = 0 then
      some ((-1 : Int32), hq5)
    else
      bI (f_M_isThere a2 hq5) fun rq6 hq7 =>
      if rq6 = 0 then
        some ((-1 : Int32), hq7)
      else
        bI (f_M_isIn a3 (1 : Int32) (9 : Int32) hq7) fun rq8 hq9 =>
        if ¬ rq8 = 0 then
          bV (f_M_load hq9) fun hq10 =>
          f_M_rest_l53 a1 a2 a3 FU (0 : Int32) (-2 : Int32) hq10
        else
          some ((-1 : Int32), hq9)
set_option maxHeartbeats 2000000 in
theorem ok_M_rest {G : AE} {n : Nat} (hn : NN ≤ n)  (a1 : Int32) (a2 : Int32) (a3 : Int32) (h : AH) : OK G n y_M_rest (9) φI [.ref 383, .int a1, .int a2, .int a3] h (f_M_rest a1 a2 a3 h) := by
  refine ok_of (y := y_M_rest) (lv0 := [some (.ref 383), some (.int a1), some (.int a2), some (.int a3), none, none, none]) (by decide +kernel) (Nat.le_of_ble_eq_true rfl) ⟨rfl, ⟨rfl, ⟨rfl, ⟨rfl, trivial⟩⟩⟩⟩ ?_
  rw [f_M_rest]
  refine r_aload_n (pc := 0) (i := 0) d_M_rest_0 rfl rfl ?_
  refine r_iconst (pc := 1) (v := 0) d_M_rest_1 (by rfl) ?_
  refine r_putI (pc := 2) (ci := 12) (k := 57) (C := "CricketHayModel") (T := F_12) (N := 73) (fun s => Std.k s (lc hn rfl) kq_383) rfl (Nat.le_of_ble_eq_true rfl) rfl rfl w_1143 (fun _ _ => rfl) (fun _ => rfl) (fun _ => rfl) (fun s => Std.sI s _ _ _) d_M_rest_2 ?_
  refine r_ltH (fun hq1 => ?_)
  refine r_aload_n (pc := 5) (i := 0) d_M_rest_5 rfl rfl ?_
  refine r_iload_n (pc := 6) (i := 1) d_M_rest_6 rfl rfl ?_
  refine r_iload_n (pc := 7) (i := 2) d_M_rest_7 rfl rfl ?_
  refine r_cVi (pc := 8) (T := F_12) (N := 73) (st := []) (ok_M_areTwo hn a1 a2 hq1) (fun s => Std.k s (lc hn rfl) kq_383) rfl w_1532 w_13 w_1529 w_1531 ws_84 hy_M_areTwo ⟨Nat.le_of_ble_eq_true rfl, Nat.le_of_ble_eq_true rfl⟩ ⟨Nat.le_of_ble_eq_true rfl, Nat.le_of_ble_eq_true rfl⟩ rfl (Nat.le_of_ble_eq_true rfl) d_M_rest_8 (fun rq2 hq3 => ?_)
  refine r_if_eq (pc := 11) (tgt := 40) d_M_rest_11 (by rfl) ?_ ?_
  · refine r_iconst (pc := 40) (v := -1) d_M_rest_40 (by rfl) ?_
    exact r_iret (pc := 41) rfl d_M_rest_41
  · refine r_aload_n (pc := 14) (i := 0) d_M_rest_14 rfl rfl ?_
    refine r_iload_n (pc := 15) (i := 1) d_M_rest_15 rfl rfl ?_
    refine r_cVi (pc := 16) (T := F_12) (N := 73) (st := []) (ok_M_isThere hn a1 hq3) (fun s => Std.k s (lc hn rfl) kq_383) rfl w_1568 w_13 w_1565 w_1567 ws_88 hy_M_isThere ⟨Nat.le_of_ble_eq_true rfl, Nat.le_of_ble_eq_true rfl⟩ ⟨Nat.le_of_ble_eq_true rfl, Nat.le_of_ble_eq_true rfl⟩ rfl (Nat.le_of_ble_eq_true rfl) d_M_rest_16 (fun rq4 hq5 => ?_)
    refine r_if_eq (pc := 19) (tgt := 40) d_M_rest_19 (by rfl) ?_ ?_
    · refine r_iconst (pc := 40) (v := -1) d_M_rest_40 (by rfl) ?_
      exact r_iret (pc := 41) rfl d_M_rest_41
    · refine r_aload_n (pc := 22) (i := 0) d_M_rest_22 rfl rfl ?_
      refine r_iload_n (pc := 23) (i := 2) d_M_rest_23 rfl rfl ?_
      refine r_cVi (pc := 24) (T := F_12) (N := 73) (st := []) (ok_M_isThere hn a2 hq5) (fun s => Std.k s (lc hn rfl) kq_383) rfl w_1568 w_13 w_1565 w_1567 ws_88 hy_M_isThere ⟨Nat.le_of_ble_eq_true rfl, Nat.le_of_ble_eq_true rfl⟩ ⟨Nat.le_of_ble_eq_true rfl, Nat.le_of_ble_eq_true rfl⟩ rfl (Nat.le_of_ble_eq_true rfl) d_M_rest_24 (fun rq6 hq7 => ?_)
      refine r_if_eq (pc := 27) (tgt := 40) d_M_rest_27 (by rfl) ?_ ?_
      · refine r_iconst (pc := 40) (v := -1) d_M_rest_40 (by rfl) ?_
        exact r_iret (pc := 41) rfl d_M_rest_41
      · refine r_iload_n (pc := 30) (i := 3) d_M_rest_30 rfl rfl ?_
        refine r_iconst (pc := 31) (v := 1) d_M_rest_31 (by rfl) ?_
        refine r_bipush (pc := 32) (v := 9) d_M_rest_32 (by rfl) ?_
        refine r_cSi (pc := 34) (st := []) (ok_M_isIn hn a3 (1 : Int32) (9 : Int32) hq7) w_1479 w_13 w_1477 w_1478 hy_M_isIn ⟨Nat.le_of_ble_eq_true rfl, Nat.le_of_ble_eq_true rfl⟩ ⟨Nat.le_of_ble_eq_true rfl, Nat.le_of_ble_eq_true rfl⟩ rfl (Nat.le_of_ble_eq_true rfl) d_M_rest_34 (fun rq8 hq9 => ?_)
        refine r_if_ne (pc := 37) (tgt := 42) d_M_rest_37 (by rfl) ?_ ?_
        · refine r_aload_n (pc := 42) (i := 0) d_M_rest_42 rfl rfl ?_
          refine r_cVv (pc := 43) (T := F_12) (N := 73) (st := []) (ok_M_load hn hq9) (fun s => Std.k s (lc hn rfl) kq_383) rfl w_1483 w_13 w_1480 w_1482 ws_76 hy_M_load ⟨Nat.le_of_ble_eq_true rfl, Nat.le_of_ble_eq_true rfl⟩ ⟨Nat.le_of_ble_eq_true rfl, Nat.le_of_ble_eq_true rfl⟩ rfl (Nat.le_of_ble_eq_true rfl) d_M_rest_43 (fun hq10 => ?_)
          refine r_iconst (pc := 46) (v := 0) d_M_rest_46 (by rfl) ?_
          refine r_istore (pc := 47) (lv1 := [some (.ref 383), some (.int a1), some (.int a2), some (.int a3), some (.int (0 : Int32)), none, none]) d_M_rest_47 (Nat.le_of_ble_eq_true rfl) rfl ?_
          refine r_bipush (pc := 49) (v := -2) d_M_rest_49 (by rfl) ?_
          refine r_istore (pc := 51) (lv1 := [some (.ref 383), some (.int a1), some (.int a2), some (.int a3), some (.int (0 : Int32)), some (.int (-2 : Int32)), none]) d_M_rest_51 (Nat.le_of_ble_eq_true rfl) rfl ?_
          exact r_wk (o_M_rest_l53 hn FU (0 : Int32) (-2 : Int32) hq10) ⟨rfl, ⟨rfl, ⟨rfl, ⟨rfl, ⟨rfl, ⟨rfl, trivial⟩⟩⟩⟩⟩⟩
        · refine r_iconst (pc := 40) (v := -1) d_M_rest_40 (by rfl) ?_
          exact r_iret (pc := 41) rfl d_M_rest_41

def f_M_divisor_l4  (a0 : Int32) (a1 : Int32)  : Nat → Int32 → Int32 → AH → Option (Int32 × AH)
  | 0, _, _, _ => none
  | n + 1, x2, x3, h =>
    if x3 ≤ 0 then
      some (x2, h)
    else
      gz x3 <|
      lt (x2 - x2 / x3 * x3) fun xq2 =>
      f_M_divisor_l4 a0 a1 n x3 xq2 h
set_option maxHeartbeats 2000000 in
theorem o_M_divisor_l4 {G : AE} {n : Nat} (hn : NN ≤ n)  {a0 : Int32} {a1 : Int32}   : ∀ (n0 : Nat) (x2 : Int32) (x3 : Int32) (h : AH), AJ G n y_M_divisor (1) φI 4 [none, none, some (.int x2), some (.int x3), none] [] h (f_M_divisor_l4 a0 a1 n0 x2 x3 h) := by
  intro n0
  induction n0 with
  | zero => intros; exact r_none
  | succ n0 ih =>
    intro x2 x3 h
    rw [f_M_divisor_l4]
    refine r_iload_n (pc := 4) (i := 3) d_M_divisor_4 rfl rfl ?_
    refine r_if_le (pc := 5) (tgt := 21) d_M_divisor_5 (by rfl) ?_ ?_
    · refine r_iload_n (pc := 21) (i := 2) d_M_divisor_21 rfl rfl ?_
      exact r_iret (pc := 22) rfl d_M_divisor_22
    · refine r_iload_n (pc := 8) (i := 2) d_M_divisor_8 rfl rfl ?_
      refine r_iload_n (pc := 9) (i := 3) d_M_divisor_9 rfl rfl ?_
      refine r_gz (fun zq1 => ?_)
      refine r_iremC (pc := 10) zq1 d_M_divisor_10 ?_
      refine r_ltI (fun xq2 => ?_)
      refine r_istore (pc := 11) (lv1 := [none, none, some (.int x2), some (.int x3), some (.int xq2)]) d_M_divisor_11 (Nat.le_of_ble_eq_true rfl) rfl ?_
      refine r_iload_n (pc := 13) (i := 3) d_M_divisor_13 rfl rfl ?_
      refine r_istore_n (pc := 14) (i := 2) (lv1 := [none, none, some (.int x3), some (.int x3), some (.int xq2)]) d_M_divisor_14 rfl (Nat.le_of_ble_eq_true rfl) rfl ?_
      refine r_iload (pc := 15) d_M_divisor_15 rfl ?_
      refine r_istore_n (pc := 17) (i := 3) (lv1 := [none, none, some (.int x3), some (.int xq2), some (.int xq2)]) d_M_divisor_17 rfl (Nat.le_of_ble_eq_true rfl) rfl ?_
      refine r_goto (pc := 18) (tgt := 4) d_M_divisor_18 (by rfl) ?_
      exact r_wk (ih x3 xq2 h) ⟨rfl, ⟨rfl, trivial⟩⟩
def f_M_divisor  (a0 : Int32) (a1 : Int32) (h : AH) : Option (Int32 × AH) :=
  f_M_divisor_l4 a0 a1 FU a0 a1 h
set_option maxHeartbeats 2000000 in
theorem ok_M_divisor {G : AE} {n : Nat} (hn : NN ≤ n)  (a0 : Int32) (a1 : Int32) (h : AH) : OK G n y_M_divisor (1) φI [.int a0, .int a1] h (f_M_divisor a0 a1 h) := by
  refine ok_of (y := y_M_divisor) (lv0 := [some (.int a0), some (.int a1), none, none, none]) (by decide +kernel) (Nat.le_of_ble_eq_true rfl) ⟨rfl, ⟨rfl, trivial⟩⟩ ?_
  rw [f_M_divisor]
  refine r_iload_n (pc := 0) (i := 0) d_M_divisor_0 rfl rfl ?_
  refine r_istore_n (pc := 1) (i := 2) (lv1 := [some (.int a0), some (.int a1), some (.int a0), none, none]) d_M_divisor_1 rfl (Nat.le_of_ble_eq_true rfl) rfl ?_
  refine r_iload_n (pc := 2) (i := 1) d_M_divisor_2 rfl rfl ?_
  refine r_istore_n (pc := 3) (i := 3) (lv1 := [some (.int a0), some (.int a1), some (.int a0), some (.int a1), none]) d_M_divisor_3 rfl (Nat.le_of_ble_eq_true rfl) rfl ?_
  exact r_wk (o_M_divisor_l4 hn FU a0 a1 h) ⟨rfl, ⟨rfl, trivial⟩⟩

def f_M_shareOf_b52  (a1 : Int32) (a2 : Int32) (k9 : Int32 → Int32 → AH → Option (Int32 × AH)) (x4 : Int32) (x5 : Int32) (v0 : Int32) (v1 : Int32) (h : AH) : Option (Int32 × AH) :=
  lt (v0 * v1) fun xq1 =>
  bV (f_M_pass x5 h) fun hq2 =>
  lt (x4 + (1 : Int32)) fun xq3 =>
  k9 xq1 xq3 hq2
set_option maxHeartbeats 2000000 in
theorem o_M_shareOf_b52 {G : AE} {n : Nat} (hn : NN ≤ n)  {a1 : Int32} {a2 : Int32}  {k9 : Int32 → Int32 → AH → Option (Int32 × AH)} (hk9 : ∀ (x3 : Int32) (x4 : Int32) (h : AH), AJ G n y_M_shareOf (3) φI 9 [some (.ref 383), some (.int a1), some (.int a2), some (.int x3), some (.int x4), none] [] h (k9 x3 x4 h)) : ∀ (x4 : Int32) (x5 : Int32) (v0 : Int32) (v1 : Int32) (h : AH), AJ G n y_M_shareOf (3) φI 52 [some (.ref 383), some (.int a1), some (.int a2), none, some (.int x4), some (.int x5)] [.int v1, .int v0] h (f_M_shareOf_b52 a1 a2 k9 x4 x5 v0 v1 h) := by
  intro x4 x5 v0 v1 h
  rw [f_M_shareOf_b52]
  refine r_imul (pc := 52) d_M_shareOf_52 ?_
  refine r_ltI (fun xq1 => ?_)
  refine r_istore_n (pc := 53) (i := 3) (lv1 := [some (.ref 383), some (.int a1), some (.int a2), some (.int xq1), some (.int x4), some (.int x5)]) d_M_shareOf_53 rfl (Nat.le_of_ble_eq_true rfl) rfl ?_
  refine r_aload_n (pc := 54) (i := 0) d_M_shareOf_54 rfl rfl ?_
  refine r_iload (pc := 55) d_M_shareOf_55 rfl ?_
  refine r_cVv (pc := 57) (T := F_12) (N := 73) (st := []) (ok_M_pass hn x5 h) (fun s => Std.k s (lc hn rfl) kq_383) rfl w_1584 w_13 w_1581 w_1583 ws_90 hy_M_pass ⟨Nat.le_of_ble_eq_true rfl, Nat.le_of_ble_eq_true rfl⟩ ⟨Nat.le_of_ble_eq_true rfl, Nat.le_of_ble_eq_true rfl⟩ rfl (Nat.le_of_ble_eq_true rfl) d_M_shareOf_57 (fun hq2 => ?_)
  refine r_ltE (fun xq3 exq3 => ?_)
  refine r_iinc (pc := 60) (v := xq3) (lv1 := [some (.ref 383), some (.int a1), some (.int a2), some (.int xq1), some (.int xq3), some (.int x5)]) d_M_shareOf_60 rfl exq3.symm (Nat.le_of_ble_eq_true rfl) rfl ?_
  refine r_goto (pc := 63) (tgt := 9) d_M_shareOf_63 (by rfl) ?_
  exact r_wk (hk9 xq1 xq3 hq2) ⟨rfl, ⟨rfl, ⟨rfl, ⟨rfl, ⟨rfl, trivial⟩⟩⟩⟩⟩
def f_M_shareOf_b30  (a1 : Int32) (a2 : Int32) (k9 : Int32 → Int32 → AH → Option (Int32 × AH)) (x3 : Int32) (x4 : Int32) (v0 : Int32) (h : AH) : Option (Int32 × AH) :=
  if v0 = 0 then
    f_M_shareOf_b52 a1 a2 k9 x4 v0 x3 ((100 : Int32) - (hI h 383 44)) h
  else
    f_M_shareOf_b52 a1 a2 k9 x4 v0 x3 (hI h 383 44) h
set_option maxHeartbeats 2000000 in
theorem o_M_shareOf_b30 {G : AE} {n : Nat} (hn : NN ≤ n)  {a1 : Int32} {a2 : Int32}  {k9 : Int32 → Int32 → AH → Option (Int32 × AH)} (hk9 : ∀ (x3 : Int32) (x4 : Int32) (h : AH), AJ G n y_M_shareOf (3) φI 9 [some (.ref 383), some (.int a1), some (.int a2), some (.int x3), some (.int x4), none] [] h (k9 x3 x4 h)) : ∀ (x3 : Int32) (x4 : Int32) (v0 : Int32) (h : AH), AJ G n y_M_shareOf (3) φI 30 [some (.ref 383), some (.int a1), some (.int a2), some (.int x3), some (.int x4), none] [.int v0] h (f_M_shareOf_b30 a1 a2 k9 x3 x4 v0 h) := by
  intro x3 x4 v0 h
  rw [f_M_shareOf_b30]
  refine r_istore (pc := 30) (lv1 := [some (.ref 383), some (.int a1), some (.int a2), some (.int x3), some (.int x4), some (.int v0)]) d_M_shareOf_30 (Nat.le_of_ble_eq_true rfl) rfl ?_
  refine r_iload_n (pc := 32) (i := 3) d_M_shareOf_32 rfl rfl ?_
  refine r_iload (pc := 33) d_M_shareOf_33 rfl ?_
  refine r_if_eq (pc := 35) (tgt := 45) d_M_shareOf_35 (by rfl) ?_ ?_
  · refine r_bipush (pc := 45) (v := 100) d_M_shareOf_45 (by rfl) ?_
    refine r_aload_n (pc := 47) (i := 0) d_M_shareOf_47 rfl rfl ?_
    refine r_getf (pc := 48) (ci := 12) (k := 44) (C := "CricketHayModel") (T := F_12) (N := 73) (v := .int (hI h 383 44)) (fun s => Std.k s (lc hn rfl) kq_383) rfl (Nat.le_of_ble_eq_true rfl) rfl w_1130 (fun _ => rfl) d_M_shareOf_48 ?_
    refine r_isub (pc := 51) d_M_shareOf_51 ?_
    exact r_wk (o_M_shareOf_b52 hn hk9 x4 v0 x3 ((100 : Int32) - (hI h 383 44)) h) ⟨rfl, ⟨rfl, ⟨rfl, ⟨rfl, ⟨rfl, trivial⟩⟩⟩⟩⟩
  · refine r_aload_n (pc := 38) (i := 0) d_M_shareOf_38 rfl rfl ?_
    refine r_getf (pc := 39) (ci := 12) (k := 44) (C := "CricketHayModel") (T := F_12) (N := 73) (v := .int (hI h 383 44)) (fun s => Std.k s (lc hn rfl) kq_383) rfl (Nat.le_of_ble_eq_true rfl) rfl w_1130 (fun _ => rfl) d_M_shareOf_39 ?_
    refine r_goto (pc := 42) (tgt := 52) d_M_shareOf_42 (by rfl) ?_
    exact r_wk (o_M_shareOf_b52 hn hk9 x4 v0 x3 (hI h 383 44) h) ⟨rfl, ⟨rfl, ⟨rfl, ⟨rfl, ⟨rfl, trivial⟩⟩⟩⟩⟩
def f_M_shareOf_l9  (a1 : Int32) (a2 : Int32)  : Nat → Int32 → Int32 → AH → Option (Int32 × AH)
  | 0, _, _, _ => none
  | n + 1, x3, x4, h =>
    if a1 ≤ x4 then
      some (x3, h)
    else
      if ¬ ((a2 >>> (x4 &&& 31)) &&& (1 : Int32)) = (1 : Int32) then
        f_M_shareOf_b30 a1 a2 (f_M_shareOf_l9 a1 a2 n) x3 x4 (0 : Int32) h
      else
        f_M_shareOf_b30 a1 a2 (f_M_shareOf_l9 a1 a2 n) x3 x4 (1 : Int32) h
set_option maxHeartbeats 2000000 in
theorem o_M_shareOf_l9 {G : AE} {n : Nat} (hn : NN ≤ n)  {a1 : Int32} {a2 : Int32}   : ∀ (n0 : Nat) (x3 : Int32) (x4 : Int32) (h : AH), AJ G n y_M_shareOf (3) φI 9 [some (.ref 383), some (.int a1), some (.int a2), some (.int x3), some (.int x4), none] [] h (f_M_shareOf_l9 a1 a2 n0 x3 x4 h) := by
  intro n0
  induction n0 with
  | zero => intros; exact r_none
  | succ n0 ih =>
    intro x3 x4 h
    rw [f_M_shareOf_l9]
    refine r_iload (pc := 9) d_M_shareOf_9 rfl ?_
    refine r_iload_n (pc := 11) (i := 1) d_M_shareOf_11 rfl rfl ?_
    refine r_icmp_ge (pc := 12) (tgt := 66) d_M_shareOf_12 (by rfl) ?_ ?_
    · refine r_iload_n (pc := 66) (i := 3) d_M_shareOf_66 rfl rfl ?_
      exact r_iret (pc := 67) rfl d_M_shareOf_67
    · refine r_iload_n (pc := 15) (i := 2) d_M_shareOf_15 rfl rfl ?_
      refine r_iload (pc := 16) d_M_shareOf_16 rfl ?_
      refine r_ishr (pc := 18) d_M_shareOf_18 ?_
      refine r_iconst (pc := 19) (v := 1) d_M_shareOf_19 (by rfl) ?_
      refine r_iand (pc := 20) d_M_shareOf_20 ?_
      refine r_iconst (pc := 21) (v := 1) d_M_shareOf_21 (by rfl) ?_
      refine r_icmp_ne (pc := 22) (tgt := 29) d_M_shareOf_22 (by rfl) ?_ ?_
      · refine r_iconst (pc := 29) (v := 0) d_M_shareOf_29 (by rfl) ?_
        exact r_wk (o_M_shareOf_b30 hn ih x3 x4 (0 : Int32) h) ⟨rfl, ⟨rfl, ⟨rfl, ⟨rfl, ⟨rfl, trivial⟩⟩⟩⟩⟩
      · refine r_iconst (pc := 25) (v := 1) d_M_shareOf_25 (by rfl) ?_
        refine r_goto (pc := 26) (tgt := 30) d_M_shareOf_26 (by rfl) ?_
        exact r_wk (o_M_shareOf_b30 hn ih x3 x4 (1 : Int32) h) ⟨rfl, ⟨rfl, ⟨rfl, ⟨rfl, ⟨rfl, trivial⟩⟩⟩⟩⟩
def f_M_shareOf  (a1 : Int32) (a2 : Int32) (h : AH) : Option (Int32 × AH) :=
  bV (f_M_load h) fun hq1 =>
  f_M_shareOf_l9 a1 a2 FU (1 : Int32) (0 : Int32) hq1
set_option maxHeartbeats 2000000 in
theorem ok_M_shareOf {G : AE} {n : Nat} (hn : NN ≤ n)  (a1 : Int32) (a2 : Int32) (h : AH) : OK G n y_M_shareOf (3) φI [.ref 383, .int a1, .int a2] h (f_M_shareOf a1 a2 h) := by
  refine ok_of (y := y_M_shareOf) (lv0 := [some (.ref 383), some (.int a1), some (.int a2), none, none, none]) (by decide +kernel) (Nat.le_of_ble_eq_true rfl) ⟨rfl, ⟨rfl, ⟨rfl, trivial⟩⟩⟩ ?_
  rw [f_M_shareOf]
  refine r_aload_n (pc := 0) (i := 0) d_M_shareOf_0 rfl rfl ?_
  refine r_cVv (pc := 1) (T := F_12) (N := 73) (st := []) (ok_M_load hn h) (fun s => Std.k s (lc hn rfl) kq_383) rfl w_1483 w_13 w_1480 w_1482 ws_76 hy_M_load ⟨Nat.le_of_ble_eq_true rfl, Nat.le_of_ble_eq_true rfl⟩ ⟨Nat.le_of_ble_eq_true rfl, Nat.le_of_ble_eq_true rfl⟩ rfl (Nat.le_of_ble_eq_true rfl) d_M_shareOf_1 (fun hq1 => ?_)
  refine r_iconst (pc := 4) (v := 1) d_M_shareOf_4 (by rfl) ?_
  refine r_istore_n (pc := 5) (i := 3) (lv1 := [some (.ref 383), some (.int a1), some (.int a2), some (.int (1 : Int32)), none, none]) d_M_shareOf_5 rfl (Nat.le_of_ble_eq_true rfl) rfl ?_
  refine r_iconst (pc := 6) (v := 0) d_M_shareOf_6 (by rfl) ?_
  refine r_istore (pc := 7) (lv1 := [some (.ref 383), some (.int a1), some (.int a2), some (.int (1 : Int32)), some (.int (0 : Int32)), none]) d_M_shareOf_7 (Nat.le_of_ble_eq_true rfl) rfl ?_
  exact r_wk (o_M_shareOf_l9 hn FU (1 : Int32) (0 : Int32) hq1) ⟨rfl, ⟨rfl, ⟨rfl, ⟨rfl, ⟨rfl, trivial⟩⟩⟩⟩⟩

def f_M_hundreds_l4  (a0 : Int32)  : Nat → Int32 → Int32 → AH → Option (Int32 × AH)
  | 0, _, _, _ => none
  | n + 1, x1, x2, h =>
    if a0 ≤ x2 then
      some (x1, h)
    else
      lt (x1 * (100 : Int32)) fun xq1 =>
      lt (x2 + (1 : Int32)) fun xq2 =>
      f_M_hundreds_l4 a0 n xq1 xq2 h
set_option maxHeartbeats 2000000 in
theorem o_M_hundreds_l4 {G : AE} {n : Nat} (hn : NN ≤ n)  {a0 : Int32}   : ∀ (n0 : Nat) (x1 : Int32) (x2 : Int32) (h : AH), AJ G n y_M_hundreds (1) φI 4 [some (.int a0), some (.int x1), some (.int x2)] [] h (f_M_hundreds_l4 a0 n0 x1 x2 h) := by
  intro n0
  induction n0 with
  | zero => intros; exact r_none
  | succ n0 ih =>
    intro x1 x2 h
    rw [f_M_hundreds_l4]
    refine r_iload_n (pc := 4) (i := 2) d_M_hundreds_4 rfl rfl ?_
    refine r_iload_n (pc := 5) (i := 0) d_M_hundreds_5 rfl rfl ?_
    refine r_icmp_ge (pc := 6) (tgt := 20) d_M_hundreds_6 (by rfl) ?_ ?_
    · refine r_iload_n (pc := 20) (i := 1) d_M_hundreds_20 rfl rfl ?_
      exact r_iret (pc := 21) rfl d_M_hundreds_21
    · refine r_iload_n (pc := 9) (i := 1) d_M_hundreds_9 rfl rfl ?_
      refine r_bipush (pc := 10) (v := 100) d_M_hundreds_10 (by rfl) ?_
      refine r_imul (pc := 12) d_M_hundreds_12 ?_
      refine r_ltI (fun xq1 => ?_)
      refine r_istore_n (pc := 13) (i := 1) (lv1 := [some (.int a0), some (.int xq1), some (.int x2)]) d_M_hundreds_13 rfl (Nat.le_of_ble_eq_true rfl) rfl ?_
      refine r_ltE (fun xq2 exq2 => ?_)
      refine r_iinc (pc := 14) (v := xq2) (lv1 := [some (.int a0), some (.int xq1), some (.int xq2)]) d_M_hundreds_14 rfl exq2.symm (Nat.le_of_ble_eq_true rfl) rfl ?_
      refine r_goto (pc := 17) (tgt := 4) d_M_hundreds_17 (by rfl) ?_
      exact r_wk (ih xq1 xq2 h) ⟨rfl, ⟨rfl, ⟨rfl, trivial⟩⟩⟩
def f_M_hundreds  (a0 : Int32) (h : AH) : Option (Int32 × AH) :=
  f_M_hundreds_l4 a0 FU (1 : Int32) (0 : Int32) h
set_option maxHeartbeats 2000000 in
theorem ok_M_hundreds {G : AE} {n : Nat} (hn : NN ≤ n)  (a0 : Int32) (h : AH) : OK G n y_M_hundreds (1) φI [.int a0] h (f_M_hundreds a0 h) := by
  refine ok_of (y := y_M_hundreds) (lv0 := [some (.int a0), none, none]) (by decide +kernel) (Nat.le_of_ble_eq_true rfl) ⟨rfl, trivial⟩ ?_
  rw [f_M_hundreds]
  refine r_iconst (pc := 0) (v := 1) d_M_hundreds_0 (by rfl) ?_
  refine r_istore_n (pc := 1) (i := 1) (lv1 := [some (.int a0), some (.int (1 : Int32)), none]) d_M_hundreds_1 rfl (Nat.le_of_ble_eq_true rfl) rfl ?_
  refine r_iconst (pc := 2) (v := 0) d_M_hundreds_2 (by rfl) ?_
  refine r_istore_n (pc := 3) (i := 2) (lv1 := [some (.int a0), some (.int (1 : Int32)), some (.int (0 : Int32))]) d_M_hundreds_3 rfl (Nat.le_of_ble_eq_true rfl) rfl ?_
  exact r_wk (o_M_hundreds_l4 hn FU (1 : Int32) (0 : Int32) h) ⟨rfl, ⟨rfl, ⟨rfl, trivial⟩⟩⟩

def f_M_canOdds  (a1 : Int32) (a2 : Int32) (a3 : Int32) (a4 : Int32) (h : AH) : Option (Int32 × AH) :=
  bI (f_M_areTwo a1 a2 h) fun rq1 hq2 =>
  if rq1 = 0 then
    some ((0 : Int32), hq2)
  else
    bI (f_M_isIn a3 (0 : Int32) (4 : Int32) hq2) fun rq3 hq4 =>
    if rq3 = 0 then
      some ((0 : Int32), hq4)
    else
      bI (f_M_isIn a4 (0 : Int32) (1 : Int32) hq4) fun rq5 hq6 =>
      if rq5 = 0 then
        some ((0 : Int32), hq6)
      else
        some ((1 : Int32), hq6)
set_option maxHeartbeats 2000000 in
theorem ok_M_canOdds {G : AE} {n : Nat} (hn : NN ≤ n)  (a1 : Int32) (a2 : Int32) (a3 : Int32) (a4 : Int32) (h : AH) : OK G n y_M_canOdds (4) φI [.ref 383, .int a1, .int a2, .int a3, .int a4] h (f_M_canOdds a1 a2 a3 a4 h) := by
  refine ok_of (y := y_M_canOdds) (lv0 := [some (.ref 383), some (.int a1), some (.int a2), some (.int a3), some (.int a4)]) (by decide +kernel) (Nat.le_of_ble_eq_true rfl) ⟨rfl, ⟨rfl, ⟨rfl, ⟨rfl, ⟨rfl, trivial⟩⟩⟩⟩⟩ ?_
  rw [f_M_canOdds]
  refine r_aload_n (pc := 0) (i := 0) d_M_canOdds_0 rfl rfl ?_
  refine r_iload_n (pc := 1) (i := 1) d_M_canOdds_1 rfl rfl ?_
  refine r_iload_n (pc := 2) (i := 2) d_M_canOdds_2 rfl rfl ?_
  refine r_cVi (pc := 3) (T := F_12) (N := 73) (st := []) (ok_M_areTwo hn a1 a2 h) (fun s => Std.k s (lc hn rfl) kq_383) rfl w_1532 w_13 w_1529 w_1531 ws_84 hy_M_areTwo ⟨Nat.le_of_ble_eq_true rfl, Nat.le_of_ble_eq_true rfl⟩ ⟨Nat.le_of_ble_eq_true rfl, Nat.le_of_ble_eq_true rfl⟩ rfl (Nat.le_of_ble_eq_true rfl) d_M_canOdds_3 (fun rq1 hq2 => ?_)
  refine r_if_eq (pc := 6) (tgt := 32) d_M_canOdds_6 (by rfl) ?_ ?_
  · refine r_iconst (pc := 32) (v := 0) d_M_canOdds_32 (by rfl) ?_
    exact r_zret (pc := 33) rfl rfl d_M_canOdds_33
  · refine r_iload_n (pc := 9) (i := 3) d_M_canOdds_9 rfl rfl ?_
    refine r_iconst (pc := 10) (v := 0) d_M_canOdds_10 (by rfl) ?_
    refine r_iconst (pc := 11) (v := 4) d_M_canOdds_11 (by rfl) ?_
    refine r_cSi (pc := 12) (st := []) (ok_M_isIn hn a3 (0 : Int32) (4 : Int32) hq2) w_1479 w_13 w_1477 w_1478 hy_M_isIn ⟨Nat.le_of_ble_eq_true rfl, Nat.le_of_ble_eq_true rfl⟩ ⟨Nat.le_of_ble_eq_true rfl, Nat.le_of_ble_eq_true rfl⟩ rfl (Nat.le_of_ble_eq_true rfl) d_M_canOdds_12 (fun rq3 hq4 => ?_)
    refine r_if_eq (pc := 15) (tgt := 32) d_M_canOdds_15 (by rfl) ?_ ?_
    · refine r_iconst (pc := 32) (v := 0) d_M_canOdds_32 (by rfl) ?_
      exact r_zret (pc := 33) rfl rfl d_M_canOdds_33
    · refine r_iload (pc := 18) d_M_canOdds_18 rfl ?_
      refine r_iconst (pc := 20) (v := 0) d_M_canOdds_20 (by rfl) ?_
      refine r_iconst (pc := 21) (v := 1) d_M_canOdds_21 (by rfl) ?_
      refine r_cSi (pc := 22) (st := []) (ok_M_isIn hn a4 (0 : Int32) (1 : Int32) hq4) w_1479 w_13 w_1477 w_1478 hy_M_isIn ⟨Nat.le_of_ble_eq_true rfl, Nat.le_of_ble_eq_true rfl⟩ ⟨Nat.le_of_ble_eq_true rfl, Nat.le_of_ble_eq_true rfl⟩ rfl (Nat.le_of_ble_eq_true rfl) d_M_canOdds_22 (fun rq5 hq6 => ?_)
      refine r_if_eq (pc := 25) (tgt := 32) d_M_canOdds_25 (by rfl) ?_ ?_
      · refine r_iconst (pc := 32) (v := 0) d_M_canOdds_32 (by rfl) ?_
        exact r_zret (pc := 33) rfl rfl d_M_canOdds_33
      · refine r_iconst (pc := 28) (v := 1) d_M_canOdds_28 (by rfl) ?_
        refine r_goto (pc := 29) (tgt := 33) d_M_canOdds_29 (by rfl) ?_
        exact r_zret (pc := 33) rfl rfl d_M_canOdds_33

def f_M_odds_l21  (a1 : Int32) (a2 : Int32) (a3 : Int32) (a4 : Int32) (a5 : Int32)  : Nat → Int32 → Int32 → AH → Option (Int32 × AH)
  | 0, _, _, _ => none
  | n + 1, x6, x7, h =>
    if ((1 : Int32) <<< (a4 &&& 31)) ≤ x7 then
      bI (f_M_hundreds a4 h) fun rq1 hq2 =>
      bI (f_M_divisor rq1 x6 hq2) fun rq3 hq4 =>
      if ¬ a5 = 0 then
        gz rq3 <|
        some ((rq1 / rq3), hq4)
      else
        gz rq3 <|
        some ((x6 / rq3), hq4)
    else
      bI (f_M_shareOf a4 x7 h) fun rq7 hq8 =>
      bI (f_M_priceOf a1 a2 hq8) fun rq9 hq10 =>
      if rq9 < a3 then
        lt (x6 + (0 : Int32)) fun xq11 =>
        lt (x7 + (1 : Int32)) fun xq12 =>
        f_M_odds_l21 a1 a2 a3 a4 a5 n xq11 xq12 hq10
      else
        lt (x6 + rq7) fun xq13 =>
        lt (x7 + (1 : Int32)) fun xq14 =>
        f_M_odds_l21 a1 a2 a3 a4 a5 n xq13 xq14 hq10
set_option maxHeartbeats 2000000 in
theorem o_M_odds_l21 {G : AE} {n : Nat} (hn : NN ≤ n)  {a1 : Int32} {a2 : Int32} {a3 : Int32} {a4 : Int32} {a5 : Int32}   : ∀ (n0 : Nat) (x6 : Int32) (x7 : Int32) (h : AH), AJ G n y_M_odds (7) φI 21 [some (.ref 383), some (.int a1), some (.int a2), some (.int a3), some (.int a4), some (.int a5), some (.int x6), some (.int x7), none] [] h (f_M_odds_l21 a1 a2 a3 a4 a5 n0 x6 x7 h) := by
  intro n0
  induction n0 with
  | zero => intros; exact r_none
  | succ n0 ih =>
    intro x6 x7 h
    rw [f_M_odds_l21]
    refine r_iload (pc := 21) d_M_odds_21 rfl ?_
    refine r_iconst (pc := 23) (v := 1) d_M_odds_23 (by rfl) ?_
    refine r_iload (pc := 24) d_M_odds_24 rfl ?_
    refine r_ishl (pc := 26) d_M_odds_26 ?_
    refine r_icmp_ge (pc := 27) (tgt := 67) d_M_odds_27 (by rfl) ?_ ?_
    · refine r_iload (pc := 67) d_M_odds_67 rfl ?_
      refine r_cSi (pc := 69) (st := []) (ok_M_hundreds hn a4 h) w_1692 w_13 w_1690 w_1691 hy_M_hundreds ⟨Nat.le_of_ble_eq_true rfl, Nat.le_of_ble_eq_true rfl⟩ ⟨Nat.le_of_ble_eq_true rfl, Nat.le_of_ble_eq_true rfl⟩ rfl (Nat.le_of_ble_eq_true rfl) d_M_odds_69 (fun rq1 hq2 => ?_)
      refine r_istore (pc := 72) (lv1 := [some (.ref 383), some (.int a1), some (.int a2), some (.int a3), some (.int a4), some (.int a5), some (.int x6), some (.int rq1), none]) d_M_odds_72 (Nat.le_of_ble_eq_true rfl) rfl ?_
      refine r_iload (pc := 74) d_M_odds_74 rfl ?_
      refine r_iload (pc := 76) d_M_odds_76 rfl ?_
      refine r_cSi (pc := 78) (st := []) (ok_M_divisor hn rq1 x6 hq2) w_1695 w_13 w_1693 w_1694 hy_M_divisor ⟨Nat.le_of_ble_eq_true rfl, Nat.le_of_ble_eq_true rfl⟩ ⟨Nat.le_of_ble_eq_true rfl, Nat.le_of_ble_eq_true rfl⟩ rfl (Nat.le_of_ble_eq_true rfl) d_M_odds_78 (fun rq3 hq4 => ?_)
      refine r_istore (pc := 81) (lv1 := [some (.ref 383), some (.int a1), some (.int a2), some (.int a3), some (.int a4), some (.int a5), some (.int x6), some (.int rq1), some (.int rq3)]) d_M_odds_81 (Nat.le_of_ble_eq_true rfl) rfl ?_
      refine r_iload (pc := 83) d_M_odds_83 rfl ?_
      refine r_if_ne (pc := 85) (tgt := 96) d_M_odds_85 (by rfl) ?_ ?_
      · refine r_iload (pc := 96) d_M_odds_96 rfl ?_
        refine r_iload (pc := 98) d_M_odds_98 rfl ?_
        refine r_gz (fun zq5 => ?_)
        refine r_idivC (pc := 100) zq5 d_M_odds_100 ?_
        exact r_iret (pc := 101) rfl d_M_odds_101
      · refine r_iload (pc := 88) d_M_odds_88 rfl ?_
        refine r_iload (pc := 90) d_M_odds_90 rfl ?_
        refine r_gz (fun zq6 => ?_)
        refine r_idivC (pc := 92) zq6 d_M_odds_92 ?_
        refine r_goto (pc := 93) (tgt := 101) d_M_odds_93 (by rfl) ?_
        exact r_iret (pc := 101) rfl d_M_odds_101
    · refine r_aload_n (pc := 30) (i := 0) d_M_odds_30 rfl rfl ?_
      refine r_iload (pc := 31) d_M_odds_31 rfl ?_
      refine r_iload (pc := 33) d_M_odds_33 rfl ?_
      refine r_cVi (pc := 35) (T := F_12) (N := 73) (st := []) (ok_M_shareOf hn a4 x7 h) (fun s => Std.k s (lc hn rfl) kq_383) rfl w_1689 w_13 w_1686 w_1688 ws_103 hy_M_shareOf ⟨Nat.le_of_ble_eq_true rfl, Nat.le_of_ble_eq_true rfl⟩ ⟨Nat.le_of_ble_eq_true rfl, Nat.le_of_ble_eq_true rfl⟩ rfl (Nat.le_of_ble_eq_true rfl) d_M_odds_35 (fun rq7 hq8 => ?_)
      refine r_istore (pc := 38) (lv1 := [some (.ref 383), some (.int a1), some (.int a2), some (.int a3), some (.int a4), some (.int a5), some (.int x6), some (.int x7), some (.int rq7)]) d_M_odds_38 (Nat.le_of_ble_eq_true rfl) rfl ?_
      refine r_iload (pc := 40) d_M_odds_40 rfl ?_
      refine r_aload_n (pc := 42) (i := 0) d_M_odds_42 rfl rfl ?_
      refine r_iload_n (pc := 43) (i := 1) d_M_odds_43 rfl rfl ?_
      refine r_iload_n (pc := 44) (i := 2) d_M_odds_44 rfl rfl ?_
      refine r_cVi (pc := 45) (T := F_12) (N := 73) (st := [.int x6]) (ok_M_priceOf hn a1 a2 hq8) (fun s => Std.k s (lc hn rfl) kq_383) rfl w_1536 w_13 w_1533 w_1535 ws_85 hy_M_priceOf ⟨Nat.le_of_ble_eq_true rfl, Nat.le_of_ble_eq_true rfl⟩ ⟨Nat.le_of_ble_eq_true rfl, Nat.le_of_ble_eq_true rfl⟩ rfl (Nat.le_of_ble_eq_true rfl) d_M_odds_45 (fun rq9 hq10 => ?_)
      refine r_iload_n (pc := 48) (i := 3) d_M_odds_48 rfl rfl ?_
      refine r_icmp_lt (pc := 49) (tgt := 57) d_M_odds_49 (by rfl) ?_ ?_
      · refine r_iconst (pc := 57) (v := 0) d_M_odds_57 (by rfl) ?_
        refine r_iadd (pc := 58) d_M_odds_58 ?_
        refine r_ltI (fun xq11 => ?_)
        refine r_istore (pc := 59) (lv1 := [some (.ref 383), some (.int a1), some (.int a2), some (.int a3), some (.int a4), some (.int a5), some (.int xq11), some (.int x7), some (.int rq7)]) d_M_odds_59 (Nat.le_of_ble_eq_true rfl) rfl ?_
        refine r_ltE (fun xq12 exq12 => ?_)
        refine r_iinc (pc := 61) (v := xq12) (lv1 := [some (.ref 383), some (.int a1), some (.int a2), some (.int a3), some (.int a4), some (.int a5), some (.int xq11), some (.int xq12), some (.int rq7)]) d_M_odds_61 rfl exq12.symm (Nat.le_of_ble_eq_true rfl) rfl ?_
        refine r_goto (pc := 64) (tgt := 21) d_M_odds_64 (by rfl) ?_
        exact r_wk (ih xq11 xq12 hq10) ⟨rfl, ⟨rfl, ⟨rfl, ⟨rfl, ⟨rfl, ⟨rfl, ⟨rfl, ⟨rfl, trivial⟩⟩⟩⟩⟩⟩⟩⟩
      · refine r_iload (pc := 52) d_M_odds_52 rfl ?_
        refine r_goto (pc := 54) (tgt := 58) d_M_odds_54 (by rfl) ?_
        refine r_iadd (pc := 58) d_M_odds_58 ?_
        refine r_ltI (fun xq13 => ?_)
        refine r_istore (pc := 59) (lv1 := [some (.ref 383), some (.int a1), some (.int a2), some (.int a3), some (.int a4), some (.int a5), some (.int xq13), some (.int x7), some (.int rq7)]) d_M_odds_59 (Nat.le_of_ble_eq_true rfl) rfl ?_
        refine r_ltE (fun xq14 exq14 => ?_)
        refine r_iinc (pc := 61) (v := xq14) (lv1 := [some (.ref 383), some (.int a1), some (.int a2), some (.int a3), some (.int a4), some (.int a5), some (.int xq13), some (.int xq14), some (.int rq7)]) d_M_odds_61 rfl exq14.symm (Nat.le_of_ble_eq_true rfl) rfl ?_
        refine r_goto (pc := 64) (tgt := 21) d_M_odds_64 (by rfl) ?_
        exact r_wk (ih xq13 xq14 hq10) ⟨rfl, ⟨rfl, ⟨rfl, ⟨rfl, ⟨rfl, ⟨rfl, ⟨rfl, ⟨rfl, trivial⟩⟩⟩⟩⟩⟩⟩⟩
def f_M_odds  (a1 : Int32) (a2 : Int32) (a3 : Int32) (a4 : Int32) (a5 : Int32) (h : AH) : Option (Int32 × AH) :=
  bI (f_M_canOdds a1 a2 a4 a5 h) fun rq1 hq2 =>
  if ¬ rq1 = 0 then
    f_M_odds_l21 a1 a2 a3 a4 a5 FU (0 : Int32) (0 : Int32) hq2
  else
    some ((-1 : Int32), hq2)
set_option maxHeartbeats 2000000 in
theorem ok_M_odds {G : AE} {n : Nat} (hn : NN ≤ n)  (a1 : Int32) (a2 : Int32) (a3 : Int32) (a4 : Int32) (a5 : Int32) (h : AH) : OK G n y_M_odds (7) φI [.ref 383, .int a1, .int a2, .int a3, .int a4, .int a5] h (f_M_odds a1 a2 a3 a4 a5 h) := by
  refine ok_of (y := y_M_odds) (lv0 := [some (.ref 383), some (.int a1), some (.int a2), some (.int a3), some (.int a4), some (.int a5), none, none, none]) (by decide +kernel) (Nat.le_of_ble_eq_true rfl) ⟨rfl, ⟨rfl, ⟨rfl, ⟨rfl, ⟨rfl, ⟨rfl, trivial⟩⟩⟩⟩⟩⟩ ?_
  rw [f_M_odds]
  refine r_aload_n (pc := 0) (i := 0) d_M_odds_0 rfl rfl ?_
  refine r_iload_n (pc := 1) (i := 1) d_M_odds_1 rfl rfl ?_
  refine r_iload_n (pc := 2) (i := 2) d_M_odds_2 rfl rfl ?_
  refine r_iload (pc := 3) d_M_odds_3 rfl ?_
  refine r_iload (pc := 5) d_M_odds_5 rfl ?_
  refine r_cVi (pc := 7) (T := F_12) (N := 73) (st := []) (ok_M_canOdds hn a1 a2 a4 a5 h) (fun s => Std.k s (lc hn rfl) kq_383) rfl w_1685 w_13 w_1682 w_1684 ws_102 hy_M_canOdds ⟨Nat.le_of_ble_eq_true rfl, Nat.le_of_ble_eq_true rfl⟩ ⟨Nat.le_of_ble_eq_true rfl, Nat.le_of_ble_eq_true rfl⟩ rfl (Nat.le_of_ble_eq_true rfl) d_M_odds_7 (fun rq1 hq2 => ?_)
  refine r_if_ne (pc := 10) (tgt := 15) d_M_odds_10 (by rfl) ?_ ?_
  · refine r_iconst (pc := 15) (v := 0) d_M_odds_15 (by rfl) ?_
    refine r_istore (pc := 16) (lv1 := [some (.ref 383), some (.int a1), some (.int a2), some (.int a3), some (.int a4), some (.int a5), some (.int (0 : Int32)), none, none]) d_M_odds_16 (Nat.le_of_ble_eq_true rfl) rfl ?_
    refine r_iconst (pc := 18) (v := 0) d_M_odds_18 (by rfl) ?_
    refine r_istore (pc := 19) (lv1 := [some (.ref 383), some (.int a1), some (.int a2), some (.int a3), some (.int a4), some (.int a5), some (.int (0 : Int32)), some (.int (0 : Int32)), none]) d_M_odds_19 (Nat.le_of_ble_eq_true rfl) rfl ?_
    exact r_wk (o_M_odds_l21 hn FU (0 : Int32) (0 : Int32) hq2) ⟨rfl, ⟨rfl, ⟨rfl, ⟨rfl, ⟨rfl, ⟨rfl, ⟨rfl, ⟨rfl, trivial⟩⟩⟩⟩⟩⟩⟩⟩
  · refine r_iconst (pc := 13) (v := -1) d_M_odds_13 (by rfl) ?_
    exact r_iret (pc := 14) rfl d_M_odds_14

def f_M_mean_l25  (a1 : Int32) (a2 : Int32) (a3 : Int32) (a4 : Int32)  : Nat → Int32 → Int32 → AH → Option (Int32 × AH)
  | 0, _, _, _ => none
  | n + 1, x5, x6, h =>
    if ((1 : Int32) <<< (a3 &&& 31)) ≤ x6 then
      bI (f_M_hundreds a3 h) fun rq1 hq2 =>
      bI (f_M_divisor rq1 x5 hq2) fun rq3 hq4 =>
      if ¬ a4 = 0 then
        gz rq3 <|
        some ((rq1 / rq3), hq4)
      else
        gz rq3 <|
        some ((x5 / rq3), hq4)
    else
      bI (f_M_shareOf a3 x6 h) fun rq7 hq8 =>
      bI (f_M_priceOf a1 a2 hq8) fun rq9 hq10 =>
      lt (x5 + (rq7 * rq9)) fun xq11 =>
      lt (x6 + (1 : Int32)) fun xq12 =>
      f_M_mean_l25 a1 a2 a3 a4 n xq11 xq12 hq10
set_option maxHeartbeats 2000000 in
theorem o_M_mean_l25 {G : AE} {n : Nat} (hn : NN ≤ n)  {a1 : Int32} {a2 : Int32} {a3 : Int32} {a4 : Int32}   : ∀ (n0 : Nat) (x5 : Int32) (x6 : Int32) (h : AH), AJ G n y_M_mean (7) φI 25 [some (.ref 383), some (.int a1), some (.int a2), some (.int a3), some (.int a4), some (.int x5), some (.int x6), none] [] h (f_M_mean_l25 a1 a2 a3 a4 n0 x5 x6 h) := by
  intro n0
  induction n0 with
  | zero => intros; exact r_none
  | succ n0 ih =>
    intro x5 x6 h
    rw [f_M_mean_l25]
    refine r_iload (pc := 25) d_M_mean_25 rfl ?_
    refine r_iconst (pc := 27) (v := 1) d_M_mean_27 (by rfl) ?_
    refine r_iload_n (pc := 28) (i := 3) d_M_mean_28 rfl rfl ?_
    refine r_ishl (pc := 29) d_M_mean_29 ?_
    refine r_icmp_ge (pc := 30) (tgt := 62) d_M_mean_30 (by rfl) ?_ ?_
    · refine r_iload_n (pc := 62) (i := 3) d_M_mean_62 rfl rfl ?_
      refine r_cSi (pc := 63) (st := []) (ok_M_hundreds hn a3 h) w_1692 w_13 w_1690 w_1691 hy_M_hundreds ⟨Nat.le_of_ble_eq_true rfl, Nat.le_of_ble_eq_true rfl⟩ ⟨Nat.le_of_ble_eq_true rfl, Nat.le_of_ble_eq_true rfl⟩ rfl (Nat.le_of_ble_eq_true rfl) d_M_mean_63 (fun rq1 hq2 => ?_)
      refine r_istore (pc := 66) (lv1 := [some (.ref 383), some (.int a1), some (.int a2), some (.int a3), some (.int a4), some (.int x5), some (.int rq1), none]) d_M_mean_66 (Nat.le_of_ble_eq_true rfl) rfl ?_
      refine r_iload (pc := 68) d_M_mean_68 rfl ?_
      refine r_iload (pc := 70) d_M_mean_70 rfl ?_
      refine r_cSi (pc := 72) (st := []) (ok_M_divisor hn rq1 x5 hq2) w_1695 w_13 w_1693 w_1694 hy_M_divisor ⟨Nat.le_of_ble_eq_true rfl, Nat.le_of_ble_eq_true rfl⟩ ⟨Nat.le_of_ble_eq_true rfl, Nat.le_of_ble_eq_true rfl⟩ rfl (Nat.le_of_ble_eq_true rfl) d_M_mean_72 (fun rq3 hq4 => ?_)
      refine r_istore (pc := 75) (lv1 := [some (.ref 383), some (.int a1), some (.int a2), some (.int a3), some (.int a4), some (.int x5), some (.int rq1), some (.int rq3)]) d_M_mean_75 (Nat.le_of_ble_eq_true rfl) rfl ?_
      refine r_iload (pc := 77) d_M_mean_77 rfl ?_
      refine r_if_ne (pc := 79) (tgt := 90) d_M_mean_79 (by rfl) ?_ ?_
      · refine r_iload (pc := 90) d_M_mean_90 rfl ?_
        refine r_iload (pc := 92) d_M_mean_92 rfl ?_
        refine r_gz (fun zq5 => ?_)
        refine r_idivC (pc := 94) zq5 d_M_mean_94 ?_
        exact r_iret (pc := 95) rfl d_M_mean_95
      · refine r_iload (pc := 82) d_M_mean_82 rfl ?_
        refine r_iload (pc := 84) d_M_mean_84 rfl ?_
        refine r_gz (fun zq6 => ?_)
        refine r_idivC (pc := 86) zq6 d_M_mean_86 ?_
        refine r_goto (pc := 87) (tgt := 95) d_M_mean_87 (by rfl) ?_
        exact r_iret (pc := 95) rfl d_M_mean_95
    · refine r_aload_n (pc := 33) (i := 0) d_M_mean_33 rfl rfl ?_
      refine r_iload_n (pc := 34) (i := 3) d_M_mean_34 rfl rfl ?_
      refine r_iload (pc := 35) d_M_mean_35 rfl ?_
      refine r_cVi (pc := 37) (T := F_12) (N := 73) (st := []) (ok_M_shareOf hn a3 x6 h) (fun s => Std.k s (lc hn rfl) kq_383) rfl w_1689 w_13 w_1686 w_1688 ws_103 hy_M_shareOf ⟨Nat.le_of_ble_eq_true rfl, Nat.le_of_ble_eq_true rfl⟩ ⟨Nat.le_of_ble_eq_true rfl, Nat.le_of_ble_eq_true rfl⟩ rfl (Nat.le_of_ble_eq_true rfl) d_M_mean_37 (fun rq7 hq8 => ?_)
      refine r_istore (pc := 40) (lv1 := [some (.ref 383), some (.int a1), some (.int a2), some (.int a3), some (.int a4), some (.int x5), some (.int x6), some (.int rq7)]) d_M_mean_40 (Nat.le_of_ble_eq_true rfl) rfl ?_
      refine r_iload (pc := 42) d_M_mean_42 rfl ?_
      refine r_iload (pc := 44) d_M_mean_44 rfl ?_
      refine r_aload_n (pc := 46) (i := 0) d_M_mean_46 rfl rfl ?_
      refine r_iload_n (pc := 47) (i := 1) d_M_mean_47 rfl rfl ?_
      refine r_iload_n (pc := 48) (i := 2) d_M_mean_48 rfl rfl ?_
      refine r_cVi (pc := 49) (T := F_12) (N := 73) (st := [.int rq7, .int x5]) (ok_M_priceOf hn a1 a2 hq8) (fun s => Std.k s (lc hn rfl) kq_383) rfl w_1536 w_13 w_1533 w_1535 ws_85 hy_M_priceOf ⟨Nat.le_of_ble_eq_true rfl, Nat.le_of_ble_eq_true rfl⟩ ⟨Nat.le_of_ble_eq_true rfl, Nat.le_of_ble_eq_true rfl⟩ rfl (Nat.le_of_ble_eq_true rfl) d_M_mean_49 (fun rq9 hq10 => ?_)
      refine r_imul (pc := 52) d_M_mean_52 ?_
      refine r_iadd (pc := 53) d_M_mean_53 ?_
      refine r_ltI (fun xq11 => ?_)
      refine r_istore (pc := 54) (lv1 := [some (.ref 383), some (.int a1), some (.int a2), some (.int a3), some (.int a4), some (.int xq11), some (.int x6), some (.int rq7)]) d_M_mean_54 (Nat.le_of_ble_eq_true rfl) rfl ?_
      refine r_ltE (fun xq12 exq12 => ?_)
      refine r_iinc (pc := 56) (v := xq12) (lv1 := [some (.ref 383), some (.int a1), some (.int a2), some (.int a3), some (.int a4), some (.int xq11), some (.int xq12), some (.int rq7)]) d_M_mean_56 rfl exq12.symm (Nat.le_of_ble_eq_true rfl) rfl ?_
      refine r_goto (pc := 59) (tgt := 25) d_M_mean_59 (by rfl) ?_
      exact r_wk (ih xq11 xq12 hq10) ⟨rfl, ⟨rfl, ⟨rfl, ⟨rfl, ⟨rfl, ⟨rfl, ⟨rfl, trivial⟩⟩⟩⟩⟩⟩⟩
def f_M_mean  (a1 : Int32) (a2 : Int32) (a3 : Int32) (a4 : Int32) (h : AH) : Option (Int32 × AH) :=
  if (3 : Int32) < a3 then
    some ((-1 : Int32), h)
  else
    bI (f_M_canOdds a1 a2 a3 a4 h) fun rq1 hq2 =>
    if ¬ rq1 = 0 then
      f_M_mean_l25 a1 a2 a3 a4 FU (0 : Int32) (0 : Int32) hq2
    else
      some ((-1 : Int32), hq2)
set_option maxHeartbeats 2000000 in
theorem ok_M_mean {G : AE} {n : Nat} (hn : NN ≤ n)  (a1 : Int32) (a2 : Int32) (a3 : Int32) (a4 : Int32) (h : AH) : OK G n y_M_mean (7) φI [.ref 383, .int a1, .int a2, .int a3, .int a4] h (f_M_mean a1 a2 a3 a4 h) := by
  refine ok_of (y := y_M_mean) (lv0 := [some (.ref 383), some (.int a1), some (.int a2), some (.int a3), some (.int a4), none, none, none]) (by decide +kernel) (Nat.le_of_ble_eq_true rfl) ⟨rfl, ⟨rfl, ⟨rfl, ⟨rfl, ⟨rfl, trivial⟩⟩⟩⟩⟩ ?_
  rw [f_M_mean]
  refine r_iload_n (pc := 0) (i := 3) d_M_mean_0 rfl rfl ?_
  refine r_iconst (pc := 1) (v := 3) d_M_mean_1 (by rfl) ?_
  refine r_icmp_gt (pc := 2) (tgt := 17) d_M_mean_2 (by rfl) ?_ ?_
  · refine r_iconst (pc := 17) (v := -1) d_M_mean_17 (by rfl) ?_
    exact r_iret (pc := 18) rfl d_M_mean_18
  · refine r_aload_n (pc := 5) (i := 0) d_M_mean_5 rfl rfl ?_
    refine r_iload_n (pc := 6) (i := 1) d_M_mean_6 rfl rfl ?_
    refine r_iload_n (pc := 7) (i := 2) d_M_mean_7 rfl rfl ?_
    refine r_iload_n (pc := 8) (i := 3) d_M_mean_8 rfl rfl ?_
    refine r_iload (pc := 9) d_M_mean_9 rfl ?_
    refine r_cVi (pc := 11) (T := F_12) (N := 73) (st := []) (ok_M_canOdds hn a1 a2 a3 a4 h) (fun s => Std.k s (lc hn rfl) kq_383) rfl w_1685 w_13 w_1682 w_1684 ws_102 hy_M_canOdds ⟨Nat.le_of_ble_eq_true rfl, Nat.le_of_ble_eq_true rfl⟩ ⟨Nat.le_of_ble_eq_true rfl, Nat.le_of_ble_eq_true rfl⟩ rfl (Nat.le_of_ble_eq_true rfl) d_M_mean_11 (fun rq1 hq2 => ?_)
    refine r_if_ne (pc := 14) (tgt := 19) d_M_mean_14 (by rfl) ?_ ?_
    · refine r_iconst (pc := 19) (v := 0) d_M_mean_19 (by rfl) ?_
      refine r_istore (pc := 20) (lv1 := [some (.ref 383), some (.int a1), some (.int a2), some (.int a3), some (.int a4), some (.int (0 : Int32)), none, none]) d_M_mean_20 (Nat.le_of_ble_eq_true rfl) rfl ?_
      refine r_iconst (pc := 22) (v := 0) d_M_mean_22 (by rfl) ?_
      refine r_istore (pc := 23) (lv1 := [some (.ref 383), some (.int a1), some (.int a2), some (.int a3), some (.int a4), some (.int (0 : Int32)), some (.int (0 : Int32)), none]) d_M_mean_23 (Nat.le_of_ble_eq_true rfl) rfl ?_
      exact r_wk (o_M_mean_l25 hn FU (0 : Int32) (0 : Int32) hq2) ⟨rfl, ⟨rfl, ⟨rfl, ⟨rfl, ⟨rfl, ⟨rfl, ⟨rfl, trivial⟩⟩⟩⟩⟩⟩⟩
    · refine r_iconst (pc := 17) (v := -1) d_M_mean_17 (by rfl) ?_
      exact r_iret (pc := 18) rfl d_M_mean_18
