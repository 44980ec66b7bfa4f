theorem w_1 : Cond.initialized "CricketHay" ∈ lw_good := q_t 1 (by decide +kernel) rfl
theorem w_6 : Cond.initialized "CricketHay$Choir" ∈ lw_good := q_t 6 (by decide +kernel) rfl
theorem w_18 : Cond.initialized "java/lang/Math" ∈ lw_good := q_t 18 (by decide +kernel) rfl
theorem w_19 : Cond.initialized "java/lang/System" ∈ lw_good := q_t 19 (by decide +kernel) rfl
theorem w_20 : Cond.initialized "java/util/Arrays" ∈ lw_good := q_t 20 (by decide +kernel) rfl
theorem w_48 : Cond.fieldLink "CricketHay" 118 "CricketHay$Reader" "fault" "I" ∈ lw_good := q_t 48 (by decide +kernel) rfl
theorem w_50 : Cond.fieldLink "CricketHay" 121 "CricketHay$Reader" "faultPlace" "I" ∈ lw_good := q_t 50 (by decide +kernel) rfl
theorem w_91 : Cond.fieldLink "CricketHay$Formula" 18 "CricketHay$Formula" "stack" "[I" ∈ lw_good := q_t 91 (by decide +kernel) rfl
theorem w_121 : Cond.fieldLink "CricketHay$Yard" 64 "CricketHay$Market" "kind" "[I" ∈ lw_good := q_t 121 (by decide +kernel) rfl
theorem w_122 : Cond.fieldLink "CricketHay" 140 "CricketHay$Market" "kind" "[I" ∈ lw_good := q_t 122 (by decide +kernel) rfl
theorem w_125 : Cond.fieldLink "CricketHay$Choir" 38 "CricketHay$Market" "song" "[I" ∈ lw_good := q_t 125 (by decide +kernel) rfl
theorem w_127 : Cond.fieldLink "CricketHay" 143 "CricketHay$Market" "song" "[I" ∈ lw_good := q_t 127 (by decide +kernel) rfl
theorem w_140 : Cond.fieldLink "CricketHay" 134 "CricketHay$Market" "needs" "[I" ∈ lw_good := q_t 140 (by decide +kernel) rfl
theorem w_141 : Cond.fieldLink "CricketHay$Yard" 99 "CricketHay$Market" "needs" "[I" ∈ lw_good := q_t 141 (by decide +kernel) rfl
theorem w_152 : Cond.fieldLink "CricketHay$Choir" 19 "CricketHay$Market" "dealers" "I" ∈ lw_good := q_t 152 (by decide +kernel) rfl
theorem w_156 : Cond.fieldLink "CricketHay$Yard" 61 "CricketHay$Market" "dealers" "I" ∈ lw_good := q_t 156 (by decide +kernel) rfl
theorem w_159 : Cond.fieldLink "CricketHay$Yard" 70 "CricketHay$Market" "chance" "I" ∈ lw_good := q_t 159 (by decide +kernel) rfl
theorem w_163 : Cond.fieldLink "CricketHay$Yard" 83 "CricketHay$Market" "snap" "I" ∈ lw_good := q_t 163 (by decide +kernel) rfl
theorem w_166 : Cond.fieldLink "CricketHay" 185 "CricketHay$Market" "cart" "I" ∈ lw_good := q_t 166 (by decide +kernel) rfl
theorem w_212 : Cond.fieldLink "CricketHay" 128 "CricketHay$Yard" "gold" "[I" ∈ lw_good := q_t 212 (by decide +kernel) rfl
theorem w_215 : Cond.fieldLink "CricketHay" 131 "CricketHay$Yard" "loads" "[I" ∈ lw_good := q_t 215 (by decide +kernel) rfl
theorem w_217 : Cond.fieldLink "CricketHay" 137 "CricketHay$Yard" "hunger" "[I" ∈ lw_good := q_t 217 (by decide +kernel) rfl
theorem w_219 : Cond.fieldLink "CricketHay$Choir" 41 "CricketHay$Yard" "age" "[I" ∈ lw_good := q_t 219 (by decide +kernel) rfl
theorem w_220 : Cond.fieldLink "CricketHay" 146 "CricketHay$Yard" "age" "[I" ∈ lw_good := q_t 220 (by decide +kernel) rfl
theorem w_222 : Cond.fieldLink "CricketHay$Choir" 31 "CricketHay$Yard" "breath" "[I" ∈ lw_good := q_t 222 (by decide +kernel) rfl
theorem w_223 : Cond.fieldLink "CricketHay" 149 "CricketHay$Yard" "breath" "[I" ∈ lw_good := q_t 223 (by decide +kernel) rfl
theorem w_225 : Cond.fieldLink "CricketHay$Choir" 28 "CricketHay$Yard" "freed" "[I" ∈ lw_good := q_t 225 (by decide +kernel) rfl
theorem w_226 : Cond.fieldLink "CricketHay" 152 "CricketHay$Yard" "freed" "[I" ∈ lw_good := q_t 226 (by decide +kernel) rfl
theorem w_230 : Cond.fieldLink "CricketHay$Choir" 48 "CricketHay$Yard" "hour" "I" ∈ lw_good := q_t 230 (by decide +kernel) rfl
theorem w_232 : Cond.fieldLink "CricketHay" 192 "CricketHay$Yard" "hour" "I" ∈ lw_good := q_t 232 (by decide +kernel) rfl
theorem w_234 : Cond.fieldLink "CricketHay$Choir" 51 "CricketHay$Yard" "day" "I" ∈ lw_good := q_t 234 (by decide +kernel) rfl
theorem w_236 : Cond.fieldLink "CricketHay" 195 "CricketHay$Yard" "day" "I" ∈ lw_good := q_t 236 (by decide +kernel) rfl
theorem w_266 : Cond.fieldLink "CricketHay$Choir" 9 "CricketHay$Choir" "sings" "[I" ∈ lw_good := q_t 266 (by decide +kernel) rfl
theorem w_267 : Cond.fieldLink "CricketHay" 159 "CricketHay$Choir" "sings" "[I" ∈ lw_good := q_t 267 (by decide +kernel) rfl
theorem w_268 : Cond.fieldLink "CricketHay$Choir" 15 "CricketHay$Choir" "dealers" "I" ∈ lw_good := q_t 268 (by decide +kernel) rfl
theorem w_283 : Cond.fieldLink "CricketHay$Acts" 11 "CricketHay$Acts" "yards" "[LCricketHay$Yard;" ∈ lw_good := q_t 283 (by decide +kernel) rfl
theorem w_426 : Cond.fieldLink "CricketHay" 33 "CricketHay" "ahead" "LCricketHay$Yard;" ∈ lw_good := q_t 426 (by decide +kernel) rfl
theorem w_427 : Cond.fieldLink "CricketHay" 39 "CricketHay" "choir" "LCricketHay$Choir;" ∈ lw_good := q_t 427 (by decide +kernel) rfl
theorem w_661 : Cond.methodLink "CricketHay" 124 ⟨"CricketHay$Market", "has", "(I)Z"⟩ ∈ lw_good := q_t 661 (by decide +kernel) rfl
theorem w_662 : Cond.instanceMethod ⟨"CricketHay$Market", "has", "(I)Z"⟩ ∈ lw_good := q_t 662 (by decide +kernel) rfl
theorem w_663 : Cond.selects "CricketHay$Market" ⟨"CricketHay$Market", "has", "(I)Z"⟩ ⟨"CricketHay$Market", "has", "(I)Z"⟩ ∈ lw_good := q_t 663 (by decide +kernel) rfl
theorem w_664 : Cond.code ⟨"CricketHay$Market", "has", "(I)Z"⟩ prog_9_method_3_code 2 (some .boolean) ∈ lw_good := q_t 664 (by decide +kernel) rfl
theorem w_665 : Cond.methodLink "CricketHay" 155 ⟨"CricketHay$Choir", "tune", "(LCricketHay$Market;LCricketHay$Yard;)V"⟩ ∈ lw_good := q_t 665 (by decide +kernel) rfl
theorem w_666 : Cond.instanceMethod ⟨"CricketHay$Choir", "tune", "(LCricketHay$Market;LCricketHay$Yard;)V"⟩ ∈ lw_good := q_t 666 (by decide +kernel) rfl
theorem w_667 : Cond.selects "CricketHay$Choir" ⟨"CricketHay$Choir", "tune", "(LCricketHay$Market;LCricketHay$Yard;)V"⟩ ⟨"CricketHay$Choir", "tune", "(LCricketHay$Market;LCricketHay$Yard;)V"⟩ ∈ lw_good := q_t 667 (by decide +kernel) rfl
theorem w_668 : Cond.code ⟨"CricketHay$Choir", "tune", "(LCricketHay$Market;LCricketHay$Yard;)V"⟩ prog_4_method_2_code 5 none ∈ lw_good := q_t 668 (by decide +kernel) rfl
theorem w_669 : Cond.methodLink "CricketHay$Choir" 22 ⟨"CricketHay$Yard", "warmth", "(LCricketHay$Market;)I"⟩ ∈ lw_good := q_t 669 (by decide +kernel) rfl
theorem w_670 : Cond.instanceMethod ⟨"CricketHay$Yard", "warmth", "(LCricketHay$Market;)I"⟩ ∈ lw_good := q_t 670 (by decide +kernel) rfl
theorem w_671 : Cond.selects "CricketHay$Yard" ⟨"CricketHay$Yard", "warmth", "(LCricketHay$Market;)I"⟩ ⟨"CricketHay$Yard", "warmth", "(LCricketHay$Market;)I"⟩ ∈ lw_good := q_t 671 (by decide +kernel) rfl
theorem w_672 : Cond.code ⟨"CricketHay$Yard", "warmth", "(LCricketHay$Market;)I"⟩ prog_12_method_4_code 2 (some .int) ∈ lw_good := q_t 672 (by decide +kernel) rfl
theorem w_673 : Cond.methodLink "CricketHay$Yard" 57 ⟨"CricketHay$Market", "warmth", "(III)I"⟩ ∈ lw_good := q_t 673 (by decide +kernel) rfl
theorem w_674 : Cond.instanceMethod ⟨"CricketHay$Market", "warmth", "(III)I"⟩ ∈ lw_good := q_t 674 (by decide +kernel) rfl
theorem w_675 : Cond.selects "CricketHay$Market" ⟨"CricketHay$Market", "warmth", "(III)I"⟩ ⟨"CricketHay$Market", "warmth", "(III)I"⟩ ∈ lw_good := q_t 675 (by decide +kernel) rfl
theorem w_676 : Cond.code ⟨"CricketHay$Market", "warmth", "(III)I"⟩ prog_9_method_4_code 5 (some .int) ∈ lw_good := q_t 676 (by decide +kernel) rfl
theorem w_677 : Cond.methodLink "CricketHay$Market" 72 ⟨"CricketHay$Formula", "isTold", "()Z"⟩ ∈ lw_good := q_t 677 (by decide +kernel) rfl
theorem w_678 : Cond.instanceMethod ⟨"CricketHay$Formula", "isTold", "()Z"⟩ ∈ lw_good := q_t 678 (by decide +kernel) rfl
theorem w_679 : Cond.selects "CricketHay$Formula" ⟨"CricketHay$Formula", "isTold", "()Z"⟩ ⟨"CricketHay$Formula", "isTold", "()Z"⟩ ∈ lw_good := q_t 679 (by decide +kernel) rfl
theorem w_680 : Cond.code ⟨"CricketHay$Formula", "isTold", "()Z"⟩ prog_7_method_3_code 1 (some .boolean) ∈ lw_good := q_t 680 (by decide +kernel) rfl
theorem w_681 : Cond.methodLink "CricketHay$Market" 76 ⟨"CricketHay$Formula", "value", "(IIIIII)I"⟩ ∈ lw_good := q_t 681 (by decide +kernel) rfl
theorem w_682 : Cond.instanceMethod ⟨"CricketHay$Formula", "value", "(IIIIII)I"⟩ ∈ lw_good := q_t 682 (by decide +kernel) rfl
theorem w_683 : Cond.selects "CricketHay$Formula" ⟨"CricketHay$Formula", "value", "(IIIIII)I"⟩ ⟨"CricketHay$Formula", "value", "(IIIIII)I"⟩ ∈ lw_good := q_t 683 (by decide +kernel) rfl
theorem w_684 : Cond.code ⟨"CricketHay$Formula", "value", "(IIIIII)I"⟩ prog_7_method_5_code 10 (some .int) ∈ lw_good := q_t 684 (by decide +kernel) rfl
theorem w_685 : Cond.methodLink "CricketHay$Formula" 28 ⟨"CricketHay$Formula", "takesTwo", "(I)Z"⟩ ∈ lw_good := q_t 685 (by decide +kernel) rfl
theorem w_686 : Cond.static ⟨"CricketHay$Formula", "takesTwo", "(I)Z"⟩ ∈ lw_good := q_t 686 (by decide +kernel) rfl
theorem w_687 : Cond.code ⟨"CricketHay$Formula", "takesTwo", "(I)Z"⟩ prog_7_method_6_code 1 (some .boolean) ∈ lw_good := q_t 687 (by decide +kernel) rfl
theorem w_688 : Cond.methodLink "CricketHay$Formula" 32 ⟨"CricketHay$Formula", "join", "(III)I"⟩ ∈ lw_good := q_t 688 (by decide +kernel) rfl
theorem w_689 : Cond.static ⟨"CricketHay$Formula", "join", "(III)I"⟩ ∈ lw_good := q_t 689 (by decide +kernel) rfl
theorem w_690 : Cond.code ⟨"CricketHay$Formula", "join", "(III)I"⟩ prog_7_method_7_code 3 (some .int) ∈ lw_good := q_t 690 (by decide +kernel) rfl
theorem w_691 : Cond.methodLink "CricketHay$Market" 80 ⟨"CricketHay$Market", "clampHeat", "(I)I"⟩ ∈ lw_good := q_t 691 (by decide +kernel) rfl
theorem w_692 : Cond.static ⟨"CricketHay$Market", "clampHeat", "(I)I"⟩ ∈ lw_good := q_t 692 (by decide +kernel) rfl
theorem w_693 : Cond.code ⟨"CricketHay$Market", "clampHeat", "(I)I"⟩ prog_9_method_5_code 1 (some .int) ∈ lw_good := q_t 693 (by decide +kernel) rfl
theorem w_694 : Cond.methodLink "CricketHay$Market" 84 ⟨"java/lang/Math", "min", "(II)I"⟩ ∈ lw_good := q_t 694 (by decide +kernel) rfl
theorem w_695 : Cond.static ⟨"java/lang/Math", "min", "(II)I"⟩ ∈ lw_good := q_t 695 (by decide +kernel) rfl
theorem w_696 : Cond.code ⟨"java/lang/Math", "min", "(II)I"⟩ prog_16_method_69_code 2 (some .int) ∈ lw_good := q_t 696 (by decide +kernel) rfl
theorem w_697 : Cond.methodLink "CricketHay$Market" 90 ⟨"java/lang/Math", "max", "(II)I"⟩ ∈ lw_good := q_t 697 (by decide +kernel) rfl
theorem w_698 : Cond.static ⟨"java/lang/Math", "max", "(II)I"⟩ ∈ lw_good := q_t 698 (by decide +kernel) rfl
theorem w_699 : Cond.code ⟨"java/lang/Math", "max", "(II)I"⟩ prog_16_method_65_code 2 (some .int) ∈ lw_good := q_t 699 (by decide +kernel) rfl
theorem w_700 : Cond.methodLink "CricketHay$Choir" 34 ⟨"CricketHay$Market", "clampHeat", "(I)I"⟩ ∈ lw_good := q_t 700 (by decide +kernel) rfl
theorem w_701 : Cond.methodLink "CricketHay$Choir" 44 ⟨"CricketHay$Yard", "mates", "(LCricketHay$Market;I)I"⟩ ∈ lw_good := q_t 701 (by decide +kernel) rfl
theorem w_702 : Cond.instanceMethod ⟨"CricketHay$Yard", "mates", "(LCricketHay$Market;I)I"⟩ ∈ lw_good := q_t 702 (by decide +kernel) rfl
theorem w_703 : Cond.selects "CricketHay$Yard" ⟨"CricketHay$Yard", "mates", "(LCricketHay$Market;I)I"⟩ ⟨"CricketHay$Yard", "mates", "(LCricketHay$Market;I)I"⟩ ∈ lw_good := q_t 703 (by decide +kernel) rfl
theorem w_704 : Cond.code ⟨"CricketHay$Yard", "mates", "(LCricketHay$Market;I)I"⟩ prog_12_method_5_code 5 (some .int) ∈ lw_good := q_t 704 (by decide +kernel) rfl
theorem w_705 : Cond.methodLink "CricketHay$Choir" 54 ⟨"CricketHay$Market", "sung", "(IIIIII)I"⟩ ∈ lw_good := q_t 705 (by decide +kernel) rfl
theorem w_706 : Cond.instanceMethod ⟨"CricketHay$Market", "sung", "(IIIIII)I"⟩ ∈ lw_good := q_t 706 (by decide +kernel) rfl
theorem w_707 : Cond.selects "CricketHay$Market" ⟨"CricketHay$Market", "sung", "(IIIIII)I"⟩ ⟨"CricketHay$Market", "sung", "(IIIIII)I"⟩ ∈ lw_good := q_t 707 (by decide +kernel) rfl
theorem w_708 : Cond.code ⟨"CricketHay$Market", "sung", "(IIIIII)I"⟩ prog_9_method_6_code 8 (some .int) ∈ lw_good := q_t 708 (by decide +kernel) rfl
theorem w_709 : Cond.methodLink "CricketHay" 162 ⟨"CricketHay$Yard", "mates", "(LCricketHay$Market;I)I"⟩ ∈ lw_good := q_t 709 (by decide +kernel) rfl
theorem w_714 : Cond.methodLink "CricketHay" 166 ⟨"CricketHay$Yard", "warmth", "(LCricketHay$Market;)I"⟩ ∈ lw_good := q_t 714 (by decide +kernel) rfl
theorem w_719 : Cond.methodLink "CricketHay" 170 ⟨"CricketHay", "areTwo", "(II)Z"⟩ ∈ lw_good := q_t 719 (by decide +kernel) rfl
theorem w_721 : Cond.instanceMethod ⟨"CricketHay", "areTwo", "(II)Z"⟩ ∈ lw_good := q_t 721 (by decide +kernel) rfl
theorem w_722 : Cond.code ⟨"CricketHay", "areTwo", "(II)Z"⟩ prog_1_method_44_code 3 (some .boolean) ∈ lw_good := q_t 722 (by decide +kernel) rfl
theorem w_723 : Cond.methodLink "CricketHay" 174 ⟨"CricketHay$Choir", "half", "(II)I"⟩ ∈ lw_good := q_t 723 (by decide +kernel) rfl
theorem w_724 : Cond.instanceMethod ⟨"CricketHay$Choir", "half", "(II)I"⟩ ∈ lw_good := q_t 724 (by decide +kernel) rfl
theorem w_725 : Cond.selects "CricketHay$Choir" ⟨"CricketHay$Choir", "half", "(II)I"⟩ ⟨"CricketHay$Choir", "half", "(II)I"⟩ ∈ lw_good := q_t 725 (by decide +kernel) rfl
theorem w_726 : Cond.code ⟨"CricketHay$Choir", "half", "(II)I"⟩ prog_4_method_3_code 3 (some .int) ∈ lw_good := q_t 726 (by decide +kernel) rfl
theorem w_731 : Cond.methodLink "CricketHay" 178 ⟨"CricketHay", "canBuyOne", "(II)Z"⟩ ∈ lw_good := q_t 731 (by decide +kernel) rfl
theorem w_733 : Cond.instanceMethod ⟨"CricketHay", "canBuyOne", "(II)Z"⟩ ∈ lw_good := q_t 733 (by decide +kernel) rfl
theorem w_734 : Cond.code ⟨"CricketHay", "canBuyOne", "(II)Z"⟩ prog_1_method_45_code 3 (some .boolean) ∈ lw_good := q_t 734 (by decide +kernel) rfl
theorem w_739 : Cond.methodLink "CricketHay" 181 ⟨"CricketHay$Choir", "together", "()I"⟩ ∈ lw_good := q_t 739 (by decide +kernel) rfl
theorem w_740 : Cond.instanceMethod ⟨"CricketHay$Choir", "together", "()I"⟩ ∈ lw_good := q_t 740 (by decide +kernel) rfl
theorem w_741 : Cond.selects "CricketHay$Choir" ⟨"CricketHay$Choir", "together", "()I"⟩ ⟨"CricketHay$Choir", "together", "()I"⟩ ∈ lw_good := q_t 741 (by decide +kernel) rfl
theorem w_742 : Cond.code ⟨"CricketHay$Choir", "together", "()I"⟩ prog_4_method_4_code 3 (some .int) ∈ lw_good := q_t 742 (by decide +kernel) rfl
theorem w_751 : Cond.methodLink "CricketHay" 188 ⟨"CricketHay$Acts", "keep", "(LCricketHay$Yard;)V"⟩ ∈ lw_good := q_t 751 (by decide +kernel) rfl
theorem w_752 : Cond.instanceMethod ⟨"CricketHay$Acts", "keep", "(LCricketHay$Yard;)V"⟩ ∈ lw_good := q_t 752 (by decide +kernel) rfl
theorem w_753 : Cond.selects "CricketHay$Acts" ⟨"CricketHay$Acts", "keep", "(LCricketHay$Yard;)V"⟩ ⟨"CricketHay$Acts", "keep", "(LCricketHay$Yard;)V"⟩ ∈ lw_good := q_t 753 (by decide +kernel) rfl
theorem w_754 : Cond.code ⟨"CricketHay$Acts", "keep", "(LCricketHay$Yard;)V"⟩ prog_2_method_3_code 2 none ∈ lw_good := q_t 754 (by decide +kernel) rfl
theorem w_755 : Cond.methodLink "CricketHay$Acts" 25 ⟨"CricketHay$Acts", "dropOldest", "()V"⟩ ∈ lw_good := q_t 755 (by decide +kernel) rfl
theorem w_757 : Cond.instanceMethod ⟨"CricketHay$Acts", "dropOldest", "()V"⟩ ∈ lw_good := q_t 757 (by decide +kernel) rfl
theorem w_758 : Cond.code ⟨"CricketHay$Acts", "dropOldest", "()V"⟩ prog_2_method_4_code 3 none ∈ lw_good := q_t 758 (by decide +kernel) rfl
theorem w_759 : Cond.methodLink "CricketHay$Acts" 28 ⟨"CricketHay$Yard", "copy", "(LCricketHay$Yard;)V"⟩ ∈ lw_good := q_t 759 (by decide +kernel) rfl
theorem w_760 : Cond.instanceMethod ⟨"CricketHay$Yard", "copy", "(LCricketHay$Yard;)V"⟩ ∈ lw_good := q_t 760 (by decide +kernel) rfl
theorem w_761 : Cond.selects "CricketHay$Yard" ⟨"CricketHay$Yard", "copy", "(LCricketHay$Yard;)V"⟩ ⟨"CricketHay$Yard", "copy", "(LCricketHay$Yard;)V"⟩ ∈ lw_good := q_t 761 (by decide +kernel) rfl
theorem w_762 : Cond.code ⟨"CricketHay$Yard", "copy", "(LCricketHay$Yard;)V"⟩ prog_12_method_3_code 2 none ∈ lw_good := q_t 762 (by decide +kernel) rfl
theorem w_763 : Cond.methodLink "CricketHay$Yard" 51 ⟨"java/lang/System", "arraycopy", "(Ljava/lang/Object;ILjava/lang/Object;II)V"⟩ ∈ lw_good := q_t 763 (by decide +kernel) rfl
theorem w_764 : Cond.static ⟨"java/lang/System", "arraycopy", "(Ljava/lang/Object;ILjava/lang/Object;II)V"⟩ ∈ lw_good := q_t 764 (by decide +kernel) rfl
theorem w_765 : Cond.native ⟨"java/lang/System", "arraycopy", "(Ljava/lang/Object;ILjava/lang/Object;II)V"⟩ ∈ lw_good := q_t 765 (by decide +kernel) rfl
theorem w_778 : Cond.methodLink "CricketHay" 198 ⟨"CricketHay$Yard", "pass", "(LCricketHay$Market;)V"⟩ ∈ lw_good := q_t 778 (by decide +kernel) rfl
theorem w_779 : Cond.instanceMethod ⟨"CricketHay$Yard", "pass", "(LCricketHay$Market;)V"⟩ ∈ lw_good := q_t 779 (by decide +kernel) rfl
theorem w_780 : Cond.selects "CricketHay$Yard" ⟨"CricketHay$Yard", "pass", "(LCricketHay$Market;)V"⟩ ⟨"CricketHay$Yard", "pass", "(LCricketHay$Market;)V"⟩ ∈ lw_good := q_t 780 (by decide +kernel) rfl
theorem w_781 : Cond.code ⟨"CricketHay$Yard", "pass", "(LCricketHay$Market;)V"⟩ prog_12_method_7_code 2 none ∈ lw_good := q_t 781 (by decide +kernel) rfl
theorem w_782 : Cond.methodLink "CricketHay$Yard" 73 ⟨"CricketHay$Yard", "pass", "(LCricketHay$Market;Z)V"⟩ ∈ lw_good := q_t 782 (by decide +kernel) rfl
theorem w_783 : Cond.instanceMethod ⟨"CricketHay$Yard", "pass", "(LCricketHay$Market;Z)V"⟩ ∈ lw_good := q_t 783 (by decide +kernel) rfl
theorem w_784 : Cond.selects "CricketHay$Yard" ⟨"CricketHay$Yard", "pass", "(LCricketHay$Market;Z)V"⟩ ⟨"CricketHay$Yard", "pass", "(LCricketHay$Market;Z)V"⟩ ∈ lw_good := q_t 784 (by decide +kernel) rfl
theorem w_785 : Cond.code ⟨"CricketHay$Yard", "pass", "(LCricketHay$Market;Z)V"⟩ prog_12_method_8_code 3 none ∈ lw_good := q_t 785 (by decide +kernel) rfl
theorem w_786 : Cond.methodLink "CricketHay$Yard" 77 ⟨"java/lang/Math", "max", "(II)I"⟩ ∈ lw_good := q_t 786 (by decide +kernel) rfl
theorem w_787 : Cond.methodLink "CricketHay$Yard" 86 ⟨"java/lang/Math", "min", "(II)I"⟩ ∈ lw_good := q_t 787 (by decide +kernel) rfl
theorem w_788 : Cond.methodLink "CricketHay$Yard" 89 ⟨"java/util/Arrays", "fill", "([II)V"⟩ ∈ lw_good := q_t 788 (by decide +kernel) rfl
theorem w_789 : Cond.static ⟨"java/util/Arrays", "fill", "([II)V"⟩ ∈ lw_good := q_t 789 (by decide +kernel) rfl
theorem w_790 : Cond.code ⟨"java/util/Arrays", "fill", "([II)V"⟩ prog_21_method_103_code 4 none ∈ lw_good := q_t 790 (by decide +kernel) rfl
theorem w_791 : Cond.methodLink "CricketHay$Yard" 95 ⟨"CricketHay$Yard", "eat", "(LCricketHay$Market;)V"⟩ ∈ lw_good := q_t 791 (by decide +kernel) rfl
theorem w_793 : Cond.instanceMethod ⟨"CricketHay$Yard", "eat", "(LCricketHay$Market;)V"⟩ ∈ lw_good := q_t 793 (by decide +kernel) rfl
theorem w_794 : Cond.code ⟨"CricketHay$Yard", "eat", "(LCricketHay$Market;)V"⟩ prog_12_method_9_code 4 none ∈ lw_good := q_t 794 (by decide +kernel) rfl
theorem w_799 : Cond.methodLink "CricketHay" 201 ⟨"CricketHay$Acts", "takeBack", "(LCricketHay$Yard;)Z"⟩ ∈ lw_good := q_t 799 (by decide +kernel) rfl
theorem w_800 : Cond.instanceMethod ⟨"CricketHay$Acts", "takeBack", "(LCricketHay$Yard;)Z"⟩ ∈ lw_good := q_t 800 (by decide +kernel) rfl
theorem w_801 : Cond.selects "CricketHay$Acts" ⟨"CricketHay$Acts", "takeBack", "(LCricketHay$Yard;)Z"⟩ ⟨"CricketHay$Acts", "takeBack", "(LCricketHay$Yard;)Z"⟩ ∈ lw_good := q_t 801 (by decide +kernel) rfl
theorem w_802 : Cond.code ⟨"CricketHay$Acts", "takeBack", "(LCricketHay$Yard;)Z"⟩ prog_2_method_5_code 2 (some .boolean) ∈ lw_good := q_t 802 (by decide +kernel) rfl
theorem w_807 : Cond.methodLink "CricketHay" 205 ⟨"CricketHay$Acts", "doAgain", "(LCricketHay$Yard;)Z"⟩ ∈ lw_good := q_t 807 (by decide +kernel) rfl
theorem w_808 : Cond.instanceMethod ⟨"CricketHay$Acts", "doAgain", "(LCricketHay$Yard;)Z"⟩ ∈ lw_good := q_t 808 (by decide +kernel) rfl
theorem w_809 : Cond.selects "CricketHay$Acts" ⟨"CricketHay$Acts", "doAgain", "(LCricketHay$Yard;)Z"⟩ ⟨"CricketHay$Acts", "doAgain", "(LCricketHay$Yard;)Z"⟩ ∈ lw_good := q_t 809 (by decide +kernel) rfl
theorem w_810 : Cond.code ⟨"CricketHay$Acts", "doAgain", "(LCricketHay$Yard;)Z"⟩ prog_2_method_6_code 2 (some .boolean) ∈ lw_good := q_t 810 (by decide +kernel) rfl
theorem w_822 : Cond.methodLink "CricketHay" 258 ⟨"CricketHay$Yard", "copy", "(LCricketHay$Yard;)V"⟩ ∈ lw_good := q_t 822 (by decide +kernel) rfl
theorem ws_23 : Cond.selects "CricketHay" ⟨"CricketHay", "areTwo", "(II)Z"⟩ ⟨"CricketHay", "areTwo", "(II)Z"⟩ ∈ lw_good := q_s 23 (by decide +kernel) rfl
theorem ws_24 : Cond.selects "CricketHay" ⟨"CricketHay", "canBuyOne", "(II)Z"⟩ ⟨"CricketHay", "canBuyOne", "(II)Z"⟩ ∈ lw_good := q_s 24 (by decide +kernel) rfl
theorem ws_25 : Cond.selects "CricketHay$Acts" ⟨"CricketHay$Acts", "dropOldest", "()V"⟩ ⟨"CricketHay$Acts", "dropOldest", "()V"⟩ ∈ lw_good := q_s 25 (by decide +kernel) rfl
theorem ws_26 : Cond.selects "CricketHay$Yard" ⟨"CricketHay$Yard", "eat", "(LCricketHay$Market;)V"⟩ ⟨"CricketHay$Yard", "eat", "(LCricketHay$Market;)V"⟩ ∈ lw_good := q_s 26 (by decide +kernel) rfl
abbrev y_H_fault : MI := (⟨"CricketHay", "fault", "(I)I"⟩, prog_1_method_5_code, 2, (some .int))
theorem hy_H_fault : y_H_fault.1.cls ≠ "java/lang/invoke/MethodHandle" ∧ y_H_fault.1.cls ≠ "java/lang/invoke/VarHandle" ∧ (parseMethodDescriptor y_H_fault.1.desc).map (fun d => d.parameters.length) = some 1 := by decide +kernel
theorem d_H_fault_0 : decode y_H_fault.2.1 0 = .ok (.iload_n 1, 1) := by decide +kernel
theorem d_H_fault_1 : decode y_H_fault.2.1 1 = .ok (.ifCond .ne 11, 3) := by decide +kernel
theorem d_H_fault_4 : decode y_H_fault.2.1 4 = .ok (.aload_n 0, 1) := by decide +kernel
theorem d_H_fault_5 : decode y_H_fault.2.1 5 = .ok (.getfield 12, 3) := by decide +kernel
theorem d_H_fault_8 : decode y_H_fault.2.1 8 = .ok (.getfield 118, 3) := by decide +kernel
theorem d_H_fault_11 : decode y_H_fault.2.1 11 = .ok (.ireturn, 1) := by decide +kernel
theorem d_H_fault_12 : decode y_H_fault.2.1 12 = .ok (.iload_n 1, 1) := by decide +kernel
theorem d_H_fault_13 : decode y_H_fault.2.1 13 = .ok (.iconst 1, 1) := by decide +kernel
theorem d_H_fault_14 : decode y_H_fault.2.1 14 = .ok (.if_icmp .ne 13, 3) := by decide +kernel
theorem d_H_fault_17 : decode y_H_fault.2.1 17 = .ok (.aload_n 0, 1) := by decide +kernel
theorem d_H_fault_18 : decode y_H_fault.2.1 18 = .ok (.getfield 12, 3) := by decide +kernel
theorem d_H_fault_21 : decode y_H_fault.2.1 21 = .ok (.getfield 121, 3) := by decide +kernel
theorem d_H_fault_24 : decode y_H_fault.2.1 24 = .ok (.goto 4, 3) := by decide +kernel
theorem d_H_fault_27 : decode y_H_fault.2.1 27 = .ok (.iconst (-1), 1) := by decide +kernel
theorem d_H_fault_28 : decode y_H_fault.2.1 28 = .ok (.ireturn, 1) := by decide +kernel

abbrev y_Market_has : MI := (⟨"CricketHay$Market", "has", "(I)Z"⟩, prog_9_method_3_code, 2, (some .boolean))
theorem hy_Market_has : y_Market_has.1.cls ≠ "java/lang/invoke/MethodHandle" ∧ y_Market_has.1.cls ≠ "java/lang/invoke/VarHandle" ∧ (parseMethodDescriptor y_Market_has.1.desc).map (fun d => d.parameters.length) = some 1 := by decide +kernel
theorem d_Market_has_0 : decode y_Market_has.2.1 0 = .ok (.iload_n 1, 1) := by decide +kernel
theorem d_Market_has_1 : decode y_Market_has.2.1 1 = .ok (.ifCond .lt 15, 3) := by decide +kernel
theorem d_Market_has_4 : decode y_Market_has.2.1 4 = .ok (.iload_n 1, 1) := by decide +kernel
theorem d_Market_has_5 : decode y_Market_has.2.1 5 = .ok (.aload_n 0, 1) := by decide +kernel
theorem d_Market_has_6 : decode y_Market_has.2.1 6 = .ok (.getfield 54, 3) := by decide +kernel
theorem d_Market_has_9 : decode y_Market_has.2.1 9 = .ok (.if_icmp .ge 7, 3) := by decide +kernel
theorem d_Market_has_12 : decode y_Market_has.2.1 12 = .ok (.iconst 1, 1) := by decide +kernel
theorem d_Market_has_13 : decode y_Market_has.2.1 13 = .ok (.goto 4, 3) := by decide +kernel
theorem d_Market_has_16 : decode y_Market_has.2.1 16 = .ok (.iconst 0, 1) := by decide +kernel
theorem d_Market_has_17 : decode y_Market_has.2.1 17 = .ok (.ireturn, 1) := by decide +kernel

abbrev y_Formula_isTold : MI := (⟨"CricketHay$Formula", "isTold", "()Z"⟩, prog_7_method_3_code, 1, (some .boolean))
theorem hy_Formula_isTold : y_Formula_isTold.1.cls ≠ "java/lang/invoke/MethodHandle" ∧ y_Formula_isTold.1.cls ≠ "java/lang/invoke/VarHandle" ∧ (parseMethodDescriptor y_Formula_isTold.1.desc).map (fun d => d.parameters.length) = some 0 := by decide +kernel
theorem d_Formula_isTold_0 : decode y_Formula_isTold.2.1 0 = .ok (.aload_n 0, 1) := by decide +kernel
theorem d_Formula_isTold_1 : decode y_Formula_isTold.2.1 1 = .ok (.getfield 21, 3) := by decide +kernel
theorem d_Formula_isTold_4 : decode y_Formula_isTold.2.1 4 = .ok (.ifCond .le 7, 3) := by decide +kernel
theorem d_Formula_isTold_7 : decode y_Formula_isTold.2.1 7 = .ok (.iconst 1, 1) := by decide +kernel
theorem d_Formula_isTold_8 : decode y_Formula_isTold.2.1 8 = .ok (.goto 4, 3) := by decide +kernel
theorem d_Formula_isTold_11 : decode y_Formula_isTold.2.1 11 = .ok (.iconst 0, 1) := by decide +kernel
theorem d_Formula_isTold_12 : decode y_Formula_isTold.2.1 12 = .ok (.ireturn, 1) := by decide +kernel

abbrev y_Formula_takesTwo : MI := (⟨"CricketHay$Formula", "takesTwo", "(I)Z"⟩, prog_7_method_6_code, 1, (some .boolean))
theorem hy_Formula_takesTwo : y_Formula_takesTwo.1.cls ≠ "java/lang/invoke/MethodHandle" ∧ y_Formula_takesTwo.1.cls ≠ "java/lang/invoke/VarHandle" ∧ (parseMethodDescriptor y_Formula_takesTwo.1.desc).map (fun d => d.parameters.length) = some 1 := by decide +kernel
theorem d_Formula_takesTwo_0 : decode y_Formula_takesTwo.2.1 0 = .ok (.iload_n 0, 1) := by decide +kernel
theorem d_Formula_takesTwo_1 : decode y_Formula_takesTwo.2.1 1 = .ok (.iconst 3, 1) := by decide +kernel
theorem d_Formula_takesTwo_2 : decode y_Formula_takesTwo.2.1 2 = .ok (.if_icmp .le 10, 3) := by decide +kernel
theorem d_Formula_takesTwo_5 : decode y_Formula_takesTwo.2.1 5 = .ok (.iload_n 0, 1) := by decide +kernel
theorem d_Formula_takesTwo_6 : decode y_Formula_takesTwo.2.1 6 = .ok (.sipush 256, 3) := by decide +kernel
theorem d_Formula_takesTwo_9 : decode y_Formula_takesTwo.2.1 9 = .ok (.if_icmp .lt 17, 3) := by decide +kernel
theorem d_Formula_takesTwo_12 : decode y_Formula_takesTwo.2.1 12 = .ok (.iload_n 0, 1) := by decide +kernel
theorem d_Formula_takesTwo_13 : decode y_Formula_takesTwo.2.1 13 = .ok (.sipush 269, 3) := by decide +kernel
theorem d_Formula_takesTwo_16 : decode y_Formula_takesTwo.2.1 16 = .ok (.if_icmp .eq 10, 3) := by decide +kernel
theorem d_Formula_takesTwo_19 : decode y_Formula_takesTwo.2.1 19 = .ok (.iload_n 0, 1) := by decide +kernel
theorem d_Formula_takesTwo_20 : decode y_Formula_takesTwo.2.1 20 = .ok (.sipush 270, 3) := by decide +kernel
theorem d_Formula_takesTwo_23 : decode y_Formula_takesTwo.2.1 23 = .ok (.if_icmp .ne 7, 3) := by decide +kernel
theorem d_Formula_takesTwo_26 : decode y_Formula_takesTwo.2.1 26 = .ok (.iconst 1, 1) := by decide +kernel
theorem d_Formula_takesTwo_27 : decode y_Formula_takesTwo.2.1 27 = .ok (.goto 4, 3) := by decide +kernel
theorem d_Formula_takesTwo_30 : decode y_Formula_takesTwo.2.1 30 = .ok (.iconst 0, 1) := by decide +kernel
theorem d_Formula_takesTwo_31 : decode y_Formula_takesTwo.2.1 31 = .ok (.ireturn, 1) := by decide +kernel

abbrev y_Formula_join : MI := (⟨"CricketHay$Formula", "join", "(III)I"⟩, prog_7_method_7_code, 3, (some .int))
theorem hy_Formula_join : y_Formula_join.1.cls ≠ "java/lang/invoke/MethodHandle" ∧ y_Formula_join.1.cls ≠ "java/lang/invoke/VarHandle" ∧ (parseMethodDescriptor y_Formula_join.1.desc).map (fun d => d.parameters.length) = some 3 := by decide +kernel
theorem d_Formula_join_0 : decode y_Formula_join.2.1 0 = .ok (.iload_n 0, 1) := by decide +kernel
theorem d_Formula_join_1 : decode y_Formula_join.2.1 1 = .ok (.lookupswitch 166 #[(37, 107), (42, 91), (43, 83), (45, 87), (47, 95), (60, 119), (61, 141), (62, 130), (270, 152)], 83) := by decide +kernel
theorem d_Formula_join_84 : decode y_Formula_join.2.1 84 = .ok (.iload_n 1, 1) := by decide +kernel
theorem d_Formula_join_85 : decode y_Formula_join.2.1 85 = .ok (.iload_n 2, 1) := by decide +kernel
theorem d_Formula_join_86 : decode y_Formula_join.2.1 86 = .ok (.iadd, 1) := by decide +kernel
theorem d_Formula_join_87 : decode y_Formula_join.2.1 87 = .ok (.ireturn, 1) := by decide +kernel
theorem d_Formula_join_88 : decode y_Formula_join.2.1 88 = .ok (.iload_n 1, 1) := by decide +kernel
theorem d_Formula_join_89 : decode y_Formula_join.2.1 89 = .ok (.iload_n 2, 1) := by decide +kernel
theorem d_Formula_join_90 : decode y_Formula_join.2.1 90 = .ok (.isub, 1) := by decide +kernel
theorem d_Formula_join_91 : decode y_Formula_join.2.1 91 = .ok (.ireturn, 1) := by decide +kernel
theorem d_Formula_join_92 : decode y_Formula_join.2.1 92 = .ok (.iload_n 1, 1) := by decide +kernel
theorem d_Formula_join_93 : decode y_Formula_join.2.1 93 = .ok (.iload_n 2, 1) := by decide +kernel
theorem d_Formula_join_94 : decode y_Formula_join.2.1 94 = .ok (.imul, 1) := by decide +kernel
theorem d_Formula_join_95 : decode y_Formula_join.2.1 95 = .ok (.ireturn, 1) := by decide +kernel
theorem d_Formula_join_96 : decode y_Formula_join.2.1 96 = .ok (.iload_n 2, 1) := by decide +kernel
theorem d_Formula_join_97 : decode y_Formula_join.2.1 97 = .ok (.ifCond .ne 7, 3) := by decide +kernel
theorem d_Formula_join_100 : decode y_Formula_join.2.1 100 = .ok (.iconst 0, 1) := by decide +kernel
theorem d_Formula_join_101 : decode y_Formula_join.2.1 101 = .ok (.goto 6, 3) := by decide +kernel
theorem d_Formula_join_104 : decode y_Formula_join.2.1 104 = .ok (.iload_n 1, 1) := by decide +kernel
theorem d_Formula_join_105 : decode y_Formula_join.2.1 105 = .ok (.iload_n 2, 1) := by decide +kernel
theorem d_Formula_join_106 : decode y_Formula_join.2.1 106 = .ok (.idiv, 1) := by decide +kernel
theorem d_Formula_join_107 : decode y_Formula_join.2.1 107 = .ok (.ireturn, 1) := by decide +kernel
theorem d_Formula_join_108 : decode y_Formula_join.2.1 108 = .ok (.iload_n 2, 1) := by decide +kernel
theorem d_Formula_join_109 : decode y_Formula_join.2.1 109 = .ok (.ifCond .ne 7, 3) := by decide +kernel
theorem d_Formula_join_112 : decode y_Formula_join.2.1 112 = .ok (.iconst 0, 1) := by decide +kernel
theorem d_Formula_join_113 : decode y_Formula_join.2.1 113 = .ok (.goto 6, 3) := by decide +kernel
theorem d_Formula_join_116 : decode y_Formula_join.2.1 116 = .ok (.iload_n 1, 1) := by decide +kernel
theorem d_Formula_join_117 : decode y_Formula_join.2.1 117 = .ok (.iload_n 2, 1) := by decide +kernel
theorem d_Formula_join_118 : decode y_Formula_join.2.1 118 = .ok (.irem, 1) := by decide +kernel
theorem d_Formula_join_119 : decode y_Formula_join.2.1 119 = .ok (.ireturn, 1) := by decide +kernel
theorem d_Formula_join_120 : decode y_Formula_join.2.1 120 = .ok (.iload_n 1, 1) := by decide +kernel
theorem d_Formula_join_121 : decode y_Formula_join.2.1 121 = .ok (.iload_n 2, 1) := by decide +kernel
theorem d_Formula_join_122 : decode y_Formula_join.2.1 122 = .ok (.if_icmp .ge 7, 3) := by decide +kernel
theorem d_Formula_join_125 : decode y_Formula_join.2.1 125 = .ok (.iconst 1, 1) := by decide +kernel
theorem d_Formula_join_126 : decode y_Formula_join.2.1 126 = .ok (.goto 4, 3) := by decide +kernel
theorem d_Formula_join_129 : decode y_Formula_join.2.1 129 = .ok (.iconst 0, 1) := by decide +kernel
theorem d_Formula_join_130 : decode y_Formula_join.2.1 130 = .ok (.ireturn, 1) := by decide +kernel
theorem d_Formula_join_131 : decode y_Formula_join.2.1 131 = .ok (.iload_n 1, 1) := by decide +kernel
theorem d_Formula_join_132 : decode y_Formula_join.2.1 132 = .ok (.iload_n 2, 1) := by decide +kernel
theorem d_Formula_join_133 : decode y_Formula_join.2.1 133 = .ok (.if_icmp .le 7, 3) := by decide +kernel
theorem d_Formula_join_136 : decode y_Formula_join.2.1 136 = .ok (.iconst 1, 1) := by decide +kernel
theorem d_Formula_join_137 : decode y_Formula_join.2.1 137 = .ok (.goto 4, 3) := by decide +kernel
theorem d_Formula_join_140 : decode y_Formula_join.2.1 140 = .ok (.iconst 0, 1) := by decide +kernel
theorem d_Formula_join_141 : decode y_Formula_join.2.1 141 = .ok (.ireturn, 1) := by decide +kernel
theorem d_Formula_join_142 : decode y_Formula_join.2.1 142 = .ok (.iload_n 1, 1) := by decide +kernel
theorem d_Formula_join_143 : decode y_Formula_join.2.1 143 = .ok (.iload_n 2, 1) := by decide +kernel
theorem d_Formula_join_144 : decode y_Formula_join.2.1 144 = .ok (.if_icmp .ne 7, 3) := by decide +kernel
theorem d_Formula_join_147 : decode y_Formula_join.2.1 147 = .ok (.iconst 1, 1) := by decide +kernel
theorem d_Formula_join_148 : decode y_Formula_join.2.1 148 = .ok (.goto 4, 3) := by decide +kernel
theorem d_Formula_join_151 : decode y_Formula_join.2.1 151 = .ok (.iconst 0, 1) := by decide +kernel
theorem d_Formula_join_152 : decode y_Formula_join.2.1 152 = .ok (.ireturn, 1) := by decide +kernel
theorem d_Formula_join_153 : decode y_Formula_join.2.1 153 = .ok (.iload_n 1, 1) := by decide +kernel
theorem d_Formula_join_154 : decode y_Formula_join.2.1 154 = .ok (.ifCond .eq 11, 3) := by decide +kernel
theorem d_Formula_join_157 : decode y_Formula_join.2.1 157 = .ok (.iload_n 2, 1) := by decide +kernel
theorem d_Formula_join_158 : decode y_Formula_join.2.1 158 = .ok (.ifCond .eq 7, 3) := by decide +kernel
theorem d_Formula_join_161 : decode y_Formula_join.2.1 161 = .ok (.iconst 1, 1) := by decide +kernel
theorem d_Formula_join_162 : decode y_Formula_join.2.1 162 = .ok (.goto 4, 3) := by decide +kernel
theorem d_Formula_join_165 : decode y_Formula_join.2.1 165 = .ok (.iconst 0, 1) := by decide +kernel
theorem d_Formula_join_166 : decode y_Formula_join.2.1 166 = .ok (.ireturn, 1) := by decide +kernel
theorem d_Formula_join_167 : decode y_Formula_join.2.1 167 = .ok (.iload_n 1, 1) := by decide +kernel
theorem d_Formula_join_168 : decode y_Formula_join.2.1 168 = .ok (.ifCond .ne 7, 3) := by decide +kernel
theorem d_Formula_join_171 : decode y_Formula_join.2.1 171 = .ok (.iload_n 2, 1) := by decide +kernel
theorem d_Formula_join_172 : decode y_Formula_join.2.1 172 = .ok (.ifCond .eq 7, 3) := by decide +kernel
theorem d_Formula_join_175 : decode y_Formula_join.2.1 175 = .ok (.iconst 1, 1) := by decide +kernel
theorem d_Formula_join_176 : decode y_Formula_join.2.1 176 = .ok (.goto 4, 3) := by decide +kernel
theorem d_Formula_join_179 : decode y_Formula_join.2.1 179 = .ok (.iconst 0, 1) := by decide +kernel
theorem d_Formula_join_180 : decode y_Formula_join.2.1 180 = .ok (.ireturn, 1) := by decide +kernel

abbrev y_Formula_value : MI := (⟨"CricketHay$Formula", "value", "(IIIIII)I"⟩, prog_7_method_5_code, 10, (some .int))
theorem hy_Formula_value : y_Formula_value.1.cls ≠ "java/lang/invoke/MethodHandle" ∧ y_Formula_value.1.cls ≠ "java/lang/invoke/VarHandle" ∧ (parseMethodDescriptor y_Formula_value.1.desc).map (fun d => d.parameters.length) = some 6 := by decide +kernel
theorem d_Formula_value_0 : decode y_Formula_value.2.1 0 = .ok (.iconst 0, 1) := by decide +kernel
theorem d_Formula_value_1 : decode y_Formula_value.2.1 1 = .ok (.istore 7, 2) := by decide +kernel
theorem d_Formula_value_3 : decode y_Formula_value.2.1 3 = .ok (.iconst 0, 1) := by decide +kernel
theorem d_Formula_value_4 : decode y_Formula_value.2.1 4 = .ok (.istore 8, 2) := by decide +kernel
theorem d_Formula_value_6 : decode y_Formula_value.2.1 6 = .ok (.iload 8, 2) := by decide +kernel
theorem d_Formula_value_8 : decode y_Formula_value.2.1 8 = .ok (.aload_n 0, 1) := by decide +kernel
theorem d_Formula_value_9 : decode y_Formula_value.2.1 9 = .ok (.getfield 21, 3) := by decide +kernel
theorem d_Formula_value_12 : decode y_Formula_value.2.1 12 = .ok (.if_icmp .ge 288, 3) := by decide +kernel
theorem d_Formula_value_15 : decode y_Formula_value.2.1 15 = .ok (.aload_n 0, 1) := by decide +kernel
theorem d_Formula_value_16 : decode y_Formula_value.2.1 16 = .ok (.getfield 9, 3) := by decide +kernel
theorem d_Formula_value_19 : decode y_Formula_value.2.1 19 = .ok (.iload 8, 2) := by decide +kernel
theorem d_Formula_value_21 : decode y_Formula_value.2.1 21 = .ok (.iaload, 1) := by decide +kernel
theorem d_Formula_value_22 : decode y_Formula_value.2.1 22 = .ok (.istore 9, 2) := by decide +kernel
theorem d_Formula_value_24 : decode y_Formula_value.2.1 24 = .ok (.iload 9, 2) := by decide +kernel
theorem d_Formula_value_26 : decode y_Formula_value.2.1 26 = .ok (.sipush 271, 3) := by decide +kernel
theorem d_Formula_value_29 : decode y_Formula_value.2.1 29 = .ok (.if_icmp .ne 38, 3) := by decide +kernel
theorem d_Formula_value_32 : decode y_Formula_value.2.1 32 = .ok (.iload 7, 2) := by decide +kernel
theorem d_Formula_value_34 : decode y_Formula_value.2.1 34 = .ok (.iconst 1, 1) := by decide +kernel
theorem d_Formula_value_35 : decode y_Formula_value.2.1 35 = .ok (.if_icmp .lt 259, 3) := by decide +kernel
theorem d_Formula_value_38 : decode y_Formula_value.2.1 38 = .ok (.aload_n 0, 1) := by decide +kernel
theorem d_Formula_value_39 : decode y_Formula_value.2.1 39 = .ok (.getfield 18, 3) := by decide +kernel
theorem d_Formula_value_42 : decode y_Formula_value.2.1 42 = .ok (.iload 7, 2) := by decide +kernel
theorem d_Formula_value_44 : decode y_Formula_value.2.1 44 = .ok (.iconst 1, 1) := by decide +kernel
theorem d_Formula_value_45 : decode y_Formula_value.2.1 45 = .ok (.isub, 1) := by decide +kernel
theorem d_Formula_value_46 : decode y_Formula_value.2.1 46 = .ok (.aload_n 0, 1) := by decide +kernel
theorem d_Formula_value_47 : decode y_Formula_value.2.1 47 = .ok (.getfield 18, 3) := by decide +kernel
theorem d_Formula_value_50 : decode y_Formula_value.2.1 50 = .ok (.iload 7, 2) := by decide +kernel
theorem d_Formula_value_52 : decode y_Formula_value.2.1 52 = .ok (.iconst 1, 1) := by decide +kernel
theorem d_Formula_value_53 : decode y_Formula_value.2.1 53 = .ok (.isub, 1) := by decide +kernel
theorem d_Formula_value_54 : decode y_Formula_value.2.1 54 = .ok (.iaload, 1) := by decide +kernel
theorem d_Formula_value_55 : decode y_Formula_value.2.1 55 = .ok (.ifCond .ne 7, 3) := by decide +kernel
theorem d_Formula_value_58 : decode y_Formula_value.2.1 58 = .ok (.iconst 1, 1) := by decide +kernel
theorem d_Formula_value_59 : decode y_Formula_value.2.1 59 = .ok (.goto 4, 3) := by decide +kernel
theorem d_Formula_value_62 : decode y_Formula_value.2.1 62 = .ok (.iconst 0, 1) := by decide +kernel
theorem d_Formula_value_63 : decode y_Formula_value.2.1 63 = .ok (.iastore, 1) := by decide +kernel
theorem d_Formula_value_64 : decode y_Formula_value.2.1 64 = .ok (.goto 230, 3) := by decide +kernel
theorem d_Formula_value_67 : decode y_Formula_value.2.1 67 = .ok (.iload 9, 2) := by decide +kernel
theorem d_Formula_value_69 : decode y_Formula_value.2.1 69 = .ok (.invokestatic 28, 3) := by decide +kernel
theorem d_Formula_value_72 : decode y_Formula_value.2.1 72 = .ok (.ifCond .eq 45, 3) := by decide +kernel
theorem d_Formula_value_75 : decode y_Formula_value.2.1 75 = .ok (.iload 7, 2) := by decide +kernel
theorem d_Formula_value_77 : decode y_Formula_value.2.1 77 = .ok (.iconst 2, 1) := by decide +kernel
theorem d_Formula_value_78 : decode y_Formula_value.2.1 78 = .ok (.if_icmp .lt 216, 3) := by decide +kernel
theorem d_Formula_value_81 : decode y_Formula_value.2.1 81 = .ok (.iinc 7 (-1), 3) := by decide +kernel
theorem d_Formula_value_84 : decode y_Formula_value.2.1 84 = .ok (.aload_n 0, 1) := by decide +kernel
theorem d_Formula_value_85 : decode y_Formula_value.2.1 85 = .ok (.getfield 18, 3) := by decide +kernel
theorem d_Formula_value_88 : decode y_Formula_value.2.1 88 = .ok (.iload 7, 2) := by decide +kernel
theorem d_Formula_value_90 : decode y_Formula_value.2.1 90 = .ok (.iconst 1, 1) := by decide +kernel
theorem d_Formula_value_91 : decode y_Formula_value.2.1 91 = .ok (.isub, 1) := by decide +kernel
theorem d_Formula_value_92 : decode y_Formula_value.2.1 92 = .ok (.iload 9, 2) := by decide +kernel
theorem d_Formula_value_94 : decode y_Formula_value.2.1 94 = .ok (.aload_n 0, 1) := by decide +kernel
theorem d_Formula_value_95 : decode y_Formula_value.2.1 95 = .ok (.getfield 18, 3) := by decide +kernel
theorem d_Formula_value_98 : decode y_Formula_value.2.1 98 = .ok (.iload 7, 2) := by decide +kernel
theorem d_Formula_value_100 : decode y_Formula_value.2.1 100 = .ok (.iconst 1, 1) := by decide +kernel
theorem d_Formula_value_101 : decode y_Formula_value.2.1 101 = .ok (.isub, 1) := by decide +kernel
theorem d_Formula_value_102 : decode y_Formula_value.2.1 102 = .ok (.iaload, 1) := by decide +kernel
theorem d_Formula_value_103 : decode y_Formula_value.2.1 103 = .ok (.aload_n 0, 1) := by decide +kernel
theorem d_Formula_value_104 : decode y_Formula_value.2.1 104 = .ok (.getfield 18, 3) := by decide +kernel
theorem d_Formula_value_107 : decode y_Formula_value.2.1 107 = .ok (.iload 7, 2) := by decide +kernel
theorem d_Formula_value_109 : decode y_Formula_value.2.1 109 = .ok (.iaload, 1) := by decide +kernel
theorem d_Formula_value_110 : decode y_Formula_value.2.1 110 = .ok (.invokestatic 32, 3) := by decide +kernel
theorem d_Formula_value_113 : decode y_Formula_value.2.1 113 = .ok (.iastore, 1) := by decide +kernel
theorem d_Formula_value_114 : decode y_Formula_value.2.1 114 = .ok (.goto 180, 3) := by decide +kernel
theorem d_Formula_value_117 : decode y_Formula_value.2.1 117 = .ok (.iload 7, 2) := by decide +kernel
theorem d_Formula_value_119 : decode y_Formula_value.2.1 119 = .ok (.aload_n 0, 1) := by decide +kernel
theorem d_Formula_value_120 : decode y_Formula_value.2.1 120 = .ok (.getfield 18, 3) := by decide +kernel
theorem d_Formula_value_123 : decode y_Formula_value.2.1 123 = .ok (.arraylength, 1) := by decide +kernel
theorem d_Formula_value_124 : decode y_Formula_value.2.1 124 = .ok (.if_icmp .ge 170, 3) := by decide +kernel
theorem d_Formula_value_127 : decode y_Formula_value.2.1 127 = .ok (.iload 9, 2) := by decide +kernel
theorem d_Formula_value_129 : decode y_Formula_value.2.1 129 = .ok (.tableswitch 148 259 274 #[90, 101, 148, 148, 148, 148, 79, 148, 148, 148, 148, 148, 148, 112, 124, 136], 79) := by decide +kernel
theorem d_Formula_value_208 : decode y_Formula_value.2.1 208 = .ok (.aload_n 0, 1) := by decide +kernel
theorem d_Formula_value_209 : decode y_Formula_value.2.1 209 = .ok (.getfield 18, 3) := by decide +kernel
theorem d_Formula_value_212 : decode y_Formula_value.2.1 212 = .ok (.iload 7, 2) := by decide +kernel
theorem d_Formula_value_214 : decode y_Formula_value.2.1 214 = .ok (.iload_n 1, 1) := by decide +kernel
theorem d_Formula_value_215 : decode y_Formula_value.2.1 215 = .ok (.iastore, 1) := by decide +kernel
theorem d_Formula_value_216 : decode y_Formula_value.2.1 216 = .ok (.goto 75, 3) := by decide +kernel
theorem d_Formula_value_219 : decode y_Formula_value.2.1 219 = .ok (.aload_n 0, 1) := by decide +kernel
theorem d_Formula_value_220 : decode y_Formula_value.2.1 220 = .ok (.getfield 18, 3) := by decide +kernel
theorem d_Formula_value_223 : decode y_Formula_value.2.1 223 = .ok (.iload 7, 2) := by decide +kernel
theorem d_Formula_value_225 : decode y_Formula_value.2.1 225 = .ok (.iload_n 2, 1) := by decide +kernel
theorem d_Formula_value_226 : decode y_Formula_value.2.1 226 = .ok (.iastore, 1) := by decide +kernel
theorem d_Formula_value_227 : decode y_Formula_value.2.1 227 = .ok (.goto 64, 3) := by decide +kernel
theorem d_Formula_value_230 : decode y_Formula_value.2.1 230 = .ok (.aload_n 0, 1) := by decide +kernel
theorem d_Formula_value_231 : decode y_Formula_value.2.1 231 = .ok (.getfield 18, 3) := by decide +kernel
theorem d_Formula_value_234 : decode y_Formula_value.2.1 234 = .ok (.iload 7, 2) := by decide +kernel
theorem d_Formula_value_236 : decode y_Formula_value.2.1 236 = .ok (.iload_n 3, 1) := by decide +kernel
theorem d_Formula_value_237 : decode y_Formula_value.2.1 237 = .ok (.iastore, 1) := by decide +kernel
theorem d_Formula_value_238 : decode y_Formula_value.2.1 238 = .ok (.goto 53, 3) := by decide +kernel
theorem d_Formula_value_241 : decode y_Formula_value.2.1 241 = .ok (.aload_n 0, 1) := by decide +kernel
theorem d_Formula_value_242 : decode y_Formula_value.2.1 242 = .ok (.getfield 18, 3) := by decide +kernel
theorem d_Formula_value_245 : decode y_Formula_value.2.1 245 = .ok (.iload 7, 2) := by decide +kernel
theorem d_Formula_value_247 : decode y_Formula_value.2.1 247 = .ok (.iload 4, 2) := by decide +kernel
theorem d_Formula_value_249 : decode y_Formula_value.2.1 249 = .ok (.iastore, 1) := by decide +kernel
theorem d_Formula_value_250 : decode y_Formula_value.2.1 250 = .ok (.goto 41, 3) := by decide +kernel
theorem d_Formula_value_253 : decode y_Formula_value.2.1 253 = .ok (.aload_n 0, 1) := by decide +kernel
theorem d_Formula_value_254 : decode y_Formula_value.2.1 254 = .ok (.getfield 18, 3) := by decide +kernel
theorem d_Formula_value_257 : decode y_Formula_value.2.1 257 = .ok (.iload 7, 2) := by decide +kernel
theorem d_Formula_value_259 : decode y_Formula_value.2.1 259 = .ok (.iload 5, 2) := by decide +kernel
theorem d_Formula_value_261 : decode y_Formula_value.2.1 261 = .ok (.iastore, 1) := by decide +kernel
theorem d_Formula_value_262 : decode y_Formula_value.2.1 262 = .ok (.goto 29, 3) := by decide +kernel
theorem d_Formula_value_265 : decode y_Formula_value.2.1 265 = .ok (.aload_n 0, 1) := by decide +kernel
theorem d_Formula_value_266 : decode y_Formula_value.2.1 266 = .ok (.getfield 18, 3) := by decide +kernel
theorem d_Formula_value_269 : decode y_Formula_value.2.1 269 = .ok (.iload 7, 2) := by decide +kernel
theorem d_Formula_value_271 : decode y_Formula_value.2.1 271 = .ok (.iload 6, 2) := by decide +kernel
theorem d_Formula_value_273 : decode y_Formula_value.2.1 273 = .ok (.iastore, 1) := by decide +kernel
theorem d_Formula_value_274 : decode y_Formula_value.2.1 274 = .ok (.goto 17, 3) := by decide +kernel
theorem d_Formula_value_277 : decode y_Formula_value.2.1 277 = .ok (.aload_n 0, 1) := by decide +kernel
theorem d_Formula_value_278 : decode y_Formula_value.2.1 278 = .ok (.getfield 18, 3) := by decide +kernel
theorem d_Formula_value_281 : decode y_Formula_value.2.1 281 = .ok (.iload 7, 2) := by decide +kernel
theorem d_Formula_value_283 : decode y_Formula_value.2.1 283 = .ok (.aload_n 0, 1) := by decide +kernel
theorem d_Formula_value_284 : decode y_Formula_value.2.1 284 = .ok (.getfield 15, 3) := by decide +kernel
theorem d_Formula_value_287 : decode y_Formula_value.2.1 287 = .ok (.iload 8, 2) := by decide +kernel
theorem d_Formula_value_289 : decode y_Formula_value.2.1 289 = .ok (.iaload, 1) := by decide +kernel
theorem d_Formula_value_290 : decode y_Formula_value.2.1 290 = .ok (.iastore, 1) := by decide +kernel
theorem d_Formula_value_291 : decode y_Formula_value.2.1 291 = .ok (.iinc 7 1, 3) := by decide +kernel
theorem d_Formula_value_294 : decode y_Formula_value.2.1 294 = .ok (.iinc 8 1, 3) := by decide +kernel
theorem d_Formula_value_297 : decode y_Formula_value.2.1 297 = .ok (.goto (-291), 3) := by decide +kernel
theorem d_Formula_value_300 : decode y_Formula_value.2.1 300 = .ok (.iload 7, 2) := by decide +kernel
theorem d_Formula_value_302 : decode y_Formula_value.2.1 302 = .ok (.ifCond .le 12, 3) := by decide +kernel
theorem d_Formula_value_305 : decode y_Formula_value.2.1 305 = .ok (.aload_n 0, 1) := by decide +kernel
theorem d_Formula_value_306 : decode y_Formula_value.2.1 306 = .ok (.getfield 18, 3) := by decide +kernel
theorem d_Formula_value_309 : decode y_Formula_value.2.1 309 = .ok (.iconst 0, 1) := by decide +kernel
theorem d_Formula_value_310 : decode y_Formula_value.2.1 310 = .ok (.iaload, 1) := by decide +kernel
theorem d_Formula_value_311 : decode y_Formula_value.2.1 311 = .ok (.goto 4, 3) := by decide +kernel
theorem d_Formula_value_314 : decode y_Formula_value.2.1 314 = .ok (.iconst 0, 1) := by decide +kernel
theorem d_Formula_value_315 : decode y_Formula_value.2.1 315 = .ok (.ireturn, 1) := by decide +kernel

abbrev y_Market_clampHeat : MI := (⟨"CricketHay$Market", "clampHeat", "(I)I"⟩, prog_9_method_5_code, 1, (some .int))
theorem hy_Market_clampHeat : y_Market_clampHeat.1.cls ≠ "java/lang/invoke/MethodHandle" ∧ y_Market_clampHeat.1.cls ≠ "java/lang/invoke/VarHandle" ∧ (parseMethodDescriptor y_Market_clampHeat.1.desc).map (fun d => d.parameters.length) = some 1 := by decide +kernel
theorem d_Market_clampHeat_0 : decode y_Market_clampHeat.2.1 0 = .ok (.iconst 0, 1) := by decide +kernel
theorem d_Market_clampHeat_1 : decode y_Market_clampHeat.2.1 1 = .ok (.bipush 40, 2) := by decide +kernel
theorem d_Market_clampHeat_3 : decode y_Market_clampHeat.2.1 3 = .ok (.iload_n 0, 1) := by decide +kernel
theorem d_Market_clampHeat_4 : decode y_Market_clampHeat.2.1 4 = .ok (.invokestatic 84, 3) := by decide +kernel
theorem d_Market_clampHeat_7 : decode y_Market_clampHeat.2.1 7 = .ok (.invokestatic 90, 3) := by decide +kernel
theorem d_Market_clampHeat_10 : decode y_Market_clampHeat.2.1 10 = .ok (.ireturn, 1) := by decide +kernel

abbrev y_Market_warmth : MI := (⟨"CricketHay$Market", "warmth", "(III)I"⟩, prog_9_method_4_code, 5, (some .int))
theorem hy_Market_warmth : y_Market_warmth.1.cls ≠ "java/lang/invoke/MethodHandle" ∧ y_Market_warmth.1.cls ≠ "java/lang/invoke/VarHandle" ∧ (parseMethodDescriptor y_Market_warmth.1.desc).map (fun d => d.parameters.length) = some 3 := by decide +kernel
theorem d_Market_warmth_0 : decode y_Market_warmth.2.1 0 = .ok (.aload_n 0, 1) := by decide +kernel
theorem d_Market_warmth_1 : decode y_Market_warmth.2.1 1 = .ok (.getfield 44, 3) := by decide +kernel
theorem d_Market_warmth_4 : decode y_Market_warmth.2.1 4 = .ok (.invokevirtual 72, 3) := by decide +kernel
theorem d_Market_warmth_7 : decode y_Market_warmth.2.1 7 = .ok (.ifCond .eq 19, 3) := by decide +kernel
theorem d_Market_warmth_10 : decode y_Market_warmth.2.1 10 = .ok (.aload_n 0, 1) := by decide +kernel
theorem d_Market_warmth_11 : decode y_Market_warmth.2.1 11 = .ok (.getfield 44, 3) := by decide +kernel
theorem d_Market_warmth_14 : decode y_Market_warmth.2.1 14 = .ok (.iconst 0, 1) := by decide +kernel
theorem d_Market_warmth_15 : decode y_Market_warmth.2.1 15 = .ok (.iconst 0, 1) := by decide +kernel
theorem d_Market_warmth_16 : decode y_Market_warmth.2.1 16 = .ok (.iconst 0, 1) := by decide +kernel
theorem d_Market_warmth_17 : decode y_Market_warmth.2.1 17 = .ok (.iconst 0, 1) := by decide +kernel
theorem d_Market_warmth_18 : decode y_Market_warmth.2.1 18 = .ok (.iload_n 1, 1) := by decide +kernel
theorem d_Market_warmth_19 : decode y_Market_warmth.2.1 19 = .ok (.iload_n 2, 1) := by decide +kernel
theorem d_Market_warmth_20 : decode y_Market_warmth.2.1 20 = .ok (.invokevirtual 76, 3) := by decide +kernel
theorem d_Market_warmth_23 : decode y_Market_warmth.2.1 23 = .ok (.goto 5, 3) := by decide +kernel
theorem d_Market_warmth_26 : decode y_Market_warmth.2.1 26 = .ok (.bipush 20, 2) := by decide +kernel
theorem d_Market_warmth_28 : decode y_Market_warmth.2.1 28 = .ok (.istore 4, 2) := by decide +kernel
theorem d_Market_warmth_30 : decode y_Market_warmth.2.1 30 = .ok (.iload 4, 2) := by decide +kernel
theorem d_Market_warmth_32 : decode y_Market_warmth.2.1 32 = .ok (.iload_n 3, 1) := by decide +kernel
theorem d_Market_warmth_33 : decode y_Market_warmth.2.1 33 = .ok (.isub, 1) := by decide +kernel
theorem d_Market_warmth_34 : decode y_Market_warmth.2.1 34 = .ok (.invokestatic 80, 3) := by decide +kernel
theorem d_Market_warmth_37 : decode y_Market_warmth.2.1 37 = .ok (.ireturn, 1) := by decide +kernel

abbrev y_Yard_warmth : MI := (⟨"CricketHay$Yard", "warmth", "(LCricketHay$Market;)I"⟩, prog_12_method_4_code, 2, (some .int))
theorem hy_Yard_warmth : y_Yard_warmth.1.cls ≠ "java/lang/invoke/MethodHandle" ∧ y_Yard_warmth.1.cls ≠ "java/lang/invoke/VarHandle" ∧ (parseMethodDescriptor y_Yard_warmth.1.desc).map (fun d => d.parameters.length) = some 1 := by decide +kernel
theorem d_Yard_warmth_0 : decode y_Yard_warmth.2.1 0 = .ok (.aload_n 1, 1) := by decide +kernel
theorem d_Yard_warmth_1 : decode y_Yard_warmth.2.1 1 = .ok (.aload_n 0, 1) := by decide +kernel
theorem d_Yard_warmth_2 : decode y_Yard_warmth.2.1 2 = .ok (.getfield 34, 3) := by decide +kernel
theorem d_Yard_warmth_5 : decode y_Yard_warmth.2.1 5 = .ok (.aload_n 0, 1) := by decide +kernel
theorem d_Yard_warmth_6 : decode y_Yard_warmth.2.1 6 = .ok (.getfield 37, 3) := by decide +kernel
theorem d_Yard_warmth_9 : decode y_Yard_warmth.2.1 9 = .ok (.aload_n 0, 1) := by decide +kernel
theorem d_Yard_warmth_10 : decode y_Yard_warmth.2.1 10 = .ok (.getfield 30, 3) := by decide +kernel
theorem d_Yard_warmth_13 : decode y_Yard_warmth.2.1 13 = .ok (.invokevirtual 57, 3) := by decide +kernel
theorem d_Yard_warmth_16 : decode y_Yard_warmth.2.1 16 = .ok (.ireturn, 1) := by decide +kernel

abbrev y_Yard_mates : MI := (⟨"CricketHay$Yard", "mates", "(LCricketHay$Market;I)I"⟩, prog_12_method_5_code, 5, (some .int))
theorem hy_Yard_mates : y_Yard_mates.1.cls ≠ "java/lang/invoke/MethodHandle" ∧ y_Yard_mates.1.cls ≠ "java/lang/invoke/VarHandle" ∧ (parseMethodDescriptor y_Yard_mates.1.desc).map (fun d => d.parameters.length) = some 2 := by decide +kernel
theorem d_Yard_mates_0 : decode y_Yard_mates.2.1 0 = .ok (.iconst 0, 1) := by decide +kernel
theorem d_Yard_mates_1 : decode y_Yard_mates.2.1 1 = .ok (.istore_n 3, 1) := by decide +kernel
theorem d_Yard_mates_2 : decode y_Yard_mates.2.1 2 = .ok (.iconst 0, 1) := by decide +kernel
theorem d_Yard_mates_3 : decode y_Yard_mates.2.1 3 = .ok (.istore 4, 2) := by decide +kernel
theorem d_Yard_mates_5 : decode y_Yard_mates.2.1 5 = .ok (.iload 4, 2) := by decide +kernel
theorem d_Yard_mates_7 : decode y_Yard_mates.2.1 7 = .ok (.aload_n 1, 1) := by decide +kernel
theorem d_Yard_mates_8 : decode y_Yard_mates.2.1 8 = .ok (.getfield 61, 3) := by decide +kernel
theorem d_Yard_mates_11 : decode y_Yard_mates.2.1 11 = .ok (.if_icmp .ge 44, 3) := by decide +kernel
theorem d_Yard_mates_14 : decode y_Yard_mates.2.1 14 = .ok (.iload 4, 2) := by decide +kernel
theorem d_Yard_mates_16 : decode y_Yard_mates.2.1 16 = .ok (.iload_n 2, 1) := by decide +kernel
theorem d_Yard_mates_17 : decode y_Yard_mates.2.1 17 = .ok (.if_icmp .eq 32, 3) := by decide +kernel
theorem d_Yard_mates_20 : decode y_Yard_mates.2.1 20 = .ok (.aload_n 0, 1) := by decide +kernel
theorem d_Yard_mates_21 : decode y_Yard_mates.2.1 21 = .ok (.getfield 27, 3) := by decide +kernel
theorem d_Yard_mates_24 : decode y_Yard_mates.2.1 24 = .ok (.iload 4, 2) := by decide +kernel
theorem d_Yard_mates_26 : decode y_Yard_mates.2.1 26 = .ok (.iaload, 1) := by decide +kernel
theorem d_Yard_mates_27 : decode y_Yard_mates.2.1 27 = .ok (.ifCond .ne 22, 3) := by decide +kernel
theorem d_Yard_mates_30 : decode y_Yard_mates.2.1 30 = .ok (.aload_n 1, 1) := by decide +kernel
theorem d_Yard_mates_31 : decode y_Yard_mates.2.1 31 = .ok (.getfield 64, 3) := by decide +kernel
theorem d_Yard_mates_34 : decode y_Yard_mates.2.1 34 = .ok (.iload 4, 2) := by decide +kernel
theorem d_Yard_mates_36 : decode y_Yard_mates.2.1 36 = .ok (.iaload, 1) := by decide +kernel
theorem d_Yard_mates_37 : decode y_Yard_mates.2.1 37 = .ok (.aload_n 1, 1) := by decide +kernel
theorem d_Yard_mates_38 : decode y_Yard_mates.2.1 38 = .ok (.getfield 64, 3) := by decide +kernel
theorem d_Yard_mates_41 : decode y_Yard_mates.2.1 41 = .ok (.iload_n 2, 1) := by decide +kernel
theorem d_Yard_mates_42 : decode y_Yard_mates.2.1 42 = .ok (.iaload, 1) := by decide +kernel
theorem d_Yard_mates_43 : decode y_Yard_mates.2.1 43 = .ok (.if_icmp .ne 6, 3) := by decide +kernel
theorem d_Yard_mates_46 : decode y_Yard_mates.2.1 46 = .ok (.iinc 3 1, 3) := by decide +kernel
theorem d_Yard_mates_49 : decode y_Yard_mates.2.1 49 = .ok (.iinc 4 1, 3) := by decide +kernel
theorem d_Yard_mates_52 : decode y_Yard_mates.2.1 52 = .ok (.goto (-47), 3) := by decide +kernel
theorem d_Yard_mates_55 : decode y_Yard_mates.2.1 55 = .ok (.iload_n 3, 1) := by decide +kernel
theorem d_Yard_mates_56 : decode y_Yard_mates.2.1 56 = .ok (.ireturn, 1) := by decide +kernel

abbrev y_Market_sung : MI := (⟨"CricketHay$Market", "sung", "(IIIIII)I"⟩, prog_9_method_6_code, 8, (some .int))
theorem hy_Market_sung : y_Market_sung.1.cls ≠ "java/lang/invoke/MethodHandle" ∧ y_Market_sung.1.cls ≠ "java/lang/invoke/VarHandle" ∧ (parseMethodDescriptor y_Market_sung.1.desc).map (fun d => d.parameters.length) = some 6 := by decide +kernel
theorem d_Market_sung_0 : decode y_Market_sung.2.1 0 = .ok (.aload_n 0, 1) := by decide +kernel
theorem d_Market_sung_1 : decode y_Market_sung.2.1 1 = .ok (.getfield 40, 3) := by decide +kernel
theorem d_Market_sung_4 : decode y_Market_sung.2.1 4 = .ok (.invokevirtual 72, 3) := by decide +kernel
theorem d_Market_sung_7 : decode y_Market_sung.2.1 7 = .ok (.ifCond .eq 22, 3) := by decide +kernel
theorem d_Market_sung_10 : decode y_Market_sung.2.1 10 = .ok (.aload_n 0, 1) := by decide +kernel
theorem d_Market_sung_11 : decode y_Market_sung.2.1 11 = .ok (.getfield 40, 3) := by decide +kernel
theorem d_Market_sung_14 : decode y_Market_sung.2.1 14 = .ok (.iload_n 1, 1) := by decide +kernel
theorem d_Market_sung_15 : decode y_Market_sung.2.1 15 = .ok (.iload_n 2, 1) := by decide +kernel
theorem d_Market_sung_16 : decode y_Market_sung.2.1 16 = .ok (.iload_n 3, 1) := by decide +kernel
theorem d_Market_sung_17 : decode y_Market_sung.2.1 17 = .ok (.iload 4, 2) := by decide +kernel
theorem d_Market_sung_19 : decode y_Market_sung.2.1 19 = .ok (.iload 5, 2) := by decide +kernel
theorem d_Market_sung_21 : decode y_Market_sung.2.1 21 = .ok (.iload 6, 2) := by decide +kernel
theorem d_Market_sung_23 : decode y_Market_sung.2.1 23 = .ok (.invokevirtual 76, 3) := by decide +kernel
theorem d_Market_sung_26 : decode y_Market_sung.2.1 26 = .ok (.goto 6, 3) := by decide +kernel
theorem d_Market_sung_29 : decode y_Market_sung.2.1 29 = .ok (.iload_n 1, 1) := by decide +kernel
theorem d_Market_sung_30 : decode y_Market_sung.2.1 30 = .ok (.iload_n 2, 1) := by decide +kernel
theorem d_Market_sung_31 : decode y_Market_sung.2.1 31 = .ok (.iadd, 1) := by decide +kernel
theorem d_Market_sung_32 : decode y_Market_sung.2.1 32 = .ok (.istore 7, 2) := by decide +kernel
theorem d_Market_sung_34 : decode y_Market_sung.2.1 34 = .ok (.iconst 0, 1) := by decide +kernel
theorem d_Market_sung_35 : decode y_Market_sung.2.1 35 = .ok (.bipush 99, 2) := by decide +kernel
theorem d_Market_sung_37 : decode y_Market_sung.2.1 37 = .ok (.iload 7, 2) := by decide +kernel
theorem d_Market_sung_39 : decode y_Market_sung.2.1 39 = .ok (.invokestatic 84, 3) := by decide +kernel
theorem d_Market_sung_42 : decode y_Market_sung.2.1 42 = .ok (.invokestatic 90, 3) := by decide +kernel
theorem d_Market_sung_45 : decode y_Market_sung.2.1 45 = .ok (.ireturn, 1) := by decide +kernel

abbrev y_Choir_tune : MI := (⟨"CricketHay$Choir", "tune", "(LCricketHay$Market;LCricketHay$Yard;)V"⟩, prog_4_method_2_code, 5, none)
theorem hy_Choir_tune : y_Choir_tune.1.cls ≠ "java/lang/invoke/MethodHandle" ∧ y_Choir_tune.1.cls ≠ "java/lang/invoke/VarHandle" ∧ (parseMethodDescriptor y_Choir_tune.1.desc).map (fun d => d.parameters.length) = some 2 := by decide +kernel
theorem d_Choir_tune_0 : decode y_Choir_tune.2.1 0 = .ok (.aload_n 0, 1) := by decide +kernel
theorem d_Choir_tune_1 : decode y_Choir_tune.2.1 1 = .ok (.aload_n 1, 1) := by decide +kernel
theorem d_Choir_tune_2 : decode y_Choir_tune.2.1 2 = .ok (.getfield 19, 3) := by decide +kernel
theorem d_Choir_tune_5 : decode y_Choir_tune.2.1 5 = .ok (.putfield 15, 3) := by decide +kernel
theorem d_Choir_tune_8 : decode y_Choir_tune.2.1 8 = .ok (.aload_n 2, 1) := by decide +kernel
theorem d_Choir_tune_9 : decode y_Choir_tune.2.1 9 = .ok (.aload_n 1, 1) := by decide +kernel
theorem d_Choir_tune_10 : decode y_Choir_tune.2.1 10 = .ok (.invokevirtual 22, 3) := by decide +kernel
theorem d_Choir_tune_13 : decode y_Choir_tune.2.1 13 = .ok (.istore_n 3, 1) := by decide +kernel
theorem d_Choir_tune_14 : decode y_Choir_tune.2.1 14 = .ok (.iconst 0, 1) := by decide +kernel
theorem d_Choir_tune_15 : decode y_Choir_tune.2.1 15 = .ok (.istore 4, 2) := by decide +kernel
theorem d_Choir_tune_17 : decode y_Choir_tune.2.1 17 = .ok (.iload 4, 2) := by decide +kernel
theorem d_Choir_tune_19 : decode y_Choir_tune.2.1 19 = .ok (.aload_n 0, 1) := by decide +kernel
theorem d_Choir_tune_20 : decode y_Choir_tune.2.1 20 = .ok (.getfield 15, 3) := by decide +kernel
theorem d_Choir_tune_23 : decode y_Choir_tune.2.1 23 = .ok (.if_icmp .ge 75, 3) := by decide +kernel
theorem d_Choir_tune_26 : decode y_Choir_tune.2.1 26 = .ok (.aload_n 0, 1) := by decide +kernel
theorem d_Choir_tune_27 : decode y_Choir_tune.2.1 27 = .ok (.getfield 9, 3) := by decide +kernel
theorem d_Choir_tune_30 : decode y_Choir_tune.2.1 30 = .ok (.iload 4, 2) := by decide +kernel
theorem d_Choir_tune_32 : decode y_Choir_tune.2.1 32 = .ok (.aload_n 2, 1) := by decide +kernel
theorem d_Choir_tune_33 : decode y_Choir_tune.2.1 33 = .ok (.getfield 28, 3) := by decide +kernel
theorem d_Choir_tune_36 : decode y_Choir_tune.2.1 36 = .ok (.iload 4, 2) := by decide +kernel
theorem d_Choir_tune_38 : decode y_Choir_tune.2.1 38 = .ok (.iaload, 1) := by decide +kernel
theorem d_Choir_tune_39 : decode y_Choir_tune.2.1 39 = .ok (.ifCond .eq 7, 3) := by decide +kernel
theorem d_Choir_tune_42 : decode y_Choir_tune.2.1 42 = .ok (.iconst 0, 1) := by decide +kernel
theorem d_Choir_tune_43 : decode y_Choir_tune.2.1 43 = .ok (.goto 48, 3) := by decide +kernel
theorem d_Choir_tune_46 : decode y_Choir_tune.2.1 46 = .ok (.aload_n 1, 1) := by decide +kernel
theorem d_Choir_tune_47 : decode y_Choir_tune.2.1 47 = .ok (.iload_n 3, 1) := by decide +kernel
theorem d_Choir_tune_48 : decode y_Choir_tune.2.1 48 = .ok (.aload_n 2, 1) := by decide +kernel
theorem d_Choir_tune_49 : decode y_Choir_tune.2.1 49 = .ok (.getfield 31, 3) := by decide +kernel
theorem d_Choir_tune_52 : decode y_Choir_tune.2.1 52 = .ok (.iload 4, 2) := by decide +kernel
theorem d_Choir_tune_54 : decode y_Choir_tune.2.1 54 = .ok (.iaload, 1) := by decide +kernel
theorem d_Choir_tune_55 : decode y_Choir_tune.2.1 55 = .ok (.iadd, 1) := by decide +kernel
theorem d_Choir_tune_56 : decode y_Choir_tune.2.1 56 = .ok (.invokestatic 34, 3) := by decide +kernel
theorem d_Choir_tune_59 : decode y_Choir_tune.2.1 59 = .ok (.aload_n 1, 1) := by decide +kernel
theorem d_Choir_tune_60 : decode y_Choir_tune.2.1 60 = .ok (.getfield 38, 3) := by decide +kernel
theorem d_Choir_tune_63 : decode y_Choir_tune.2.1 63 = .ok (.iload 4, 2) := by decide +kernel
theorem d_Choir_tune_65 : decode y_Choir_tune.2.1 65 = .ok (.iaload, 1) := by decide +kernel
theorem d_Choir_tune_66 : decode y_Choir_tune.2.1 66 = .ok (.aload_n 2, 1) := by decide +kernel
theorem d_Choir_tune_67 : decode y_Choir_tune.2.1 67 = .ok (.getfield 41, 3) := by decide +kernel
theorem d_Choir_tune_70 : decode y_Choir_tune.2.1 70 = .ok (.iload 4, 2) := by decide +kernel
theorem d_Choir_tune_72 : decode y_Choir_tune.2.1 72 = .ok (.iaload, 1) := by decide +kernel
theorem d_Choir_tune_73 : decode y_Choir_tune.2.1 73 = .ok (.aload_n 2, 1) := by decide +kernel
theorem d_Choir_tune_74 : decode y_Choir_tune.2.1 74 = .ok (.aload_n 1, 1) := by decide +kernel
theorem d_Choir_tune_75 : decode y_Choir_tune.2.1 75 = .ok (.iload 4, 2) := by decide +kernel
theorem d_Choir_tune_77 : decode y_Choir_tune.2.1 77 = .ok (.invokevirtual 44, 3) := by decide +kernel
theorem d_Choir_tune_80 : decode y_Choir_tune.2.1 80 = .ok (.aload_n 2, 1) := by decide +kernel
theorem d_Choir_tune_81 : decode y_Choir_tune.2.1 81 = .ok (.getfield 48, 3) := by decide +kernel
theorem d_Choir_tune_84 : decode y_Choir_tune.2.1 84 = .ok (.aload_n 2, 1) := by decide +kernel
theorem d_Choir_tune_85 : decode y_Choir_tune.2.1 85 = .ok (.getfield 51, 3) := by decide +kernel
theorem d_Choir_tune_88 : decode y_Choir_tune.2.1 88 = .ok (.invokevirtual 54, 3) := by decide +kernel
theorem d_Choir_tune_91 : decode y_Choir_tune.2.1 91 = .ok (.iastore, 1) := by decide +kernel
theorem d_Choir_tune_92 : decode y_Choir_tune.2.1 92 = .ok (.iinc 4 1, 3) := by decide +kernel
theorem d_Choir_tune_95 : decode y_Choir_tune.2.1 95 = .ok (.goto (-78), 3) := by decide +kernel
theorem d_Choir_tune_98 : decode y_Choir_tune.2.1 98 = .ok (.return_, 1) := by decide +kernel

abbrev y_H_dealer : MI := (⟨"CricketHay", "dealer", "(II)I"⟩, prog_1_method_6_code, 3, (some .int))
theorem hy_H_dealer : y_H_dealer.1.cls ≠ "java/lang/invoke/MethodHandle" ∧ y_H_dealer.1.cls ≠ "java/lang/invoke/VarHandle" ∧ (parseMethodDescriptor y_H_dealer.1.desc).map (fun d => d.parameters.length) = some 2 := by decide +kernel
theorem d_H_dealer_0 : decode y_H_dealer.2.1 0 = .ok (.aload_n 0, 1) := by decide +kernel
theorem d_H_dealer_1 : decode y_H_dealer.2.1 1 = .ok (.getfield 19, 3) := by decide +kernel
theorem d_H_dealer_4 : decode y_H_dealer.2.1 4 = .ok (.iload_n 1, 1) := by decide +kernel
theorem d_H_dealer_5 : decode y_H_dealer.2.1 5 = .ok (.invokevirtual 124, 3) := by decide +kernel
theorem d_H_dealer_8 : decode y_H_dealer.2.1 8 = .ok (.ifCond .ne 6, 3) := by decide +kernel
theorem d_H_dealer_11 : decode y_H_dealer.2.1 11 = .ok (.bipush (-100), 2) := by decide +kernel
theorem d_H_dealer_13 : decode y_H_dealer.2.1 13 = .ok (.ireturn, 1) := by decide +kernel
theorem d_H_dealer_14 : decode y_H_dealer.2.1 14 = .ok (.iload_n 2, 1) := by decide +kernel
theorem d_H_dealer_15 : decode y_H_dealer.2.1 15 = .ok (.tableswitch 185 0 10 #[57, 67, 77, 87, 97, 107, 117, 127, 137, 147, 172], 57) := by decide +kernel
theorem d_H_dealer_72 : decode y_H_dealer.2.1 72 = .ok (.aload_n 0, 1) := by decide +kernel
theorem d_H_dealer_73 : decode y_H_dealer.2.1 73 = .ok (.getfield 29, 3) := by decide +kernel
theorem d_H_dealer_76 : decode y_H_dealer.2.1 76 = .ok (.getfield 128, 3) := by decide +kernel
theorem d_H_dealer_79 : decode y_H_dealer.2.1 79 = .ok (.iload_n 1, 1) := by decide +kernel
theorem d_H_dealer_80 : decode y_H_dealer.2.1 80 = .ok (.iaload, 1) := by decide +kernel
theorem d_H_dealer_81 : decode y_H_dealer.2.1 81 = .ok (.ireturn, 1) := by decide +kernel
theorem d_H_dealer_82 : decode y_H_dealer.2.1 82 = .ok (.aload_n 0, 1) := by decide +kernel
theorem d_H_dealer_83 : decode y_H_dealer.2.1 83 = .ok (.getfield 29, 3) := by decide +kernel
theorem d_H_dealer_86 : decode y_H_dealer.2.1 86 = .ok (.getfield 131, 3) := by decide +kernel
theorem d_H_dealer_89 : decode y_H_dealer.2.1 89 = .ok (.iload_n 1, 1) := by decide +kernel
theorem d_H_dealer_90 : decode y_H_dealer.2.1 90 = .ok (.iaload, 1) := by decide +kernel
theorem d_H_dealer_91 : decode y_H_dealer.2.1 91 = .ok (.ireturn, 1) := by decide +kernel
theorem d_H_dealer_92 : decode y_H_dealer.2.1 92 = .ok (.aload_n 0, 1) := by decide +kernel
theorem d_H_dealer_93 : decode y_H_dealer.2.1 93 = .ok (.getfield 19, 3) := by decide +kernel
theorem d_H_dealer_96 : decode y_H_dealer.2.1 96 = .ok (.getfield 134, 3) := by decide +kernel
theorem d_H_dealer_99 : decode y_H_dealer.2.1 99 = .ok (.iload_n 1, 1) := by decide +kernel
theorem d_H_dealer_100 : decode y_H_dealer.2.1 100 = .ok (.iaload, 1) := by decide +kernel
theorem d_H_dealer_101 : decode y_H_dealer.2.1 101 = .ok (.ireturn, 1) := by decide +kernel
theorem d_H_dealer_102 : decode y_H_dealer.2.1 102 = .ok (.aload_n 0, 1) := by decide +kernel
theorem d_H_dealer_103 : decode y_H_dealer.2.1 103 = .ok (.getfield 29, 3) := by decide +kernel
theorem d_H_dealer_106 : decode y_H_dealer.2.1 106 = .ok (.getfield 137, 3) := by decide +kernel
theorem d_H_dealer_109 : decode y_H_dealer.2.1 109 = .ok (.iload_n 1, 1) := by decide +kernel
theorem d_H_dealer_110 : decode y_H_dealer.2.1 110 = .ok (.iaload, 1) := by decide +kernel
theorem d_H_dealer_111 : decode y_H_dealer.2.1 111 = .ok (.ireturn, 1) := by decide +kernel
theorem d_H_dealer_112 : decode y_H_dealer.2.1 112 = .ok (.aload_n 0, 1) := by decide +kernel
theorem d_H_dealer_113 : decode y_H_dealer.2.1 113 = .ok (.getfield 19, 3) := by decide +kernel
theorem d_H_dealer_116 : decode y_H_dealer.2.1 116 = .ok (.getfield 140, 3) := by decide +kernel
theorem d_H_dealer_119 : decode y_H_dealer.2.1 119 = .ok (.iload_n 1, 1) := by decide +kernel
theorem d_H_dealer_120 : decode y_H_dealer.2.1 120 = .ok (.iaload, 1) := by decide +kernel
theorem d_H_dealer_121 : decode y_H_dealer.2.1 121 = .ok (.ireturn, 1) := by decide +kernel
theorem d_H_dealer_122 : decode y_H_dealer.2.1 122 = .ok (.aload_n 0, 1) := by decide +kernel
theorem d_H_dealer_123 : decode y_H_dealer.2.1 123 = .ok (.getfield 19, 3) := by decide +kernel
theorem d_H_dealer_126 : decode y_H_dealer.2.1 126 = .ok (.getfield 143, 3) := by decide +kernel
theorem d_H_dealer_129 : decode y_H_dealer.2.1 129 = .ok (.iload_n 1, 1) := by decide +kernel
theorem d_H_dealer_130 : decode y_H_dealer.2.1 130 = .ok (.iaload, 1) := by decide +kernel
theorem d_H_dealer_131 : decode y_H_dealer.2.1 131 = .ok (.ireturn, 1) := by decide +kernel
theorem d_H_dealer_132 : decode y_H_dealer.2.1 132 = .ok (.aload_n 0, 1) := by decide +kernel
theorem d_H_dealer_133 : decode y_H_dealer.2.1 133 = .ok (.getfield 29, 3) := by decide +kernel
theorem d_H_dealer_136 : decode y_H_dealer.2.1 136 = .ok (.getfield 146, 3) := by decide +kernel
theorem d_H_dealer_139 : decode y_H_dealer.2.1 139 = .ok (.iload_n 1, 1) := by decide +kernel
theorem d_H_dealer_140 : decode y_H_dealer.2.1 140 = .ok (.iaload, 1) := by decide +kernel
theorem d_H_dealer_141 : decode y_H_dealer.2.1 141 = .ok (.ireturn, 1) := by decide +kernel
theorem d_H_dealer_142 : decode y_H_dealer.2.1 142 = .ok (.aload_n 0, 1) := by decide +kernel
theorem d_H_dealer_143 : decode y_H_dealer.2.1 143 = .ok (.getfield 29, 3) := by decide +kernel
theorem d_H_dealer_146 : decode y_H_dealer.2.1 146 = .ok (.getfield 149, 3) := by decide +kernel
theorem d_H_dealer_149 : decode y_H_dealer.2.1 149 = .ok (.iload_n 1, 1) := by decide +kernel
theorem d_H_dealer_150 : decode y_H_dealer.2.1 150 = .ok (.iaload, 1) := by decide +kernel
theorem d_H_dealer_151 : decode y_H_dealer.2.1 151 = .ok (.ireturn, 1) := by decide +kernel
theorem d_H_dealer_152 : decode y_H_dealer.2.1 152 = .ok (.aload_n 0, 1) := by decide +kernel
theorem d_H_dealer_153 : decode y_H_dealer.2.1 153 = .ok (.getfield 29, 3) := by decide +kernel
theorem d_H_dealer_156 : decode y_H_dealer.2.1 156 = .ok (.getfield 152, 3) := by decide +kernel
theorem d_H_dealer_159 : decode y_H_dealer.2.1 159 = .ok (.iload_n 1, 1) := by decide +kernel
theorem d_H_dealer_160 : decode y_H_dealer.2.1 160 = .ok (.iaload, 1) := by decide +kernel
theorem d_H_dealer_161 : decode y_H_dealer.2.1 161 = .ok (.ireturn, 1) := by decide +kernel
theorem d_H_dealer_162 : decode y_H_dealer.2.1 162 = .ok (.aload_n 0, 1) := by decide +kernel
theorem d_H_dealer_163 : decode y_H_dealer.2.1 163 = .ok (.getfield 39, 3) := by decide +kernel
theorem d_H_dealer_166 : decode y_H_dealer.2.1 166 = .ok (.aload_n 0, 1) := by decide +kernel
theorem d_H_dealer_167 : decode y_H_dealer.2.1 167 = .ok (.getfield 19, 3) := by decide +kernel
theorem d_H_dealer_170 : decode y_H_dealer.2.1 170 = .ok (.aload_n 0, 1) := by decide +kernel
theorem d_H_dealer_171 : decode y_H_dealer.2.1 171 = .ok (.getfield 29, 3) := by decide +kernel
theorem d_H_dealer_174 : decode y_H_dealer.2.1 174 = .ok (.invokevirtual 155, 3) := by decide +kernel
theorem d_H_dealer_177 : decode y_H_dealer.2.1 177 = .ok (.aload_n 0, 1) := by decide +kernel
theorem d_H_dealer_178 : decode y_H_dealer.2.1 178 = .ok (.getfield 39, 3) := by decide +kernel
theorem d_H_dealer_181 : decode y_H_dealer.2.1 181 = .ok (.getfield 159, 3) := by decide +kernel
theorem d_H_dealer_184 : decode y_H_dealer.2.1 184 = .ok (.iload_n 1, 1) := by decide +kernel
theorem d_H_dealer_185 : decode y_H_dealer.2.1 185 = .ok (.iaload, 1) := by decide +kernel
theorem d_H_dealer_186 : decode y_H_dealer.2.1 186 = .ok (.ireturn, 1) := by decide +kernel
theorem d_H_dealer_187 : decode y_H_dealer.2.1 187 = .ok (.aload_n 0, 1) := by decide +kernel
theorem d_H_dealer_188 : decode y_H_dealer.2.1 188 = .ok (.getfield 29, 3) := by decide +kernel
theorem d_H_dealer_191 : decode y_H_dealer.2.1 191 = .ok (.aload_n 0, 1) := by decide +kernel
theorem d_H_dealer_192 : decode y_H_dealer.2.1 192 = .ok (.getfield 19, 3) := by decide +kernel
theorem d_H_dealer_195 : decode y_H_dealer.2.1 195 = .ok (.iload_n 1, 1) := by decide +kernel
theorem d_H_dealer_196 : decode y_H_dealer.2.1 196 = .ok (.invokevirtual 162, 3) := by decide +kernel
theorem d_H_dealer_199 : decode y_H_dealer.2.1 199 = .ok (.ireturn, 1) := by decide +kernel
theorem d_H_dealer_200 : decode y_H_dealer.2.1 200 = .ok (.bipush (-100), 2) := by decide +kernel
theorem d_H_dealer_202 : decode y_H_dealer.2.1 202 = .ok (.ireturn, 1) := by decide +kernel

abbrev y_H_heat : MI := (⟨"CricketHay", "heat", "()I"⟩, prog_1_method_7_code, 1, (some .int))
theorem hy_H_heat : y_H_heat.1.cls ≠ "java/lang/invoke/MethodHandle" ∧ y_H_heat.1.cls ≠ "java/lang/invoke/VarHandle" ∧ (parseMethodDescriptor y_H_heat.1.desc).map (fun d => d.parameters.length) = some 0 := by decide +kernel
theorem d_H_heat_0 : decode y_H_heat.2.1 0 = .ok (.aload_n 0, 1) := by decide +kernel
theorem d_H_heat_1 : decode y_H_heat.2.1 1 = .ok (.getfield 29, 3) := by decide +kernel
theorem d_H_heat_4 : decode y_H_heat.2.1 4 = .ok (.aload_n 0, 1) := by decide +kernel
theorem d_H_heat_5 : decode y_H_heat.2.1 5 = .ok (.getfield 19, 3) := by decide +kernel
theorem d_H_heat_8 : decode y_H_heat.2.1 8 = .ok (.invokevirtual 166, 3) := by decide +kernel
theorem d_H_heat_11 : decode y_H_heat.2.1 11 = .ok (.ireturn, 1) := by decide +kernel

abbrev y_H_areTwo : MI := (⟨"CricketHay", "areTwo", "(II)Z"⟩, prog_1_method_44_code, 3, (some .boolean))
theorem hy_H_areTwo : y_H_areTwo.1.cls ≠ "java/lang/invoke/MethodHandle" ∧ y_H_areTwo.1.cls ≠ "java/lang/invoke/VarHandle" ∧ (parseMethodDescriptor y_H_areTwo.1.desc).map (fun d => d.parameters.length) = some 2 := by decide +kernel
theorem d_H_areTwo_0 : decode y_H_areTwo.2.1 0 = .ok (.iload_n 1, 1) := by decide +kernel
theorem d_H_areTwo_1 : decode y_H_areTwo.2.1 1 = .ok (.iload_n 2, 1) := by decide +kernel
theorem d_H_areTwo_2 : decode y_H_areTwo.2.1 2 = .ok (.if_icmp .eq 29, 3) := by decide +kernel
theorem d_H_areTwo_5 : decode y_H_areTwo.2.1 5 = .ok (.aload_n 0, 1) := by decide +kernel
theorem d_H_areTwo_6 : decode y_H_areTwo.2.1 6 = .ok (.getfield 19, 3) := by decide +kernel
theorem d_H_areTwo_9 : decode y_H_areTwo.2.1 9 = .ok (.iload_n 1, 1) := by decide +kernel
theorem d_H_areTwo_10 : decode y_H_areTwo.2.1 10 = .ok (.invokevirtual 124, 3) := by decide +kernel
theorem d_H_areTwo_13 : decode y_H_areTwo.2.1 13 = .ok (.ifCond .eq 18, 3) := by decide +kernel
theorem d_H_areTwo_16 : decode y_H_areTwo.2.1 16 = .ok (.aload_n 0, 1) := by decide +kernel
theorem d_H_areTwo_17 : decode y_H_areTwo.2.1 17 = .ok (.getfield 19, 3) := by decide +kernel
theorem d_H_areTwo_20 : decode y_H_areTwo.2.1 20 = .ok (.iload_n 2, 1) := by decide +kernel
theorem d_H_areTwo_21 : decode y_H_areTwo.2.1 21 = .ok (.invokevirtual 124, 3) := by decide +kernel
theorem d_H_areTwo_24 : decode y_H_areTwo.2.1 24 = .ok (.ifCond .eq 7, 3) := by decide +kernel
theorem d_H_areTwo_27 : decode y_H_areTwo.2.1 27 = .ok (.iconst 1, 1) := by decide +kernel
theorem d_H_areTwo_28 : decode y_H_areTwo.2.1 28 = .ok (.goto 4, 3) := by decide +kernel
theorem d_H_areTwo_31 : decode y_H_areTwo.2.1 31 = .ok (.iconst 0, 1) := by decide +kernel
theorem d_H_areTwo_32 : decode y_H_areTwo.2.1 32 = .ok (.ireturn, 1) := by decide +kernel

abbrev y_Choir_half : MI := (⟨"CricketHay$Choir", "half", "(II)I"⟩, prog_4_method_3_code, 3, (some .int))
theorem hy_Choir_half : y_Choir_half.1.cls ≠ "java/lang/invoke/MethodHandle" ∧ y_Choir_half.1.cls ≠ "java/lang/invoke/VarHandle" ∧ (parseMethodDescriptor y_Choir_half.1.desc).map (fun d => d.parameters.length) = some 2 := by decide +kernel
theorem d_Choir_half_0 : decode y_Choir_half.2.1 0 = .ok (.aload_n 0, 1) := by decide +kernel
theorem d_Choir_half_1 : decode y_Choir_half.2.1 1 = .ok (.getfield 9, 3) := by decide +kernel
theorem d_Choir_half_4 : decode y_Choir_half.2.1 4 = .ok (.iload_n 1, 1) := by decide +kernel
theorem d_Choir_half_5 : decode y_Choir_half.2.1 5 = .ok (.iaload, 1) := by decide +kernel
theorem d_Choir_half_6 : decode y_Choir_half.2.1 6 = .ok (.aload_n 0, 1) := by decide +kernel
theorem d_Choir_half_7 : decode y_Choir_half.2.1 7 = .ok (.getfield 9, 3) := by decide +kernel
theorem d_Choir_half_10 : decode y_Choir_half.2.1 10 = .ok (.iload_n 2, 1) := by decide +kernel
theorem d_Choir_half_11 : decode y_Choir_half.2.1 11 = .ok (.iaload, 1) := by decide +kernel
theorem d_Choir_half_12 : decode y_Choir_half.2.1 12 = .ok (.iadd, 1) := by decide +kernel
theorem d_Choir_half_13 : decode y_Choir_half.2.1 13 = .ok (.iconst 2, 1) := by decide +kernel
theorem d_Choir_half_14 : decode y_Choir_half.2.1 14 = .ok (.idiv, 1) := by decide +kernel
theorem d_Choir_half_15 : decode y_Choir_half.2.1 15 = .ok (.ireturn, 1) := by decide +kernel

abbrev y_H_price : MI := (⟨"CricketHay", "price", "(II)I"⟩, prog_1_method_8_code, 3, (some .int))
theorem hy_H_price : y_H_price.1.cls ≠ "java/lang/invoke/MethodHandle" ∧ y_H_price.1.cls ≠ "java/lang/invoke/VarHandle" ∧ (parseMethodDescriptor y_H_price.1.desc).map (fun d => d.parameters.length) = some 2 := by decide +kernel
theorem d_H_price_0 : decode y_H_price.2.1 0 = .ok (.aload_n 0, 1) := by decide +kernel
theorem d_H_price_1 : decode y_H_price.2.1 1 = .ok (.iload_n 1, 1) := by decide +kernel
theorem d_H_price_2 : decode y_H_price.2.1 2 = .ok (.iload_n 2, 1) := by decide +kernel
theorem d_H_price_3 : decode y_H_price.2.1 3 = .ok (.invokevirtual 170, 3) := by decide +kernel
theorem d_H_price_6 : decode y_H_price.2.1 6 = .ok (.ifCond .ne 5, 3) := by decide +kernel
theorem d_H_price_9 : decode y_H_price.2.1 9 = .ok (.iconst (-1), 1) := by decide +kernel
theorem d_H_price_10 : decode y_H_price.2.1 10 = .ok (.ireturn, 1) := by decide +kernel
theorem d_H_price_11 : decode y_H_price.2.1 11 = .ok (.aload_n 0, 1) := by decide +kernel
theorem d_H_price_12 : decode y_H_price.2.1 12 = .ok (.getfield 39, 3) := by decide +kernel
theorem d_H_price_15 : decode y_H_price.2.1 15 = .ok (.aload_n 0, 1) := by decide +kernel
theorem d_H_price_16 : decode y_H_price.2.1 16 = .ok (.getfield 19, 3) := by decide +kernel
theorem d_H_price_19 : decode y_H_price.2.1 19 = .ok (.aload_n 0, 1) := by decide +kernel
theorem d_H_price_20 : decode y_H_price.2.1 20 = .ok (.getfield 29, 3) := by decide +kernel
theorem d_H_price_23 : decode y_H_price.2.1 23 = .ok (.invokevirtual 155, 3) := by decide +kernel
theorem d_H_price_26 : decode y_H_price.2.1 26 = .ok (.aload_n 0, 1) := by decide +kernel
theorem d_H_price_27 : decode y_H_price.2.1 27 = .ok (.getfield 39, 3) := by decide +kernel
theorem d_H_price_30 : decode y_H_price.2.1 30 = .ok (.iload_n 1, 1) := by decide +kernel
theorem d_H_price_31 : decode y_H_price.2.1 31 = .ok (.iload_n 2, 1) := by decide +kernel
theorem d_H_price_32 : decode y_H_price.2.1 32 = .ok (.invokevirtual 174, 3) := by decide +kernel
theorem d_H_price_35 : decode y_H_price.2.1 35 = .ok (.ireturn, 1) := by decide +kernel

abbrev y_H_canBuyOne : MI := (⟨"CricketHay", "canBuyOne", "(II)Z"⟩, prog_1_method_45_code, 3, (some .boolean))
theorem hy_H_canBuyOne : y_H_canBuyOne.1.cls ≠ "java/lang/invoke/MethodHandle" ∧ y_H_canBuyOne.1.cls ≠ "java/lang/invoke/VarHandle" ∧ (parseMethodDescriptor y_H_canBuyOne.1.desc).map (fun d => d.parameters.length) = some 2 := by decide +kernel
theorem d_H_canBuyOne_0 : decode y_H_canBuyOne.2.1 0 = .ok (.iload_n 2, 1) := by decide +kernel
theorem d_H_canBuyOne_1 : decode y_H_canBuyOne.2.1 1 = .ok (.iload_n 1, 1) := by decide +kernel
theorem d_H_canBuyOne_2 : decode y_H_canBuyOne.2.1 2 = .ok (.if_icmp .eq 40, 3) := by decide +kernel
theorem d_H_canBuyOne_5 : decode y_H_canBuyOne.2.1 5 = .ok (.aload_n 0, 1) := by decide +kernel
theorem d_H_canBuyOne_6 : decode y_H_canBuyOne.2.1 6 = .ok (.getfield 29, 3) := by decide +kernel
theorem d_H_canBuyOne_9 : decode y_H_canBuyOne.2.1 9 = .ok (.getfield 131, 3) := by decide +kernel
theorem d_H_canBuyOne_12 : decode y_H_canBuyOne.2.1 12 = .ok (.iload_n 2, 1) := by decide +kernel
theorem d_H_canBuyOne_13 : decode y_H_canBuyOne.2.1 13 = .ok (.iaload, 1) := by decide +kernel
theorem d_H_canBuyOne_14 : decode y_H_canBuyOne.2.1 14 = .ok (.ifCond .le 28, 3) := by decide +kernel
theorem d_H_canBuyOne_17 : decode y_H_canBuyOne.2.1 17 = .ok (.aload_n 0, 1) := by decide +kernel
theorem d_H_canBuyOne_18 : decode y_H_canBuyOne.2.1 18 = .ok (.getfield 39, 3) := by decide +kernel
theorem d_H_canBuyOne_21 : decode y_H_canBuyOne.2.1 21 = .ok (.iload_n 1, 1) := by decide +kernel
theorem d_H_canBuyOne_22 : decode y_H_canBuyOne.2.1 22 = .ok (.iload_n 2, 1) := by decide +kernel
theorem d_H_canBuyOne_23 : decode y_H_canBuyOne.2.1 23 = .ok (.invokevirtual 174, 3) := by decide +kernel
theorem d_H_canBuyOne_26 : decode y_H_canBuyOne.2.1 26 = .ok (.aload_n 0, 1) := by decide +kernel
theorem d_H_canBuyOne_27 : decode y_H_canBuyOne.2.1 27 = .ok (.getfield 29, 3) := by decide +kernel
theorem d_H_canBuyOne_30 : decode y_H_canBuyOne.2.1 30 = .ok (.getfield 128, 3) := by decide +kernel
theorem d_H_canBuyOne_33 : decode y_H_canBuyOne.2.1 33 = .ok (.iload_n 1, 1) := by decide +kernel
theorem d_H_canBuyOne_34 : decode y_H_canBuyOne.2.1 34 = .ok (.iaload, 1) := by decide +kernel
theorem d_H_canBuyOne_35 : decode y_H_canBuyOne.2.1 35 = .ok (.if_icmp .gt 7, 3) := by decide +kernel
theorem d_H_canBuyOne_38 : decode y_H_canBuyOne.2.1 38 = .ok (.iconst 1, 1) := by decide +kernel
theorem d_H_canBuyOne_39 : decode y_H_canBuyOne.2.1 39 = .ok (.goto 4, 3) := by decide +kernel
theorem d_H_canBuyOne_42 : decode y_H_canBuyOne.2.1 42 = .ok (.iconst 0, 1) := by decide +kernel
theorem d_H_canBuyOne_43 : decode y_H_canBuyOne.2.1 43 = .ok (.ireturn, 1) := by decide +kernel

abbrev y_H_cheapest : MI := (⟨"CricketHay", "cheapest", "(I)I"⟩, prog_1_method_9_code, 4, (some .int))
theorem hy_H_cheapest : y_H_cheapest.1.cls ≠ "java/lang/invoke/MethodHandle" ∧ y_H_cheapest.1.cls ≠ "java/lang/invoke/VarHandle" ∧ (parseMethodDescriptor y_H_cheapest.1.desc).map (fun d => d.parameters.length) = some 1 := by decide +kernel
theorem d_H_cheapest_0 : decode y_H_cheapest.2.1 0 = .ok (.aload_n 0, 1) := by decide +kernel
theorem d_H_cheapest_1 : decode y_H_cheapest.2.1 1 = .ok (.getfield 19, 3) := by decide +kernel
theorem d_H_cheapest_4 : decode y_H_cheapest.2.1 4 = .ok (.iload_n 1, 1) := by decide +kernel
theorem d_H_cheapest_5 : decode y_H_cheapest.2.1 5 = .ok (.invokevirtual 124, 3) := by decide +kernel
theorem d_H_cheapest_8 : decode y_H_cheapest.2.1 8 = .ok (.ifCond .ne 5, 3) := by decide +kernel
theorem d_H_cheapest_11 : decode y_H_cheapest.2.1 11 = .ok (.iconst (-1), 1) := by decide +kernel
theorem d_H_cheapest_12 : decode y_H_cheapest.2.1 12 = .ok (.ireturn, 1) := by decide +kernel
theorem d_H_cheapest_13 : decode y_H_cheapest.2.1 13 = .ok (.aload_n 0, 1) := by decide +kernel
theorem d_H_cheapest_14 : decode y_H_cheapest.2.1 14 = .ok (.getfield 39, 3) := by decide +kernel
theorem d_H_cheapest_17 : decode y_H_cheapest.2.1 17 = .ok (.aload_n 0, 1) := by decide +kernel
theorem d_H_cheapest_18 : decode y_H_cheapest.2.1 18 = .ok (.getfield 19, 3) := by decide +kernel
theorem d_H_cheapest_21 : decode y_H_cheapest.2.1 21 = .ok (.aload_n 0, 1) := by decide +kernel
theorem d_H_cheapest_22 : decode y_H_cheapest.2.1 22 = .ok (.getfield 29, 3) := by decide +kernel
theorem d_H_cheapest_25 : decode y_H_cheapest.2.1 25 = .ok (.invokevirtual 155, 3) := by decide +kernel
theorem d_H_cheapest_28 : decode y_H_cheapest.2.1 28 = .ok (.iconst (-1), 1) := by decide +kernel
theorem d_H_cheapest_29 : decode y_H_cheapest.2.1 29 = .ok (.istore_n 2, 1) := by decide +kernel
theorem d_H_cheapest_30 : decode y_H_cheapest.2.1 30 = .ok (.iconst 0, 1) := by decide +kernel
theorem d_H_cheapest_31 : decode y_H_cheapest.2.1 31 = .ok (.istore_n 3, 1) := by decide +kernel
theorem d_H_cheapest_32 : decode y_H_cheapest.2.1 32 = .ok (.iload_n 3, 1) := by decide +kernel
theorem d_H_cheapest_33 : decode y_H_cheapest.2.1 33 = .ok (.aload_n 0, 1) := by decide +kernel
theorem d_H_cheapest_34 : decode y_H_cheapest.2.1 34 = .ok (.getfield 19, 3) := by decide +kernel
theorem d_H_cheapest_37 : decode y_H_cheapest.2.1 37 = .ok (.getfield 115, 3) := by decide +kernel
theorem d_H_cheapest_40 : decode y_H_cheapest.2.1 40 = .ok (.if_icmp .ge 46, 3) := by decide +kernel
theorem d_H_cheapest_43 : decode y_H_cheapest.2.1 43 = .ok (.aload_n 0, 1) := by decide +kernel
theorem d_H_cheapest_44 : decode y_H_cheapest.2.1 44 = .ok (.iload_n 1, 1) := by decide +kernel
theorem d_H_cheapest_45 : decode y_H_cheapest.2.1 45 = .ok (.iload_n 3, 1) := by decide +kernel
theorem d_H_cheapest_46 : decode y_H_cheapest.2.1 46 = .ok (.invokevirtual 178, 3) := by decide +kernel
theorem d_H_cheapest_49 : decode y_H_cheapest.2.1 49 = .ok (.ifCond .eq 31, 3) := by decide +kernel
theorem d_H_cheapest_52 : decode y_H_cheapest.2.1 52 = .ok (.iload_n 2, 1) := by decide +kernel
theorem d_H_cheapest_53 : decode y_H_cheapest.2.1 53 = .ok (.iconst (-1), 1) := by decide +kernel
theorem d_H_cheapest_54 : decode y_H_cheapest.2.1 54 = .ok (.if_icmp .eq 24, 3) := by decide +kernel
theorem d_H_cheapest_57 : decode y_H_cheapest.2.1 57 = .ok (.aload_n 0, 1) := by decide +kernel
theorem d_H_cheapest_58 : decode y_H_cheapest.2.1 58 = .ok (.getfield 39, 3) := by decide +kernel
theorem d_H_cheapest_61 : decode y_H_cheapest.2.1 61 = .ok (.iload_n 1, 1) := by decide +kernel
theorem d_H_cheapest_62 : decode y_H_cheapest.2.1 62 = .ok (.iload_n 3, 1) := by decide +kernel
theorem d_H_cheapest_63 : decode y_H_cheapest.2.1 63 = .ok (.invokevirtual 174, 3) := by decide +kernel
theorem d_H_cheapest_66 : decode y_H_cheapest.2.1 66 = .ok (.aload_n 0, 1) := by decide +kernel
theorem d_H_cheapest_67 : decode y_H_cheapest.2.1 67 = .ok (.getfield 39, 3) := by decide +kernel
theorem d_H_cheapest_70 : decode y_H_cheapest.2.1 70 = .ok (.iload_n 1, 1) := by decide +kernel
theorem d_H_cheapest_71 : decode y_H_cheapest.2.1 71 = .ok (.iload_n 2, 1) := by decide +kernel
theorem d_H_cheapest_72 : decode y_H_cheapest.2.1 72 = .ok (.invokevirtual 174, 3) := by decide +kernel
theorem d_H_cheapest_75 : decode y_H_cheapest.2.1 75 = .ok (.if_icmp .ge 5, 3) := by decide +kernel
theorem d_H_cheapest_78 : decode y_H_cheapest.2.1 78 = .ok (.iload_n 3, 1) := by decide +kernel
theorem d_H_cheapest_79 : decode y_H_cheapest.2.1 79 = .ok (.istore_n 2, 1) := by decide +kernel
theorem d_H_cheapest_80 : decode y_H_cheapest.2.1 80 = .ok (.iinc 3 1, 3) := by decide +kernel
theorem d_H_cheapest_83 : decode y_H_cheapest.2.1 83 = .ok (.goto (-51), 3) := by decide +kernel
theorem d_H_cheapest_86 : decode y_H_cheapest.2.1 86 = .ok (.iload_n 2, 1) := by decide +kernel
theorem d_H_cheapest_87 : decode y_H_cheapest.2.1 87 = .ok (.ireturn, 1) := by decide +kernel

abbrev y_Choir_together : MI := (⟨"CricketHay$Choir", "together", "()I"⟩, prog_4_method_4_code, 3, (some .int))
theorem hy_Choir_together : y_Choir_together.1.cls ≠ "java/lang/invoke/MethodHandle" ∧ y_Choir_together.1.cls ≠ "java/lang/invoke/VarHandle" ∧ (parseMethodDescriptor y_Choir_together.1.desc).map (fun d => d.parameters.length) = some 0 := by decide +kernel
theorem d_Choir_together_0 : decode y_Choir_together.2.1 0 = .ok (.iconst 0, 1) := by decide +kernel
theorem d_Choir_together_1 : decode y_Choir_together.2.1 1 = .ok (.istore_n 1, 1) := by decide +kernel
theorem d_Choir_together_2 : decode y_Choir_together.2.1 2 = .ok (.iconst 0, 1) := by decide +kernel
theorem d_Choir_together_3 : decode y_Choir_together.2.1 3 = .ok (.istore_n 2, 1) := by decide +kernel
theorem d_Choir_together_4 : decode y_Choir_together.2.1 4 = .ok (.iload_n 2, 1) := by decide +kernel
theorem d_Choir_together_5 : decode y_Choir_together.2.1 5 = .ok (.aload_n 0, 1) := by decide +kernel
theorem d_Choir_together_6 : decode y_Choir_together.2.1 6 = .ok (.getfield 15, 3) := by decide +kernel
theorem d_Choir_together_9 : decode y_Choir_together.2.1 9 = .ok (.if_icmp .ge 18, 3) := by decide +kernel
theorem d_Choir_together_12 : decode y_Choir_together.2.1 12 = .ok (.iload_n 1, 1) := by decide +kernel
theorem d_Choir_together_13 : decode y_Choir_together.2.1 13 = .ok (.aload_n 0, 1) := by decide +kernel
theorem d_Choir_together_14 : decode y_Choir_together.2.1 14 = .ok (.getfield 9, 3) := by decide +kernel
theorem d_Choir_together_17 : decode y_Choir_together.2.1 17 = .ok (.iload_n 2, 1) := by decide +kernel
theorem d_Choir_together_18 : decode y_Choir_together.2.1 18 = .ok (.iaload, 1) := by decide +kernel
theorem d_Choir_together_19 : decode y_Choir_together.2.1 19 = .ok (.iadd, 1) := by decide +kernel
theorem d_Choir_together_20 : decode y_Choir_together.2.1 20 = .ok (.istore_n 1, 1) := by decide +kernel
theorem d_Choir_together_21 : decode y_Choir_together.2.1 21 = .ok (.iinc 2 1, 3) := by decide +kernel
theorem d_Choir_together_24 : decode y_Choir_together.2.1 24 = .ok (.goto (-20), 3) := by decide +kernel
theorem d_Choir_together_27 : decode y_Choir_together.2.1 27 = .ok (.iload_n 1, 1) := by decide +kernel
theorem d_Choir_together_28 : decode y_Choir_together.2.1 28 = .ok (.ireturn, 1) := by decide +kernel

abbrev y_H_chorus : MI := (⟨"CricketHay", "chorus", "()I"⟩, prog_1_method_10_code, 1, (some .int))
theorem hy_H_chorus : y_H_chorus.1.cls ≠ "java/lang/invoke/MethodHandle" ∧ y_H_chorus.1.cls ≠ "java/lang/invoke/VarHandle" ∧ (parseMethodDescriptor y_H_chorus.1.desc).map (fun d => d.parameters.length) = some 0 := by decide +kernel
theorem d_H_chorus_0 : decode y_H_chorus.2.1 0 = .ok (.aload_n 0, 1) := by decide +kernel
theorem d_H_chorus_1 : decode y_H_chorus.2.1 1 = .ok (.getfield 39, 3) := by decide +kernel
theorem d_H_chorus_4 : decode y_H_chorus.2.1 4 = .ok (.aload_n 0, 1) := by decide +kernel
theorem d_H_chorus_5 : decode y_H_chorus.2.1 5 = .ok (.getfield 19, 3) := by decide +kernel
theorem d_H_chorus_8 : decode y_H_chorus.2.1 8 = .ok (.aload_n 0, 1) := by decide +kernel
theorem d_H_chorus_9 : decode y_H_chorus.2.1 9 = .ok (.getfield 29, 3) := by decide +kernel
theorem d_H_chorus_12 : decode y_H_chorus.2.1 12 = .ok (.invokevirtual 155, 3) := by decide +kernel
theorem d_H_chorus_15 : decode y_H_chorus.2.1 15 = .ok (.aload_n 0, 1) := by decide +kernel
theorem d_H_chorus_16 : decode y_H_chorus.2.1 16 = .ok (.getfield 39, 3) := by decide +kernel
theorem d_H_chorus_19 : decode y_H_chorus.2.1 19 = .ok (.invokevirtual 181, 3) := by decide +kernel
theorem d_H_chorus_22 : decode y_H_chorus.2.1 22 = .ok (.ireturn, 1) := by decide +kernel

abbrev y_H_lasts : MI := (⟨"CricketHay", "lasts", "(I)I"⟩, prog_1_method_11_code, 2, (some .int))
theorem hy_H_lasts : y_H_lasts.1.cls ≠ "java/lang/invoke/MethodHandle" ∧ y_H_lasts.1.cls ≠ "java/lang/invoke/VarHandle" ∧ (parseMethodDescriptor y_H_lasts.1.desc).map (fun d => d.parameters.length) = some 1 := by decide +kernel
theorem d_H_lasts_0 : decode y_H_lasts.2.1 0 = .ok (.aload_n 0, 1) := by decide +kernel
theorem d_H_lasts_1 : decode y_H_lasts.2.1 1 = .ok (.getfield 19, 3) := by decide +kernel
theorem d_H_lasts_4 : decode y_H_lasts.2.1 4 = .ok (.iload_n 1, 1) := by decide +kernel
theorem d_H_lasts_5 : decode y_H_lasts.2.1 5 = .ok (.invokevirtual 124, 3) := by decide +kernel
theorem d_H_lasts_8 : decode y_H_lasts.2.1 8 = .ok (.ifCond .eq 15, 3) := by decide +kernel
theorem d_H_lasts_11 : decode y_H_lasts.2.1 11 = .ok (.aload_n 0, 1) := by decide +kernel
theorem d_H_lasts_12 : decode y_H_lasts.2.1 12 = .ok (.getfield 19, 3) := by decide +kernel
theorem d_H_lasts_15 : decode y_H_lasts.2.1 15 = .ok (.getfield 134, 3) := by decide +kernel
theorem d_H_lasts_18 : decode y_H_lasts.2.1 18 = .ok (.iload_n 1, 1) := by decide +kernel
theorem d_H_lasts_19 : decode y_H_lasts.2.1 19 = .ok (.iaload, 1) := by decide +kernel
theorem d_H_lasts_20 : decode y_H_lasts.2.1 20 = .ok (.ifCond .gt 5, 3) := by decide +kernel
theorem d_H_lasts_23 : decode y_H_lasts.2.1 23 = .ok (.iconst (-1), 1) := by decide +kernel
theorem d_H_lasts_24 : decode y_H_lasts.2.1 24 = .ok (.ireturn, 1) := by decide +kernel
theorem d_H_lasts_25 : decode y_H_lasts.2.1 25 = .ok (.aload_n 0, 1) := by decide +kernel
theorem d_H_lasts_26 : decode y_H_lasts.2.1 26 = .ok (.getfield 29, 3) := by decide +kernel
theorem d_H_lasts_29 : decode y_H_lasts.2.1 29 = .ok (.getfield 131, 3) := by decide +kernel
theorem d_H_lasts_32 : decode y_H_lasts.2.1 32 = .ok (.iload_n 1, 1) := by decide +kernel
theorem d_H_lasts_33 : decode y_H_lasts.2.1 33 = .ok (.iaload, 1) := by decide +kernel
theorem d_H_lasts_34 : decode y_H_lasts.2.1 34 = .ok (.aload_n 0, 1) := by decide +kernel
theorem d_H_lasts_35 : decode y_H_lasts.2.1 35 = .ok (.getfield 19, 3) := by decide +kernel
theorem d_H_lasts_38 : decode y_H_lasts.2.1 38 = .ok (.getfield 134, 3) := by decide +kernel
theorem d_H_lasts_41 : decode y_H_lasts.2.1 41 = .ok (.iload_n 1, 1) := by decide +kernel
theorem d_H_lasts_42 : decode y_H_lasts.2.1 42 = .ok (.iaload, 1) := by decide +kernel
theorem d_H_lasts_43 : decode y_H_lasts.2.1 43 = .ok (.idiv, 1) := by decide +kernel
theorem d_H_lasts_44 : decode y_H_lasts.2.1 44 = .ok (.ireturn, 1) := by decide +kernel

abbrev y_Acts_dropOldest : MI := (⟨"CricketHay$Acts", "dropOldest", "()V"⟩, prog_2_method_4_code, 3, none)
theorem hy_Acts_dropOldest : y_Acts_dropOldest.1.cls ≠ "java/lang/invoke/MethodHandle" ∧ y_Acts_dropOldest.1.cls ≠ "java/lang/invoke/VarHandle" ∧ (parseMethodDescriptor y_Acts_dropOldest.1.desc).map (fun d => d.parameters.length) = some 0 := by decide +kernel
theorem d_Acts_dropOldest_0 : decode y_Acts_dropOldest.2.1 0 = .ok (.aload_n 0, 1) := by decide +kernel
theorem d_Acts_dropOldest_1 : decode y_Acts_dropOldest.2.1 1 = .ok (.getfield 11, 3) := by decide +kernel
theorem d_Acts_dropOldest_4 : decode y_Acts_dropOldest.2.1 4 = .ok (.iconst 0, 1) := by decide +kernel
theorem d_Acts_dropOldest_5 : decode y_Acts_dropOldest.2.1 5 = .ok (.aaload, 1) := by decide +kernel
theorem d_Acts_dropOldest_6 : decode y_Acts_dropOldest.2.1 6 = .ok (.astore_n 1, 1) := by decide +kernel
theorem d_Acts_dropOldest_7 : decode y_Acts_dropOldest.2.1 7 = .ok (.iconst 1, 1) := by decide +kernel
theorem d_Acts_dropOldest_8 : decode y_Acts_dropOldest.2.1 8 = .ok (.istore_n 2, 1) := by decide +kernel
theorem d_Acts_dropOldest_9 : decode y_Acts_dropOldest.2.1 9 = .ok (.iload_n 2, 1) := by decide +kernel
theorem d_Acts_dropOldest_10 : decode y_Acts_dropOldest.2.1 10 = .ok (.aload_n 0, 1) := by decide +kernel
theorem d_Acts_dropOldest_11 : decode y_Acts_dropOldest.2.1 11 = .ok (.getfield 11, 3) := by decide +kernel
theorem d_Acts_dropOldest_14 : decode y_Acts_dropOldest.2.1 14 = .ok (.arraylength, 1) := by decide +kernel
theorem d_Acts_dropOldest_15 : decode y_Acts_dropOldest.2.1 15 = .ok (.if_icmp .ge 23, 3) := by decide +kernel
theorem d_Acts_dropOldest_18 : decode y_Acts_dropOldest.2.1 18 = .ok (.aload_n 0, 1) := by decide +kernel
theorem d_Acts_dropOldest_19 : decode y_Acts_dropOldest.2.1 19 = .ok (.getfield 11, 3) := by decide +kernel
theorem d_Acts_dropOldest_22 : decode y_Acts_dropOldest.2.1 22 = .ok (.iload_n 2, 1) := by decide +kernel
theorem d_Acts_dropOldest_23 : decode y_Acts_dropOldest.2.1 23 = .ok (.iconst 1, 1) := by decide +kernel
theorem d_Acts_dropOldest_24 : decode y_Acts_dropOldest.2.1 24 = .ok (.isub, 1) := by decide +kernel
theorem d_Acts_dropOldest_25 : decode y_Acts_dropOldest.2.1 25 = .ok (.aload_n 0, 1) := by decide +kernel
theorem d_Acts_dropOldest_26 : decode y_Acts_dropOldest.2.1 26 = .ok (.getfield 11, 3) := by decide +kernel
theorem d_Acts_dropOldest_29 : decode y_Acts_dropOldest.2.1 29 = .ok (.iload_n 2, 1) := by decide +kernel
theorem d_Acts_dropOldest_30 : decode y_Acts_dropOldest.2.1 30 = .ok (.aaload, 1) := by decide +kernel
theorem d_Acts_dropOldest_31 : decode y_Acts_dropOldest.2.1 31 = .ok (.aastore, 1) := by decide +kernel
theorem d_Acts_dropOldest_32 : decode y_Acts_dropOldest.2.1 32 = .ok (.iinc 2 1, 3) := by decide +kernel
theorem d_Acts_dropOldest_35 : decode y_Acts_dropOldest.2.1 35 = .ok (.goto (-26), 3) := by decide +kernel
theorem d_Acts_dropOldest_38 : decode y_Acts_dropOldest.2.1 38 = .ok (.aload_n 0, 1) := by decide +kernel
theorem d_Acts_dropOldest_39 : decode y_Acts_dropOldest.2.1 39 = .ok (.getfield 11, 3) := by decide +kernel
theorem d_Acts_dropOldest_42 : decode y_Acts_dropOldest.2.1 42 = .ok (.aload_n 0, 1) := by decide +kernel
theorem d_Acts_dropOldest_43 : decode y_Acts_dropOldest.2.1 43 = .ok (.getfield 11, 3) := by decide +kernel
theorem d_Acts_dropOldest_46 : decode y_Acts_dropOldest.2.1 46 = .ok (.arraylength, 1) := by decide +kernel
theorem d_Acts_dropOldest_47 : decode y_Acts_dropOldest.2.1 47 = .ok (.iconst 1, 1) := by decide +kernel
theorem d_Acts_dropOldest_48 : decode y_Acts_dropOldest.2.1 48 = .ok (.isub, 1) := by decide +kernel
theorem d_Acts_dropOldest_49 : decode y_Acts_dropOldest.2.1 49 = .ok (.aload_n 1, 1) := by decide +kernel
theorem d_Acts_dropOldest_50 : decode y_Acts_dropOldest.2.1 50 = .ok (.aastore, 1) := by decide +kernel
theorem d_Acts_dropOldest_51 : decode y_Acts_dropOldest.2.1 51 = .ok (.aload_n 0, 1) := by decide +kernel
theorem d_Acts_dropOldest_52 : decode y_Acts_dropOldest.2.1 52 = .ok (.dup, 1) := by decide +kernel
theorem d_Acts_dropOldest_53 : decode y_Acts_dropOldest.2.1 53 = .ok (.getfield 17, 3) := by decide +kernel
theorem d_Acts_dropOldest_56 : decode y_Acts_dropOldest.2.1 56 = .ok (.iconst 1, 1) := by decide +kernel
theorem d_Acts_dropOldest_57 : decode y_Acts_dropOldest.2.1 57 = .ok (.isub, 1) := by decide +kernel
theorem d_Acts_dropOldest_58 : decode y_Acts_dropOldest.2.1 58 = .ok (.putfield 17, 3) := by decide +kernel
theorem d_Acts_dropOldest_61 : decode y_Acts_dropOldest.2.1 61 = .ok (.return_, 1) := by decide +kernel

abbrev y_Yard_copy : MI := (⟨"CricketHay$Yard", "copy", "(LCricketHay$Yard;)V"⟩, prog_12_method_3_code, 2, none)
theorem hy_Yard_copy : y_Yard_copy.1.cls ≠ "java/lang/invoke/MethodHandle" ∧ y_Yard_copy.1.cls ≠ "java/lang/invoke/VarHandle" ∧ (parseMethodDescriptor y_Yard_copy.1.desc).map (fun d => d.parameters.length) = some 1 := by decide +kernel
theorem d_Yard_copy_0 : decode y_Yard_copy.2.1 0 = .ok (.aload_n 1, 1) := by decide +kernel
theorem d_Yard_copy_1 : decode y_Yard_copy.2.1 1 = .ok (.getfield 9, 3) := by decide +kernel
theorem d_Yard_copy_4 : decode y_Yard_copy.2.1 4 = .ok (.iconst 0, 1) := by decide +kernel
theorem d_Yard_copy_5 : decode y_Yard_copy.2.1 5 = .ok (.aload_n 0, 1) := by decide +kernel
theorem d_Yard_copy_6 : decode y_Yard_copy.2.1 6 = .ok (.getfield 9, 3) := by decide +kernel
theorem d_Yard_copy_9 : decode y_Yard_copy.2.1 9 = .ok (.iconst 0, 1) := by decide +kernel
theorem d_Yard_copy_10 : decode y_Yard_copy.2.1 10 = .ok (.bipush 6, 2) := by decide +kernel
theorem d_Yard_copy_12 : decode y_Yard_copy.2.1 12 = .ok (.invokestatic 51, 3) := by decide +kernel
theorem d_Yard_copy_15 : decode y_Yard_copy.2.1 15 = .ok (.aload_n 1, 1) := by decide +kernel
theorem d_Yard_copy_16 : decode y_Yard_copy.2.1 16 = .ok (.getfield 15, 3) := by decide +kernel
theorem d_Yard_copy_19 : decode y_Yard_copy.2.1 19 = .ok (.iconst 0, 1) := by decide +kernel
theorem d_Yard_copy_20 : decode y_Yard_copy.2.1 20 = .ok (.aload_n 0, 1) := by decide +kernel
theorem d_Yard_copy_21 : decode y_Yard_copy.2.1 21 = .ok (.getfield 15, 3) := by decide +kernel
theorem d_Yard_copy_24 : decode y_Yard_copy.2.1 24 = .ok (.iconst 0, 1) := by decide +kernel
theorem d_Yard_copy_25 : decode y_Yard_copy.2.1 25 = .ok (.bipush 6, 2) := by decide +kernel
theorem d_Yard_copy_27 : decode y_Yard_copy.2.1 27 = .ok (.invokestatic 51, 3) := by decide +kernel
theorem d_Yard_copy_30 : decode y_Yard_copy.2.1 30 = .ok (.aload_n 1, 1) := by decide +kernel
theorem d_Yard_copy_31 : decode y_Yard_copy.2.1 31 = .ok (.getfield 18, 3) := by decide +kernel
theorem d_Yard_copy_34 : decode y_Yard_copy.2.1 34 = .ok (.iconst 0, 1) := by decide +kernel
theorem d_Yard_copy_35 : decode y_Yard_copy.2.1 35 = .ok (.aload_n 0, 1) := by decide +kernel
theorem d_Yard_copy_36 : decode y_Yard_copy.2.1 36 = .ok (.getfield 18, 3) := by decide +kernel
theorem d_Yard_copy_39 : decode y_Yard_copy.2.1 39 = .ok (.iconst 0, 1) := by decide +kernel
theorem d_Yard_copy_40 : decode y_Yard_copy.2.1 40 = .ok (.bipush 6, 2) := by decide +kernel
theorem d_Yard_copy_42 : decode y_Yard_copy.2.1 42 = .ok (.invokestatic 51, 3) := by decide +kernel
theorem d_Yard_copy_45 : decode y_Yard_copy.2.1 45 = .ok (.aload_n 1, 1) := by decide +kernel
theorem d_Yard_copy_46 : decode y_Yard_copy.2.1 46 = .ok (.getfield 21, 3) := by decide +kernel
theorem d_Yard_copy_49 : decode y_Yard_copy.2.1 49 = .ok (.iconst 0, 1) := by decide +kernel
theorem d_Yard_copy_50 : decode y_Yard_copy.2.1 50 = .ok (.aload_n 0, 1) := by decide +kernel
theorem d_Yard_copy_51 : decode y_Yard_copy.2.1 51 = .ok (.getfield 21, 3) := by decide +kernel
theorem d_Yard_copy_54 : decode y_Yard_copy.2.1 54 = .ok (.iconst 0, 1) := by decide +kernel
theorem d_Yard_copy_55 : decode y_Yard_copy.2.1 55 = .ok (.bipush 6, 2) := by decide +kernel
theorem d_Yard_copy_57 : decode y_Yard_copy.2.1 57 = .ok (.invokestatic 51, 3) := by decide +kernel
theorem d_Yard_copy_60 : decode y_Yard_copy.2.1 60 = .ok (.aload_n 1, 1) := by decide +kernel
theorem d_Yard_copy_61 : decode y_Yard_copy.2.1 61 = .ok (.getfield 24, 3) := by decide +kernel
theorem d_Yard_copy_64 : decode y_Yard_copy.2.1 64 = .ok (.iconst 0, 1) := by decide +kernel
theorem d_Yard_copy_65 : decode y_Yard_copy.2.1 65 = .ok (.aload_n 0, 1) := by decide +kernel
theorem d_Yard_copy_66 : decode y_Yard_copy.2.1 66 = .ok (.getfield 24, 3) := by decide +kernel
theorem d_Yard_copy_69 : decode y_Yard_copy.2.1 69 = .ok (.iconst 0, 1) := by decide +kernel
theorem d_Yard_copy_70 : decode y_Yard_copy.2.1 70 = .ok (.bipush 6, 2) := by decide +kernel
theorem d_Yard_copy_72 : decode y_Yard_copy.2.1 72 = .ok (.invokestatic 51, 3) := by decide +kernel
theorem d_Yard_copy_75 : decode y_Yard_copy.2.1 75 = .ok (.aload_n 1, 1) := by decide +kernel
theorem d_Yard_copy_76 : decode y_Yard_copy.2.1 76 = .ok (.getfield 27, 3) := by decide +kernel
theorem d_Yard_copy_79 : decode y_Yard_copy.2.1 79 = .ok (.iconst 0, 1) := by decide +kernel
theorem d_Yard_copy_80 : decode y_Yard_copy.2.1 80 = .ok (.aload_n 0, 1) := by decide +kernel
theorem d_Yard_copy_81 : decode y_Yard_copy.2.1 81 = .ok (.getfield 27, 3) := by decide +kernel
theorem d_Yard_copy_84 : decode y_Yard_copy.2.1 84 = .ok (.iconst 0, 1) := by decide +kernel
theorem d_Yard_copy_85 : decode y_Yard_copy.2.1 85 = .ok (.bipush 6, 2) := by decide +kernel
theorem d_Yard_copy_87 : decode y_Yard_copy.2.1 87 = .ok (.invokestatic 51, 3) := by decide +kernel
theorem d_Yard_copy_90 : decode y_Yard_copy.2.1 90 = .ok (.aload_n 0, 1) := by decide +kernel
theorem d_Yard_copy_91 : decode y_Yard_copy.2.1 91 = .ok (.aload_n 1, 1) := by decide +kernel
theorem d_Yard_copy_92 : decode y_Yard_copy.2.1 92 = .ok (.getfield 30, 3) := by decide +kernel
theorem d_Yard_copy_95 : decode y_Yard_copy.2.1 95 = .ok (.putfield 30, 3) := by decide +kernel
theorem d_Yard_copy_98 : decode y_Yard_copy.2.1 98 = .ok (.aload_n 0, 1) := by decide +kernel
theorem d_Yard_copy_99 : decode y_Yard_copy.2.1 99 = .ok (.aload_n 1, 1) := by decide +kernel
theorem d_Yard_copy_100 : decode y_Yard_copy.2.1 100 = .ok (.getfield 34, 3) := by decide +kernel
theorem d_Yard_copy_103 : decode y_Yard_copy.2.1 103 = .ok (.putfield 34, 3) := by decide +kernel
theorem d_Yard_copy_106 : decode y_Yard_copy.2.1 106 = .ok (.aload_n 0, 1) := by decide +kernel
theorem d_Yard_copy_107 : decode y_Yard_copy.2.1 107 = .ok (.aload_n 1, 1) := by decide +kernel
theorem d_Yard_copy_108 : decode y_Yard_copy.2.1 108 = .ok (.getfield 37, 3) := by decide +kernel
theorem d_Yard_copy_111 : decode y_Yard_copy.2.1 111 = .ok (.putfield 37, 3) := by decide +kernel
theorem d_Yard_copy_114 : decode y_Yard_copy.2.1 114 = .ok (.aload_n 0, 1) := by decide +kernel
theorem d_Yard_copy_115 : decode y_Yard_copy.2.1 115 = .ok (.aload_n 1, 1) := by decide +kernel
theorem d_Yard_copy_116 : decode y_Yard_copy.2.1 116 = .ok (.getfield 40, 3) := by decide +kernel
theorem d_Yard_copy_119 : decode y_Yard_copy.2.1 119 = .ok (.putfield 40, 3) := by decide +kernel
theorem d_Yard_copy_122 : decode y_Yard_copy.2.1 122 = .ok (.return_, 1) := by decide +kernel

abbrev y_Acts_keep : MI := (⟨"CricketHay$Acts", "keep", "(LCricketHay$Yard;)V"⟩, prog_2_method_3_code, 2, none)
theorem hy_Acts_keep : y_Acts_keep.1.cls ≠ "java/lang/invoke/MethodHandle" ∧ y_Acts_keep.1.cls ≠ "java/lang/invoke/VarHandle" ∧ (parseMethodDescriptor y_Acts_keep.1.desc).map (fun d => d.parameters.length) = some 1 := by decide +kernel
theorem d_Acts_keep_0 : decode y_Acts_keep.2.1 0 = .ok (.aload_n 0, 1) := by decide +kernel
theorem d_Acts_keep_1 : decode y_Acts_keep.2.1 1 = .ok (.getfield 17, 3) := by decide +kernel
theorem d_Acts_keep_4 : decode y_Acts_keep.2.1 4 = .ok (.bipush 40, 2) := by decide +kernel
theorem d_Acts_keep_6 : decode y_Acts_keep.2.1 6 = .ok (.if_icmp .lt 7, 3) := by decide +kernel
theorem d_Acts_keep_9 : decode y_Acts_keep.2.1 9 = .ok (.aload_n 0, 1) := by decide +kernel
theorem d_Acts_keep_10 : decode y_Acts_keep.2.1 10 = .ok (.invokevirtual 25, 3) := by decide +kernel
theorem d_Acts_keep_13 : decode y_Acts_keep.2.1 13 = .ok (.aload_n 0, 1) := by decide +kernel
theorem d_Acts_keep_14 : decode y_Acts_keep.2.1 14 = .ok (.getfield 11, 3) := by decide +kernel
theorem d_Acts_keep_17 : decode y_Acts_keep.2.1 17 = .ok (.aload_n 0, 1) := by decide +kernel
theorem d_Acts_keep_18 : decode y_Acts_keep.2.1 18 = .ok (.getfield 17, 3) := by decide +kernel
theorem d_Acts_keep_21 : decode y_Acts_keep.2.1 21 = .ok (.aaload, 1) := by decide +kernel
theorem d_Acts_keep_22 : decode y_Acts_keep.2.1 22 = .ok (.aload_n 1, 1) := by decide +kernel
theorem d_Acts_keep_23 : decode y_Acts_keep.2.1 23 = .ok (.invokevirtual 28, 3) := by decide +kernel
theorem d_Acts_keep_26 : decode y_Acts_keep.2.1 26 = .ok (.aload_n 0, 1) := by decide +kernel
theorem d_Acts_keep_27 : decode y_Acts_keep.2.1 27 = .ok (.dup, 1) := by decide +kernel
theorem d_Acts_keep_28 : decode y_Acts_keep.2.1 28 = .ok (.getfield 17, 3) := by decide +kernel
theorem d_Acts_keep_31 : decode y_Acts_keep.2.1 31 = .ok (.iconst 1, 1) := by decide +kernel
theorem d_Acts_keep_32 : decode y_Acts_keep.2.1 32 = .ok (.iadd, 1) := by decide +kernel
theorem d_Acts_keep_33 : decode y_Acts_keep.2.1 33 = .ok (.putfield 17, 3) := by decide +kernel
theorem d_Acts_keep_36 : decode y_Acts_keep.2.1 36 = .ok (.aload_n 0, 1) := by decide +kernel
theorem d_Acts_keep_37 : decode y_Acts_keep.2.1 37 = .ok (.iconst 0, 1) := by decide +kernel
theorem d_Acts_keep_38 : decode y_Acts_keep.2.1 38 = .ok (.putfield 21, 3) := by decide +kernel
theorem d_Acts_keep_41 : decode y_Acts_keep.2.1 41 = .ok (.return_, 1) := by decide +kernel

abbrev y_H_buy : MI := (⟨"CricketHay", "buy", "(III)I"⟩, prog_1_method_12_code, 5, (some .int))
theorem hy_H_buy : y_H_buy.1.cls ≠ "java/lang/invoke/MethodHandle" ∧ y_H_buy.1.cls ≠ "java/lang/invoke/VarHandle" ∧ (parseMethodDescriptor y_H_buy.1.desc).map (fun d => d.parameters.length) = some 3 := by decide +kernel
theorem d_H_buy_0 : decode y_H_buy.2.1 0 = .ok (.aload_n 0, 1) := by decide +kernel
theorem d_H_buy_1 : decode y_H_buy.2.1 1 = .ok (.iload_n 1, 1) := by decide +kernel
theorem d_H_buy_2 : decode y_H_buy.2.1 2 = .ok (.iload_n 2, 1) := by decide +kernel
theorem d_H_buy_3 : decode y_H_buy.2.1 3 = .ok (.invokevirtual 170, 3) := by decide +kernel
theorem d_H_buy_6 : decode y_H_buy.2.1 6 = .ok (.ifCond .eq 32, 3) := by decide +kernel
theorem d_H_buy_9 : decode y_H_buy.2.1 9 = .ok (.iload_n 3, 1) := by decide +kernel
theorem d_H_buy_10 : decode y_H_buy.2.1 10 = .ok (.iconst 1, 1) := by decide +kernel
theorem d_H_buy_11 : decode y_H_buy.2.1 11 = .ok (.if_icmp .lt 27, 3) := by decide +kernel
theorem d_H_buy_14 : decode y_H_buy.2.1 14 = .ok (.iload_n 3, 1) := by decide +kernel
theorem d_H_buy_15 : decode y_H_buy.2.1 15 = .ok (.aload_n 0, 1) := by decide +kernel
theorem d_H_buy_16 : decode y_H_buy.2.1 16 = .ok (.getfield 19, 3) := by decide +kernel
theorem d_H_buy_19 : decode y_H_buy.2.1 19 = .ok (.getfield 185, 3) := by decide +kernel
theorem d_H_buy_22 : decode y_H_buy.2.1 22 = .ok (.if_icmp .gt 16, 3) := by decide +kernel
theorem d_H_buy_25 : decode y_H_buy.2.1 25 = .ok (.iload_n 3, 1) := by decide +kernel
theorem d_H_buy_26 : decode y_H_buy.2.1 26 = .ok (.aload_n 0, 1) := by decide +kernel
theorem d_H_buy_27 : decode y_H_buy.2.1 27 = .ok (.getfield 29, 3) := by decide +kernel
theorem d_H_buy_30 : decode y_H_buy.2.1 30 = .ok (.getfield 131, 3) := by decide +kernel
theorem d_H_buy_33 : decode y_H_buy.2.1 33 = .ok (.iload_n 2, 1) := by decide +kernel
theorem d_H_buy_34 : decode y_H_buy.2.1 34 = .ok (.iaload, 1) := by decide +kernel
theorem d_H_buy_35 : decode y_H_buy.2.1 35 = .ok (.if_icmp .le 5, 3) := by decide +kernel
theorem d_H_buy_38 : decode y_H_buy.2.1 38 = .ok (.iconst (-1), 1) := by decide +kernel
theorem d_H_buy_39 : decode y_H_buy.2.1 39 = .ok (.ireturn, 1) := by decide +kernel
theorem d_H_buy_40 : decode y_H_buy.2.1 40 = .ok (.aload_n 0, 1) := by decide +kernel
theorem d_H_buy_41 : decode y_H_buy.2.1 41 = .ok (.getfield 39, 3) := by decide +kernel
theorem d_H_buy_44 : decode y_H_buy.2.1 44 = .ok (.aload_n 0, 1) := by decide +kernel
theorem d_H_buy_45 : decode y_H_buy.2.1 45 = .ok (.getfield 19, 3) := by decide +kernel
theorem d_H_buy_48 : decode y_H_buy.2.1 48 = .ok (.aload_n 0, 1) := by decide +kernel
theorem d_H_buy_49 : decode y_H_buy.2.1 49 = .ok (.getfield 29, 3) := by decide +kernel
theorem d_H_buy_52 : decode y_H_buy.2.1 52 = .ok (.invokevirtual 155, 3) := by decide +kernel
theorem d_H_buy_55 : decode y_H_buy.2.1 55 = .ok (.iload_n 3, 1) := by decide +kernel
theorem d_H_buy_56 : decode y_H_buy.2.1 56 = .ok (.aload_n 0, 1) := by decide +kernel
theorem d_H_buy_57 : decode y_H_buy.2.1 57 = .ok (.getfield 39, 3) := by decide +kernel
theorem d_H_buy_60 : decode y_H_buy.2.1 60 = .ok (.iload_n 1, 1) := by decide +kernel
theorem d_H_buy_61 : decode y_H_buy.2.1 61 = .ok (.iload_n 2, 1) := by decide +kernel
theorem d_H_buy_62 : decode y_H_buy.2.1 62 = .ok (.invokevirtual 174, 3) := by decide +kernel
theorem d_H_buy_65 : decode y_H_buy.2.1 65 = .ok (.imul, 1) := by decide +kernel
theorem d_H_buy_66 : decode y_H_buy.2.1 66 = .ok (.istore 4, 2) := by decide +kernel
theorem d_H_buy_68 : decode y_H_buy.2.1 68 = .ok (.iload 4, 2) := by decide +kernel
theorem d_H_buy_70 : decode y_H_buy.2.1 70 = .ok (.aload_n 0, 1) := by decide +kernel
theorem d_H_buy_71 : decode y_H_buy.2.1 71 = .ok (.getfield 29, 3) := by decide +kernel
theorem d_H_buy_74 : decode y_H_buy.2.1 74 = .ok (.getfield 128, 3) := by decide +kernel
theorem d_H_buy_77 : decode y_H_buy.2.1 77 = .ok (.iload_n 1, 1) := by decide +kernel
theorem d_H_buy_78 : decode y_H_buy.2.1 78 = .ok (.iaload, 1) := by decide +kernel
theorem d_H_buy_79 : decode y_H_buy.2.1 79 = .ok (.if_icmp .le 5, 3) := by decide +kernel
theorem d_H_buy_82 : decode y_H_buy.2.1 82 = .ok (.iconst (-1), 1) := by decide +kernel
theorem d_H_buy_83 : decode y_H_buy.2.1 83 = .ok (.ireturn, 1) := by decide +kernel
theorem d_H_buy_84 : decode y_H_buy.2.1 84 = .ok (.aload_n 0, 1) := by decide +kernel
theorem d_H_buy_85 : decode y_H_buy.2.1 85 = .ok (.getfield 46, 3) := by decide +kernel
theorem d_H_buy_88 : decode y_H_buy.2.1 88 = .ok (.aload_n 0, 1) := by decide +kernel
theorem d_H_buy_89 : decode y_H_buy.2.1 89 = .ok (.getfield 29, 3) := by decide +kernel
theorem d_H_buy_92 : decode y_H_buy.2.1 92 = .ok (.invokevirtual 188, 3) := by decide +kernel
theorem d_H_buy_95 : decode y_H_buy.2.1 95 = .ok (.aload_n 0, 1) := by decide +kernel
theorem d_H_buy_96 : decode y_H_buy.2.1 96 = .ok (.getfield 29, 3) := by decide +kernel
theorem d_H_buy_99 : decode y_H_buy.2.1 99 = .ok (.getfield 128, 3) := by decide +kernel
theorem d_H_buy_102 : decode y_H_buy.2.1 102 = .ok (.iload_n 1, 1) := by decide +kernel
theorem d_H_buy_103 : decode y_H_buy.2.1 103 = .ok (.dup2, 1) := by decide +kernel
theorem d_H_buy_104 : decode y_H_buy.2.1 104 = .ok (.iaload, 1) := by decide +kernel
theorem d_H_buy_105 : decode y_H_buy.2.1 105 = .ok (.iload 4, 2) := by decide +kernel
theorem d_H_buy_107 : decode y_H_buy.2.1 107 = .ok (.isub, 1) := by decide +kernel
theorem d_H_buy_108 : decode y_H_buy.2.1 108 = .ok (.iastore, 1) := by decide +kernel
theorem d_H_buy_109 : decode y_H_buy.2.1 109 = .ok (.aload_n 0, 1) := by decide +kernel
theorem d_H_buy_110 : decode y_H_buy.2.1 110 = .ok (.getfield 29, 3) := by decide +kernel
theorem d_H_buy_113 : decode y_H_buy.2.1 113 = .ok (.getfield 128, 3) := by decide +kernel
theorem d_H_buy_116 : decode y_H_buy.2.1 116 = .ok (.iload_n 2, 1) := by decide +kernel
theorem d_H_buy_117 : decode y_H_buy.2.1 117 = .ok (.dup2, 1) := by decide +kernel
theorem d_H_buy_118 : decode y_H_buy.2.1 118 = .ok (.iaload, 1) := by decide +kernel
theorem d_H_buy_119 : decode y_H_buy.2.1 119 = .ok (.iload 4, 2) := by decide +kernel
theorem d_H_buy_121 : decode y_H_buy.2.1 121 = .ok (.iadd, 1) := by decide +kernel
theorem d_H_buy_122 : decode y_H_buy.2.1 122 = .ok (.iastore, 1) := by decide +kernel
theorem d_H_buy_123 : decode y_H_buy.2.1 123 = .ok (.aload_n 0, 1) := by decide +kernel
theorem d_H_buy_124 : decode y_H_buy.2.1 124 = .ok (.getfield 29, 3) := by decide +kernel
theorem d_H_buy_127 : decode y_H_buy.2.1 127 = .ok (.getfield 131, 3) := by decide +kernel
theorem d_H_buy_130 : decode y_H_buy.2.1 130 = .ok (.iload_n 1, 1) := by decide +kernel
theorem d_H_buy_131 : decode y_H_buy.2.1 131 = .ok (.dup2, 1) := by decide +kernel
theorem d_H_buy_132 : decode y_H_buy.2.1 132 = .ok (.iaload, 1) := by decide +kernel
theorem d_H_buy_133 : decode y_H_buy.2.1 133 = .ok (.iload_n 3, 1) := by decide +kernel
theorem d_H_buy_134 : decode y_H_buy.2.1 134 = .ok (.iadd, 1) := by decide +kernel
theorem d_H_buy_135 : decode y_H_buy.2.1 135 = .ok (.iastore, 1) := by decide +kernel
theorem d_H_buy_136 : decode y_H_buy.2.1 136 = .ok (.aload_n 0, 1) := by decide +kernel
theorem d_H_buy_137 : decode y_H_buy.2.1 137 = .ok (.getfield 29, 3) := by decide +kernel
theorem d_H_buy_140 : decode y_H_buy.2.1 140 = .ok (.getfield 131, 3) := by decide +kernel
theorem d_H_buy_143 : decode y_H_buy.2.1 143 = .ok (.iload_n 2, 1) := by decide +kernel
theorem d_H_buy_144 : decode y_H_buy.2.1 144 = .ok (.dup2, 1) := by decide +kernel
theorem d_H_buy_145 : decode y_H_buy.2.1 145 = .ok (.iaload, 1) := by decide +kernel
theorem d_H_buy_146 : decode y_H_buy.2.1 146 = .ok (.iload_n 3, 1) := by decide +kernel
theorem d_H_buy_147 : decode y_H_buy.2.1 147 = .ok (.isub, 1) := by decide +kernel
theorem d_H_buy_148 : decode y_H_buy.2.1 148 = .ok (.iastore, 1) := by decide +kernel
theorem d_H_buy_149 : decode y_H_buy.2.1 149 = .ok (.iload 4, 2) := by decide +kernel
theorem d_H_buy_151 : decode y_H_buy.2.1 151 = .ok (.ireturn, 1) := by decide +kernel

abbrev y_H_breathe : MI := (⟨"CricketHay", "breathe", "(II)I"⟩, prog_1_method_13_code, 4, (some .int))
theorem hy_H_breathe : y_H_breathe.1.cls ≠ "java/lang/invoke/MethodHandle" ∧ y_H_breathe.1.cls ≠ "java/lang/invoke/VarHandle" ∧ (parseMethodDescriptor y_H_breathe.1.desc).map (fun d => d.parameters.length) = some 2 := by decide +kernel
theorem d_H_breathe_0 : decode y_H_breathe.2.1 0 = .ok (.aload_n 0, 1) := by decide +kernel
theorem d_H_breathe_1 : decode y_H_breathe.2.1 1 = .ok (.getfield 19, 3) := by decide +kernel
theorem d_H_breathe_4 : decode y_H_breathe.2.1 4 = .ok (.iload_n 1, 1) := by decide +kernel
theorem d_H_breathe_5 : decode y_H_breathe.2.1 5 = .ok (.invokevirtual 124, 3) := by decide +kernel
theorem d_H_breathe_8 : decode y_H_breathe.2.1 8 = .ok (.ifCond .eq 39, 3) := by decide +kernel
theorem d_H_breathe_11 : decode y_H_breathe.2.1 11 = .ok (.aload_n 0, 1) := by decide +kernel
theorem d_H_breathe_12 : decode y_H_breathe.2.1 12 = .ok (.getfield 29, 3) := by decide +kernel
theorem d_H_breathe_15 : decode y_H_breathe.2.1 15 = .ok (.getfield 152, 3) := by decide +kernel
theorem d_H_breathe_18 : decode y_H_breathe.2.1 18 = .ok (.iload_n 1, 1) := by decide +kernel
theorem d_H_breathe_19 : decode y_H_breathe.2.1 19 = .ok (.iaload, 1) := by decide +kernel
theorem d_H_breathe_20 : decode y_H_breathe.2.1 20 = .ok (.ifCond .ne 27, 3) := by decide +kernel
theorem d_H_breathe_23 : decode y_H_breathe.2.1 23 = .ok (.iload_n 2, 1) := by decide +kernel
theorem d_H_breathe_24 : decode y_H_breathe.2.1 24 = .ok (.bipush (-5), 2) := by decide +kernel
theorem d_H_breathe_26 : decode y_H_breathe.2.1 26 = .ok (.if_icmp .lt 21, 3) := by decide +kernel
theorem d_H_breathe_29 : decode y_H_breathe.2.1 29 = .ok (.iload_n 2, 1) := by decide +kernel
theorem d_H_breathe_30 : decode y_H_breathe.2.1 30 = .ok (.iconst 5, 1) := by decide +kernel
theorem d_H_breathe_31 : decode y_H_breathe.2.1 31 = .ok (.if_icmp .gt 16, 3) := by decide +kernel
theorem d_H_breathe_34 : decode y_H_breathe.2.1 34 = .ok (.iload_n 2, 1) := by decide +kernel
theorem d_H_breathe_35 : decode y_H_breathe.2.1 35 = .ok (.aload_n 0, 1) := by decide +kernel
theorem d_H_breathe_36 : decode y_H_breathe.2.1 36 = .ok (.getfield 29, 3) := by decide +kernel
theorem d_H_breathe_39 : decode y_H_breathe.2.1 39 = .ok (.getfield 149, 3) := by decide +kernel
theorem d_H_breathe_42 : decode y_H_breathe.2.1 42 = .ok (.iload_n 1, 1) := by decide +kernel
theorem d_H_breathe_43 : decode y_H_breathe.2.1 43 = .ok (.iaload, 1) := by decide +kernel
theorem d_H_breathe_44 : decode y_H_breathe.2.1 44 = .ok (.if_icmp .ne 6, 3) := by decide +kernel
theorem d_H_breathe_47 : decode y_H_breathe.2.1 47 = .ok (.bipush (-100), 2) := by decide +kernel
theorem d_H_breathe_49 : decode y_H_breathe.2.1 49 = .ok (.ireturn, 1) := by decide +kernel
theorem d_H_breathe_50 : decode y_H_breathe.2.1 50 = .ok (.aload_n 0, 1) := by decide +kernel
theorem d_H_breathe_51 : decode y_H_breathe.2.1 51 = .ok (.getfield 46, 3) := by decide +kernel
theorem d_H_breathe_54 : decode y_H_breathe.2.1 54 = .ok (.aload_n 0, 1) := by decide +kernel
theorem d_H_breathe_55 : decode y_H_breathe.2.1 55 = .ok (.getfield 29, 3) := by decide +kernel
theorem d_H_breathe_58 : decode y_H_breathe.2.1 58 = .ok (.invokevirtual 188, 3) := by decide +kernel
theorem d_H_breathe_61 : decode y_H_breathe.2.1 61 = .ok (.aload_n 0, 1) := by decide +kernel
theorem d_H_breathe_62 : decode y_H_breathe.2.1 62 = .ok (.getfield 29, 3) := by decide +kernel
theorem d_H_breathe_65 : decode y_H_breathe.2.1 65 = .ok (.getfield 149, 3) := by decide +kernel
theorem d_H_breathe_68 : decode y_H_breathe.2.1 68 = .ok (.iload_n 1, 1) := by decide +kernel
theorem d_H_breathe_69 : decode y_H_breathe.2.1 69 = .ok (.iaload, 1) := by decide +kernel
theorem d_H_breathe_70 : decode y_H_breathe.2.1 70 = .ok (.istore_n 3, 1) := by decide +kernel
theorem d_H_breathe_71 : decode y_H_breathe.2.1 71 = .ok (.aload_n 0, 1) := by decide +kernel
theorem d_H_breathe_72 : decode y_H_breathe.2.1 72 = .ok (.getfield 29, 3) := by decide +kernel
theorem d_H_breathe_75 : decode y_H_breathe.2.1 75 = .ok (.getfield 149, 3) := by decide +kernel
theorem d_H_breathe_78 : decode y_H_breathe.2.1 78 = .ok (.iload_n 1, 1) := by decide +kernel
theorem d_H_breathe_79 : decode y_H_breathe.2.1 79 = .ok (.iload_n 2, 1) := by decide +kernel
theorem d_H_breathe_80 : decode y_H_breathe.2.1 80 = .ok (.iastore, 1) := by decide +kernel
theorem d_H_breathe_81 : decode y_H_breathe.2.1 81 = .ok (.iload_n 3, 1) := by decide +kernel
theorem d_H_breathe_82 : decode y_H_breathe.2.1 82 = .ok (.ireturn, 1) := by decide +kernel

abbrev y_H_free : MI := (⟨"CricketHay", "free", "(I)I"⟩, prog_1_method_14_code, 2, (some .int))
theorem hy_H_free : y_H_free.1.cls ≠ "java/lang/invoke/MethodHandle" ∧ y_H_free.1.cls ≠ "java/lang/invoke/VarHandle" ∧ (parseMethodDescriptor y_H_free.1.desc).map (fun d => d.parameters.length) = some 1 := by decide +kernel
theorem d_H_free_0 : decode y_H_free.2.1 0 = .ok (.aload_n 0, 1) := by decide +kernel
theorem d_H_free_1 : decode y_H_free.2.1 1 = .ok (.getfield 19, 3) := by decide +kernel
theorem d_H_free_4 : decode y_H_free.2.1 4 = .ok (.iload_n 1, 1) := by decide +kernel
theorem d_H_free_5 : decode y_H_free.2.1 5 = .ok (.invokevirtual 124, 3) := by decide +kernel
theorem d_H_free_8 : decode y_H_free.2.1 8 = .ok (.ifCond .eq 15, 3) := by decide +kernel
theorem d_H_free_11 : decode y_H_free.2.1 11 = .ok (.aload_n 0, 1) := by decide +kernel
theorem d_H_free_12 : decode y_H_free.2.1 12 = .ok (.getfield 29, 3) := by decide +kernel
theorem d_H_free_15 : decode y_H_free.2.1 15 = .ok (.getfield 152, 3) := by decide +kernel
theorem d_H_free_18 : decode y_H_free.2.1 18 = .ok (.iload_n 1, 1) := by decide +kernel
theorem d_H_free_19 : decode y_H_free.2.1 19 = .ok (.iaload, 1) := by decide +kernel
theorem d_H_free_20 : decode y_H_free.2.1 20 = .ok (.ifCond .eq 5, 3) := by decide +kernel
theorem d_H_free_23 : decode y_H_free.2.1 23 = .ok (.iconst (-1), 1) := by decide +kernel
theorem d_H_free_24 : decode y_H_free.2.1 24 = .ok (.ireturn, 1) := by decide +kernel
theorem d_H_free_25 : decode y_H_free.2.1 25 = .ok (.aload_n 0, 1) := by decide +kernel
theorem d_H_free_26 : decode y_H_free.2.1 26 = .ok (.getfield 39, 3) := by decide +kernel
theorem d_H_free_29 : decode y_H_free.2.1 29 = .ok (.aload_n 0, 1) := by decide +kernel
theorem d_H_free_30 : decode y_H_free.2.1 30 = .ok (.getfield 19, 3) := by decide +kernel
theorem d_H_free_33 : decode y_H_free.2.1 33 = .ok (.aload_n 0, 1) := by decide +kernel
theorem d_H_free_34 : decode y_H_free.2.1 34 = .ok (.getfield 29, 3) := by decide +kernel
theorem d_H_free_37 : decode y_H_free.2.1 37 = .ok (.invokevirtual 155, 3) := by decide +kernel
theorem d_H_free_40 : decode y_H_free.2.1 40 = .ok (.aload_n 0, 1) := by decide +kernel
theorem d_H_free_41 : decode y_H_free.2.1 41 = .ok (.getfield 46, 3) := by decide +kernel
theorem d_H_free_44 : decode y_H_free.2.1 44 = .ok (.aload_n 0, 1) := by decide +kernel
theorem d_H_free_45 : decode y_H_free.2.1 45 = .ok (.getfield 29, 3) := by decide +kernel
theorem d_H_free_48 : decode y_H_free.2.1 48 = .ok (.invokevirtual 188, 3) := by decide +kernel
theorem d_H_free_51 : decode y_H_free.2.1 51 = .ok (.aload_n 0, 1) := by decide +kernel
theorem d_H_free_52 : decode y_H_free.2.1 52 = .ok (.getfield 29, 3) := by decide +kernel
theorem d_H_free_55 : decode y_H_free.2.1 55 = .ok (.getfield 152, 3) := by decide +kernel
theorem d_H_free_58 : decode y_H_free.2.1 58 = .ok (.iload_n 1, 1) := by decide +kernel
theorem d_H_free_59 : decode y_H_free.2.1 59 = .ok (.iconst 1, 1) := by decide +kernel
theorem d_H_free_60 : decode y_H_free.2.1 60 = .ok (.iastore, 1) := by decide +kernel
theorem d_H_free_61 : decode y_H_free.2.1 61 = .ok (.aload_n 0, 1) := by decide +kernel
theorem d_H_free_62 : decode y_H_free.2.1 62 = .ok (.getfield 39, 3) := by decide +kernel
theorem d_H_free_65 : decode y_H_free.2.1 65 = .ok (.getfield 159, 3) := by decide +kernel
theorem d_H_free_68 : decode y_H_free.2.1 68 = .ok (.iload_n 1, 1) := by decide +kernel
theorem d_H_free_69 : decode y_H_free.2.1 69 = .ok (.iaload, 1) := by decide +kernel
theorem d_H_free_70 : decode y_H_free.2.1 70 = .ok (.ireturn, 1) := by decide +kernel

abbrev y_JArrays_fill : MI := (⟨"java/util/Arrays", "fill", "([II)V"⟩, prog_21_method_103_code, 4, none)
theorem hy_JArrays_fill : y_JArrays_fill.1.cls ≠ "java/lang/invoke/MethodHandle" ∧ y_JArrays_fill.1.cls ≠ "java/lang/invoke/VarHandle" ∧ (parseMethodDescriptor y_JArrays_fill.1.desc).map (fun d => d.parameters.length) = some 2 := by decide +kernel
theorem d_JArrays_fill_0 : decode y_JArrays_fill.2.1 0 = .ok (.iconst 0, 1) := by decide +kernel
theorem d_JArrays_fill_1 : decode y_JArrays_fill.2.1 1 = .ok (.istore_n 2, 1) := by decide +kernel
theorem d_JArrays_fill_2 : decode y_JArrays_fill.2.1 2 = .ok (.aload_n 0, 1) := by decide +kernel
theorem d_JArrays_fill_3 : decode y_JArrays_fill.2.1 3 = .ok (.arraylength, 1) := by decide +kernel
theorem d_JArrays_fill_4 : decode y_JArrays_fill.2.1 4 = .ok (.istore_n 3, 1) := by decide +kernel
theorem d_JArrays_fill_5 : decode y_JArrays_fill.2.1 5 = .ok (.iload_n 2, 1) := by decide +kernel
theorem d_JArrays_fill_6 : decode y_JArrays_fill.2.1 6 = .ok (.iload_n 3, 1) := by decide +kernel
theorem d_JArrays_fill_7 : decode y_JArrays_fill.2.1 7 = .ok (.if_icmp .ge 13, 3) := by decide +kernel
theorem d_JArrays_fill_10 : decode y_JArrays_fill.2.1 10 = .ok (.aload_n 0, 1) := by decide +kernel
theorem d_JArrays_fill_11 : decode y_JArrays_fill.2.1 11 = .ok (.iload_n 2, 1) := by decide +kernel
theorem d_JArrays_fill_12 : decode y_JArrays_fill.2.1 12 = .ok (.iload_n 1, 1) := by decide +kernel
theorem d_JArrays_fill_13 : decode y_JArrays_fill.2.1 13 = .ok (.iastore, 1) := by decide +kernel
theorem d_JArrays_fill_14 : decode y_JArrays_fill.2.1 14 = .ok (.iinc 2 1, 3) := by decide +kernel
theorem d_JArrays_fill_17 : decode y_JArrays_fill.2.1 17 = .ok (.goto (-12), 3) := by decide +kernel
theorem d_JArrays_fill_20 : decode y_JArrays_fill.2.1 20 = .ok (.return_, 1) := by decide +kernel

abbrev y_Yard_eat : MI := (⟨"CricketHay$Yard", "eat", "(LCricketHay$Market;)V"⟩, prog_12_method_9_code, 4, none)
theorem hy_Yard_eat : y_Yard_eat.1.cls ≠ "java/lang/invoke/MethodHandle" ∧ y_Yard_eat.1.cls ≠ "java/lang/invoke/VarHandle" ∧ (parseMethodDescriptor y_Yard_eat.1.desc).map (fun d => d.parameters.length) = some 1 := by decide +kernel
theorem d_Yard_eat_0 : decode y_Yard_eat.2.1 0 = .ok (.iconst 0, 1) := by decide +kernel
theorem d_Yard_eat_1 : decode y_Yard_eat.2.1 1 = .ok (.istore_n 2, 1) := by decide +kernel
theorem d_Yard_eat_2 : decode y_Yard_eat.2.1 2 = .ok (.iload_n 2, 1) := by decide +kernel
theorem d_Yard_eat_3 : decode y_Yard_eat.2.1 3 = .ok (.aload_n 1, 1) := by decide +kernel
theorem d_Yard_eat_4 : decode y_Yard_eat.2.1 4 = .ok (.getfield 61, 3) := by decide +kernel
theorem d_Yard_eat_7 : decode y_Yard_eat.2.1 7 = .ok (.if_icmp .ge 71, 3) := by decide +kernel
theorem d_Yard_eat_10 : decode y_Yard_eat.2.1 10 = .ok (.aload_n 0, 1) := by decide +kernel
theorem d_Yard_eat_11 : decode y_Yard_eat.2.1 11 = .ok (.getfield 15, 3) := by decide +kernel
theorem d_Yard_eat_14 : decode y_Yard_eat.2.1 14 = .ok (.iload_n 2, 1) := by decide +kernel
theorem d_Yard_eat_15 : decode y_Yard_eat.2.1 15 = .ok (.iaload, 1) := by decide +kernel
theorem d_Yard_eat_16 : decode y_Yard_eat.2.1 16 = .ok (.aload_n 1, 1) := by decide +kernel
theorem d_Yard_eat_17 : decode y_Yard_eat.2.1 17 = .ok (.getfield 99, 3) := by decide +kernel
theorem d_Yard_eat_20 : decode y_Yard_eat.2.1 20 = .ok (.iload_n 2, 1) := by decide +kernel
theorem d_Yard_eat_21 : decode y_Yard_eat.2.1 21 = .ok (.iaload, 1) := by decide +kernel
theorem d_Yard_eat_22 : decode y_Yard_eat.2.1 22 = .ok (.invokestatic 86, 3) := by decide +kernel
theorem d_Yard_eat_25 : decode y_Yard_eat.2.1 25 = .ok (.istore_n 3, 1) := by decide +kernel
theorem d_Yard_eat_26 : decode y_Yard_eat.2.1 26 = .ok (.aload_n 0, 1) := by decide +kernel
theorem d_Yard_eat_27 : decode y_Yard_eat.2.1 27 = .ok (.getfield 15, 3) := by decide +kernel
theorem d_Yard_eat_30 : decode y_Yard_eat.2.1 30 = .ok (.iload_n 2, 1) := by decide +kernel
theorem d_Yard_eat_31 : decode y_Yard_eat.2.1 31 = .ok (.dup2, 1) := by decide +kernel
theorem d_Yard_eat_32 : decode y_Yard_eat.2.1 32 = .ok (.iaload, 1) := by decide +kernel
theorem d_Yard_eat_33 : decode y_Yard_eat.2.1 33 = .ok (.iload_n 3, 1) := by decide +kernel
theorem d_Yard_eat_34 : decode y_Yard_eat.2.1 34 = .ok (.isub, 1) := by decide +kernel
theorem d_Yard_eat_35 : decode y_Yard_eat.2.1 35 = .ok (.iastore, 1) := by decide +kernel
theorem d_Yard_eat_36 : decode y_Yard_eat.2.1 36 = .ok (.aload_n 0, 1) := by decide +kernel
theorem d_Yard_eat_37 : decode y_Yard_eat.2.1 37 = .ok (.getfield 18, 3) := by decide +kernel
theorem d_Yard_eat_40 : decode y_Yard_eat.2.1 40 = .ok (.iload_n 2, 1) := by decide +kernel
theorem d_Yard_eat_41 : decode y_Yard_eat.2.1 41 = .ok (.dup2, 1) := by decide +kernel
theorem d_Yard_eat_42 : decode y_Yard_eat.2.1 42 = .ok (.iaload, 1) := by decide +kernel
theorem d_Yard_eat_43 : decode y_Yard_eat.2.1 43 = .ok (.aload_n 1, 1) := by decide +kernel
theorem d_Yard_eat_44 : decode y_Yard_eat.2.1 44 = .ok (.getfield 99, 3) := by decide +kernel
theorem d_Yard_eat_47 : decode y_Yard_eat.2.1 47 = .ok (.iload_n 2, 1) := by decide +kernel
theorem d_Yard_eat_48 : decode y_Yard_eat.2.1 48 = .ok (.iaload, 1) := by decide +kernel
theorem d_Yard_eat_49 : decode y_Yard_eat.2.1 49 = .ok (.iload_n 3, 1) := by decide +kernel
theorem d_Yard_eat_50 : decode y_Yard_eat.2.1 50 = .ok (.isub, 1) := by decide +kernel
theorem d_Yard_eat_51 : decode y_Yard_eat.2.1 51 = .ok (.iadd, 1) := by decide +kernel
theorem d_Yard_eat_52 : decode y_Yard_eat.2.1 52 = .ok (.iastore, 1) := by decide +kernel
theorem d_Yard_eat_53 : decode y_Yard_eat.2.1 53 = .ok (.aload_n 0, 1) := by decide +kernel
theorem d_Yard_eat_54 : decode y_Yard_eat.2.1 54 = .ok (.getfield 21, 3) := by decide +kernel
theorem d_Yard_eat_57 : decode y_Yard_eat.2.1 57 = .ok (.iload_n 2, 1) := by decide +kernel
theorem d_Yard_eat_58 : decode y_Yard_eat.2.1 58 = .ok (.bipush 99, 2) := by decide +kernel
theorem d_Yard_eat_60 : decode y_Yard_eat.2.1 60 = .ok (.aload_n 0, 1) := by decide +kernel
theorem d_Yard_eat_61 : decode y_Yard_eat.2.1 61 = .ok (.getfield 21, 3) := by decide +kernel
theorem d_Yard_eat_64 : decode y_Yard_eat.2.1 64 = .ok (.iload_n 2, 1) := by decide +kernel
theorem d_Yard_eat_65 : decode y_Yard_eat.2.1 65 = .ok (.iaload, 1) := by decide +kernel
theorem d_Yard_eat_66 : decode y_Yard_eat.2.1 66 = .ok (.iconst 1, 1) := by decide +kernel
theorem d_Yard_eat_67 : decode y_Yard_eat.2.1 67 = .ok (.iadd, 1) := by decide +kernel
theorem d_Yard_eat_68 : decode y_Yard_eat.2.1 68 = .ok (.invokestatic 86, 3) := by decide +kernel
theorem d_Yard_eat_71 : decode y_Yard_eat.2.1 71 = .ok (.iastore, 1) := by decide +kernel
theorem d_Yard_eat_72 : decode y_Yard_eat.2.1 72 = .ok (.iinc 2 1, 3) := by decide +kernel
theorem d_Yard_eat_75 : decode y_Yard_eat.2.1 75 = .ok (.goto (-73), 3) := by decide +kernel
theorem d_Yard_eat_78 : decode y_Yard_eat.2.1 78 = .ok (.return_, 1) := by decide +kernel

abbrev y_Yard_pass2 : MI := (⟨"CricketHay$Yard", "pass", "(LCricketHay$Market;Z)V"⟩, prog_12_method_8_code, 3, none)
theorem hy_Yard_pass2 : y_Yard_pass2.1.cls ≠ "java/lang/invoke/MethodHandle" ∧ y_Yard_pass2.1.cls ≠ "java/lang/invoke/VarHandle" ∧ (parseMethodDescriptor y_Yard_pass2.1.desc).map (fun d => d.parameters.length) = some 2 := by decide +kernel
theorem d_Yard_pass2_0 : decode y_Yard_pass2.2.1 0 = .ok (.aload_n 0, 1) := by decide +kernel
theorem d_Yard_pass2_1 : decode y_Yard_pass2.2.1 1 = .ok (.iconst 0, 1) := by decide +kernel
theorem d_Yard_pass2_2 : decode y_Yard_pass2.2.1 2 = .ok (.aload_n 0, 1) := by decide +kernel
theorem d_Yard_pass2_3 : decode y_Yard_pass2.2.1 3 = .ok (.getfield 30, 3) := by decide +kernel
theorem d_Yard_pass2_6 : decode y_Yard_pass2.2.1 6 = .ok (.iconst 1, 1) := by decide +kernel
theorem d_Yard_pass2_7 : decode y_Yard_pass2.2.1 7 = .ok (.isub, 1) := by decide +kernel
theorem d_Yard_pass2_8 : decode y_Yard_pass2.2.1 8 = .ok (.invokestatic 77, 3) := by decide +kernel
theorem d_Yard_pass2_11 : decode y_Yard_pass2.2.1 11 = .ok (.putfield 30, 3) := by decide +kernel
theorem d_Yard_pass2_14 : decode y_Yard_pass2.2.1 14 = .ok (.iload_n 2, 1) := by decide +kernel
theorem d_Yard_pass2_15 : decode y_Yard_pass2.2.1 15 = .ok (.ifCond .eq 21, 3) := by decide +kernel
theorem d_Yard_pass2_18 : decode y_Yard_pass2.2.1 18 = .ok (.aload_n 0, 1) := by decide +kernel
theorem d_Yard_pass2_19 : decode y_Yard_pass2.2.1 19 = .ok (.bipush 40, 2) := by decide +kernel
theorem d_Yard_pass2_21 : decode y_Yard_pass2.2.1 21 = .ok (.aload_n 0, 1) := by decide +kernel
theorem d_Yard_pass2_22 : decode y_Yard_pass2.2.1 22 = .ok (.getfield 30, 3) := by decide +kernel
theorem d_Yard_pass2_25 : decode y_Yard_pass2.2.1 25 = .ok (.aload_n 1, 1) := by decide +kernel
theorem d_Yard_pass2_26 : decode y_Yard_pass2.2.1 26 = .ok (.getfield 83, 3) := by decide +kernel
theorem d_Yard_pass2_29 : decode y_Yard_pass2.2.1 29 = .ok (.iadd, 1) := by decide +kernel
theorem d_Yard_pass2_30 : decode y_Yard_pass2.2.1 30 = .ok (.invokestatic 86, 3) := by decide +kernel
theorem d_Yard_pass2_33 : decode y_Yard_pass2.2.1 33 = .ok (.putfield 30, 3) := by decide +kernel
theorem d_Yard_pass2_36 : decode y_Yard_pass2.2.1 36 = .ok (.aload_n 0, 1) := by decide +kernel
theorem d_Yard_pass2_37 : decode y_Yard_pass2.2.1 37 = .ok (.getfield 24, 3) := by decide +kernel
theorem d_Yard_pass2_40 : decode y_Yard_pass2.2.1 40 = .ok (.iconst 0, 1) := by decide +kernel
theorem d_Yard_pass2_41 : decode y_Yard_pass2.2.1 41 = .ok (.invokestatic 89, 3) := by decide +kernel
theorem d_Yard_pass2_44 : decode y_Yard_pass2.2.1 44 = .ok (.aload_n 0, 1) := by decide +kernel
theorem d_Yard_pass2_45 : decode y_Yard_pass2.2.1 45 = .ok (.dup, 1) := by decide +kernel
theorem d_Yard_pass2_46 : decode y_Yard_pass2.2.1 46 = .ok (.getfield 34, 3) := by decide +kernel
theorem d_Yard_pass2_49 : decode y_Yard_pass2.2.1 49 = .ok (.iconst 1, 1) := by decide +kernel
theorem d_Yard_pass2_50 : decode y_Yard_pass2.2.1 50 = .ok (.iadd, 1) := by decide +kernel
theorem d_Yard_pass2_51 : decode y_Yard_pass2.2.1 51 = .ok (.putfield 34, 3) := by decide +kernel
theorem d_Yard_pass2_54 : decode y_Yard_pass2.2.1 54 = .ok (.aload_n 0, 1) := by decide +kernel
theorem d_Yard_pass2_55 : decode y_Yard_pass2.2.1 55 = .ok (.getfield 34, 3) := by decide +kernel
theorem d_Yard_pass2_58 : decode y_Yard_pass2.2.1 58 = .ok (.bipush 23, 2) := by decide +kernel
theorem d_Yard_pass2_60 : decode y_Yard_pass2.2.1 60 = .ok (.if_icmp .le 23, 3) := by decide +kernel
theorem d_Yard_pass2_63 : decode y_Yard_pass2.2.1 63 = .ok (.aload_n 0, 1) := by decide +kernel
theorem d_Yard_pass2_64 : decode y_Yard_pass2.2.1 64 = .ok (.iconst 0, 1) := by decide +kernel
theorem d_Yard_pass2_65 : decode y_Yard_pass2.2.1 65 = .ok (.putfield 34, 3) := by decide +kernel
theorem d_Yard_pass2_68 : decode y_Yard_pass2.2.1 68 = .ok (.aload_n 0, 1) := by decide +kernel
theorem d_Yard_pass2_69 : decode y_Yard_pass2.2.1 69 = .ok (.dup, 1) := by decide +kernel
theorem d_Yard_pass2_70 : decode y_Yard_pass2.2.1 70 = .ok (.getfield 37, 3) := by decide +kernel
theorem d_Yard_pass2_73 : decode y_Yard_pass2.2.1 73 = .ok (.iconst 1, 1) := by decide +kernel
theorem d_Yard_pass2_74 : decode y_Yard_pass2.2.1 74 = .ok (.iadd, 1) := by decide +kernel
theorem d_Yard_pass2_75 : decode y_Yard_pass2.2.1 75 = .ok (.putfield 37, 3) := by decide +kernel
theorem d_Yard_pass2_78 : decode y_Yard_pass2.2.1 78 = .ok (.aload_n 0, 1) := by decide +kernel
theorem d_Yard_pass2_79 : decode y_Yard_pass2.2.1 79 = .ok (.aload_n 1, 1) := by decide +kernel
theorem d_Yard_pass2_80 : decode y_Yard_pass2.2.1 80 = .ok (.invokevirtual 95, 3) := by decide +kernel
theorem d_Yard_pass2_83 : decode y_Yard_pass2.2.1 83 = .ok (.return_, 1) := by decide +kernel

abbrev y_Yard_pass1 : MI := (⟨"CricketHay$Yard", "pass", "(LCricketHay$Market;)V"⟩, prog_12_method_7_code, 2, none)
theorem hy_Yard_pass1 : y_Yard_pass1.1.cls ≠ "java/lang/invoke/MethodHandle" ∧ y_Yard_pass1.1.cls ≠ "java/lang/invoke/VarHandle" ∧ (parseMethodDescriptor y_Yard_pass1.1.desc).map (fun d => d.parameters.length) = some 1 := by decide +kernel
theorem d_Yard_pass1_0 : decode y_Yard_pass1.2.1 0 = .ok (.aload_n 0, 1) := by decide +kernel
theorem d_Yard_pass1_1 : decode y_Yard_pass1.2.1 1 = .ok (.aload_n 0, 1) := by decide +kernel
theorem d_Yard_pass1_2 : decode y_Yard_pass1.2.1 2 = .ok (.getfield 40, 3) := by decide +kernel
theorem d_Yard_pass1_5 : decode y_Yard_pass1.2.1 5 = .ok (.sipush 137, 3) := by decide +kernel
theorem d_Yard_pass1_8 : decode y_Yard_pass1.2.1 8 = .ok (.imul, 1) := by decide +kernel
theorem d_Yard_pass1_9 : decode y_Yard_pass1.2.1 9 = .ok (.bipush 71, 2) := by decide +kernel
theorem d_Yard_pass1_11 : decode y_Yard_pass1.2.1 11 = .ok (.iadd, 1) := by decide +kernel
theorem d_Yard_pass1_12 : decode y_Yard_pass1.2.1 12 = .ok (.sipush 1000, 3) := by decide +kernel
theorem d_Yard_pass1_15 : decode y_Yard_pass1.2.1 15 = .ok (.irem, 1) := by decide +kernel
theorem d_Yard_pass1_16 : decode y_Yard_pass1.2.1 16 = .ok (.putfield 40, 3) := by decide +kernel
theorem d_Yard_pass1_19 : decode y_Yard_pass1.2.1 19 = .ok (.aload_n 0, 1) := by decide +kernel
theorem d_Yard_pass1_20 : decode y_Yard_pass1.2.1 20 = .ok (.aload_n 1, 1) := by decide +kernel
theorem d_Yard_pass1_21 : decode y_Yard_pass1.2.1 21 = .ok (.aload_n 0, 1) := by decide +kernel
theorem d_Yard_pass1_22 : decode y_Yard_pass1.2.1 22 = .ok (.getfield 40, 3) := by decide +kernel
theorem d_Yard_pass1_25 : decode y_Yard_pass1.2.1 25 = .ok (.bipush 100, 2) := by decide +kernel
theorem d_Yard_pass1_27 : decode y_Yard_pass1.2.1 27 = .ok (.irem, 1) := by decide +kernel
theorem d_Yard_pass1_28 : decode y_Yard_pass1.2.1 28 = .ok (.aload_n 1, 1) := by decide +kernel
theorem d_Yard_pass1_29 : decode y_Yard_pass1.2.1 29 = .ok (.getfield 70, 3) := by decide +kernel
theorem d_Yard_pass1_32 : decode y_Yard_pass1.2.1 32 = .ok (.if_icmp .ge 7, 3) := by decide +kernel
theorem d_Yard_pass1_35 : decode y_Yard_pass1.2.1 35 = .ok (.iconst 1, 1) := by decide +kernel
theorem d_Yard_pass1_36 : decode y_Yard_pass1.2.1 36 = .ok (.goto 4, 3) := by decide +kernel
theorem d_Yard_pass1_39 : decode y_Yard_pass1.2.1 39 = .ok (.iconst 0, 1) := by decide +kernel
theorem d_Yard_pass1_40 : decode y_Yard_pass1.2.1 40 = .ok (.invokevirtual 73, 3) := by decide +kernel
theorem d_Yard_pass1_43 : decode y_Yard_pass1.2.1 43 = .ok (.return_, 1) := by decide +kernel

abbrev y_H_hour : MI := (⟨"CricketHay", "hour", "()I"⟩, prog_1_method_15_code, 1, (some .int))
theorem hy_H_hour : y_H_hour.1.cls ≠ "java/lang/invoke/MethodHandle" ∧ y_H_hour.1.cls ≠ "java/lang/invoke/VarHandle" ∧ (parseMethodDescriptor y_H_hour.1.desc).map (fun d => d.parameters.length) = some 0 := by decide +kernel
theorem d_H_hour_0 : decode y_H_hour.2.1 0 = .ok (.aload_n 0, 1) := by decide +kernel
theorem d_H_hour_1 : decode y_H_hour.2.1 1 = .ok (.getfield 29, 3) := by decide +kernel
theorem d_H_hour_4 : decode y_H_hour.2.1 4 = .ok (.getfield 192, 3) := by decide +kernel
theorem d_H_hour_7 : decode y_H_hour.2.1 7 = .ok (.bipush 23, 2) := by decide +kernel
theorem d_H_hour_9 : decode y_H_hour.2.1 9 = .ok (.if_icmp .lt 18, 3) := by decide +kernel
theorem d_H_hour_12 : decode y_H_hour.2.1 12 = .ok (.aload_n 0, 1) := by decide +kernel
theorem d_H_hour_13 : decode y_H_hour.2.1 13 = .ok (.getfield 29, 3) := by decide +kernel
theorem d_H_hour_16 : decode y_H_hour.2.1 16 = .ok (.getfield 195, 3) := by decide +kernel
theorem d_H_hour_19 : decode y_H_hour.2.1 19 = .ok (.sipush 999, 3) := by decide +kernel
theorem d_H_hour_22 : decode y_H_hour.2.1 22 = .ok (.if_icmp .lt 5, 3) := by decide +kernel
theorem d_H_hour_25 : decode y_H_hour.2.1 25 = .ok (.iconst (-1), 1) := by decide +kernel
theorem d_H_hour_26 : decode y_H_hour.2.1 26 = .ok (.ireturn, 1) := by decide +kernel
theorem d_H_hour_27 : decode y_H_hour.2.1 27 = .ok (.aload_n 0, 1) := by decide +kernel
theorem d_H_hour_28 : decode y_H_hour.2.1 28 = .ok (.getfield 46, 3) := by decide +kernel
theorem d_H_hour_31 : decode y_H_hour.2.1 31 = .ok (.aload_n 0, 1) := by decide +kernel
theorem d_H_hour_32 : decode y_H_hour.2.1 32 = .ok (.getfield 29, 3) := by decide +kernel
theorem d_H_hour_35 : decode y_H_hour.2.1 35 = .ok (.invokevirtual 188, 3) := by decide +kernel
theorem d_H_hour_38 : decode y_H_hour.2.1 38 = .ok (.aload_n 0, 1) := by decide +kernel
theorem d_H_hour_39 : decode y_H_hour.2.1 39 = .ok (.getfield 29, 3) := by decide +kernel
theorem d_H_hour_42 : decode y_H_hour.2.1 42 = .ok (.aload_n 0, 1) := by decide +kernel
theorem d_H_hour_43 : decode y_H_hour.2.1 43 = .ok (.getfield 19, 3) := by decide +kernel
theorem d_H_hour_46 : decode y_H_hour.2.1 46 = .ok (.invokevirtual 198, 3) := by decide +kernel
theorem d_H_hour_49 : decode y_H_hour.2.1 49 = .ok (.aload_n 0, 1) := by decide +kernel
theorem d_H_hour_50 : decode y_H_hour.2.1 50 = .ok (.getfield 29, 3) := by decide +kernel
theorem d_H_hour_53 : decode y_H_hour.2.1 53 = .ok (.aload_n 0, 1) := by decide +kernel
theorem d_H_hour_54 : decode y_H_hour.2.1 54 = .ok (.getfield 19, 3) := by decide +kernel
theorem d_H_hour_57 : decode y_H_hour.2.1 57 = .ok (.invokevirtual 166, 3) := by decide +kernel
theorem d_H_hour_60 : decode y_H_hour.2.1 60 = .ok (.ireturn, 1) := by decide +kernel

abbrev y_Acts_takeBack : MI := (⟨"CricketHay$Acts", "takeBack", "(LCricketHay$Yard;)Z"⟩, prog_2_method_5_code, 2, (some .boolean))
theorem hy_Acts_takeBack : y_Acts_takeBack.1.cls ≠ "java/lang/invoke/MethodHandle" ∧ y_Acts_takeBack.1.cls ≠ "java/lang/invoke/VarHandle" ∧ (parseMethodDescriptor y_Acts_takeBack.1.desc).map (fun d => d.parameters.length) = some 1 := by decide +kernel
theorem d_Acts_takeBack_0 : decode y_Acts_takeBack.2.1 0 = .ok (.aload_n 0, 1) := by decide +kernel
theorem d_Acts_takeBack_1 : decode y_Acts_takeBack.2.1 1 = .ok (.getfield 17, 3) := by decide +kernel
theorem d_Acts_takeBack_4 : decode y_Acts_takeBack.2.1 4 = .ok (.ifCond .gt 5, 3) := by decide +kernel
theorem d_Acts_takeBack_7 : decode y_Acts_takeBack.2.1 7 = .ok (.iconst 0, 1) := by decide +kernel
theorem d_Acts_takeBack_8 : decode y_Acts_takeBack.2.1 8 = .ok (.ireturn, 1) := by decide +kernel
theorem d_Acts_takeBack_9 : decode y_Acts_takeBack.2.1 9 = .ok (.aload_n 0, 1) := by decide +kernel
theorem d_Acts_takeBack_10 : decode y_Acts_takeBack.2.1 10 = .ok (.getfield 11, 3) := by decide +kernel
theorem d_Acts_takeBack_13 : decode y_Acts_takeBack.2.1 13 = .ok (.aload_n 0, 1) := by decide +kernel
theorem d_Acts_takeBack_14 : decode y_Acts_takeBack.2.1 14 = .ok (.getfield 17, 3) := by decide +kernel
theorem d_Acts_takeBack_17 : decode y_Acts_takeBack.2.1 17 = .ok (.aaload, 1) := by decide +kernel
theorem d_Acts_takeBack_18 : decode y_Acts_takeBack.2.1 18 = .ok (.aload_n 1, 1) := by decide +kernel
theorem d_Acts_takeBack_19 : decode y_Acts_takeBack.2.1 19 = .ok (.invokevirtual 28, 3) := by decide +kernel
theorem d_Acts_takeBack_22 : decode y_Acts_takeBack.2.1 22 = .ok (.aload_n 0, 1) := by decide +kernel
theorem d_Acts_takeBack_23 : decode y_Acts_takeBack.2.1 23 = .ok (.dup, 1) := by decide +kernel
theorem d_Acts_takeBack_24 : decode y_Acts_takeBack.2.1 24 = .ok (.getfield 17, 3) := by decide +kernel
theorem d_Acts_takeBack_27 : decode y_Acts_takeBack.2.1 27 = .ok (.iconst 1, 1) := by decide +kernel
theorem d_Acts_takeBack_28 : decode y_Acts_takeBack.2.1 28 = .ok (.isub, 1) := by decide +kernel
theorem d_Acts_takeBack_29 : decode y_Acts_takeBack.2.1 29 = .ok (.putfield 17, 3) := by decide +kernel
theorem d_Acts_takeBack_32 : decode y_Acts_takeBack.2.1 32 = .ok (.aload_n 0, 1) := by decide +kernel
theorem d_Acts_takeBack_33 : decode y_Acts_takeBack.2.1 33 = .ok (.dup, 1) := by decide +kernel
theorem d_Acts_takeBack_34 : decode y_Acts_takeBack.2.1 34 = .ok (.getfield 21, 3) := by decide +kernel
theorem d_Acts_takeBack_37 : decode y_Acts_takeBack.2.1 37 = .ok (.iconst 1, 1) := by decide +kernel
theorem d_Acts_takeBack_38 : decode y_Acts_takeBack.2.1 38 = .ok (.iadd, 1) := by decide +kernel
theorem d_Acts_takeBack_39 : decode y_Acts_takeBack.2.1 39 = .ok (.putfield 21, 3) := by decide +kernel
theorem d_Acts_takeBack_42 : decode y_Acts_takeBack.2.1 42 = .ok (.aload_n 1, 1) := by decide +kernel
theorem d_Acts_takeBack_43 : decode y_Acts_takeBack.2.1 43 = .ok (.aload_n 0, 1) := by decide +kernel
theorem d_Acts_takeBack_44 : decode y_Acts_takeBack.2.1 44 = .ok (.getfield 11, 3) := by decide +kernel
theorem d_Acts_takeBack_47 : decode y_Acts_takeBack.2.1 47 = .ok (.aload_n 0, 1) := by decide +kernel
theorem d_Acts_takeBack_48 : decode y_Acts_takeBack.2.1 48 = .ok (.getfield 17, 3) := by decide +kernel
theorem d_Acts_takeBack_51 : decode y_Acts_takeBack.2.1 51 = .ok (.aaload, 1) := by decide +kernel
theorem d_Acts_takeBack_52 : decode y_Acts_takeBack.2.1 52 = .ok (.invokevirtual 28, 3) := by decide +kernel
theorem d_Acts_takeBack_55 : decode y_Acts_takeBack.2.1 55 = .ok (.iconst 1, 1) := by decide +kernel
theorem d_Acts_takeBack_56 : decode y_Acts_takeBack.2.1 56 = .ok (.ireturn, 1) := by decide +kernel

abbrev y_H_undo : MI := (⟨"CricketHay", "undo", "()Z"⟩, prog_1_method_16_code, 1, (some .boolean))
theorem hy_H_undo : y_H_undo.1.cls ≠ "java/lang/invoke/MethodHandle" ∧ y_H_undo.1.cls ≠ "java/lang/invoke/VarHandle" ∧ (parseMethodDescriptor y_H_undo.1.desc).map (fun d => d.parameters.length) = some 0 := by decide +kernel
theorem d_H_undo_0 : decode y_H_undo.2.1 0 = .ok (.aload_n 0, 1) := by decide +kernel
theorem d_H_undo_1 : decode y_H_undo.2.1 1 = .ok (.getfield 46, 3) := by decide +kernel
theorem d_H_undo_4 : decode y_H_undo.2.1 4 = .ok (.aload_n 0, 1) := by decide +kernel
theorem d_H_undo_5 : decode y_H_undo.2.1 5 = .ok (.getfield 29, 3) := by decide +kernel
theorem d_H_undo_8 : decode y_H_undo.2.1 8 = .ok (.invokevirtual 201, 3) := by decide +kernel
theorem d_H_undo_11 : decode y_H_undo.2.1 11 = .ok (.ireturn, 1) := by decide +kernel

abbrev y_Acts_doAgain : MI := (⟨"CricketHay$Acts", "doAgain", "(LCricketHay$Yard;)Z"⟩, prog_2_method_6_code, 2, (some .boolean))
theorem hy_Acts_doAgain : y_Acts_doAgain.1.cls ≠ "java/lang/invoke/MethodHandle" ∧ y_Acts_doAgain.1.cls ≠ "java/lang/invoke/VarHandle" ∧ (parseMethodDescriptor y_Acts_doAgain.1.desc).map (fun d => d.parameters.length) = some 1 := by decide +kernel
theorem d_Acts_doAgain_0 : decode y_Acts_doAgain.2.1 0 = .ok (.aload_n 0, 1) := by decide +kernel
theorem d_Acts_doAgain_1 : decode y_Acts_doAgain.2.1 1 = .ok (.getfield 21, 3) := by decide +kernel
theorem d_Acts_doAgain_4 : decode y_Acts_doAgain.2.1 4 = .ok (.ifCond .gt 5, 3) := by decide +kernel
theorem d_Acts_doAgain_7 : decode y_Acts_doAgain.2.1 7 = .ok (.iconst 0, 1) := by decide +kernel
theorem d_Acts_doAgain_8 : decode y_Acts_doAgain.2.1 8 = .ok (.ireturn, 1) := by decide +kernel
theorem d_Acts_doAgain_9 : decode y_Acts_doAgain.2.1 9 = .ok (.aload_n 0, 1) := by decide +kernel
theorem d_Acts_doAgain_10 : decode y_Acts_doAgain.2.1 10 = .ok (.dup, 1) := by decide +kernel
theorem d_Acts_doAgain_11 : decode y_Acts_doAgain.2.1 11 = .ok (.getfield 17, 3) := by decide +kernel
theorem d_Acts_doAgain_14 : decode y_Acts_doAgain.2.1 14 = .ok (.iconst 1, 1) := by decide +kernel
theorem d_Acts_doAgain_15 : decode y_Acts_doAgain.2.1 15 = .ok (.iadd, 1) := by decide +kernel
theorem d_Acts_doAgain_16 : decode y_Acts_doAgain.2.1 16 = .ok (.putfield 17, 3) := by decide +kernel
theorem d_Acts_doAgain_19 : decode y_Acts_doAgain.2.1 19 = .ok (.aload_n 0, 1) := by decide +kernel
theorem d_Acts_doAgain_20 : decode y_Acts_doAgain.2.1 20 = .ok (.dup, 1) := by decide +kernel
theorem d_Acts_doAgain_21 : decode y_Acts_doAgain.2.1 21 = .ok (.getfield 21, 3) := by decide +kernel
theorem d_Acts_doAgain_24 : decode y_Acts_doAgain.2.1 24 = .ok (.iconst 1, 1) := by decide +kernel
theorem d_Acts_doAgain_25 : decode y_Acts_doAgain.2.1 25 = .ok (.isub, 1) := by decide +kernel
theorem d_Acts_doAgain_26 : decode y_Acts_doAgain.2.1 26 = .ok (.putfield 21, 3) := by decide +kernel
theorem d_Acts_doAgain_29 : decode y_Acts_doAgain.2.1 29 = .ok (.aload_n 1, 1) := by decide +kernel
theorem d_Acts_doAgain_30 : decode y_Acts_doAgain.2.1 30 = .ok (.aload_n 0, 1) := by decide +kernel
theorem d_Acts_doAgain_31 : decode y_Acts_doAgain.2.1 31 = .ok (.getfield 11, 3) := by decide +kernel
theorem d_Acts_doAgain_34 : decode y_Acts_doAgain.2.1 34 = .ok (.aload_n 0, 1) := by decide +kernel
theorem d_Acts_doAgain_35 : decode y_Acts_doAgain.2.1 35 = .ok (.getfield 17, 3) := by decide +kernel
theorem d_Acts_doAgain_38 : decode y_Acts_doAgain.2.1 38 = .ok (.aaload, 1) := by decide +kernel
theorem d_Acts_doAgain_39 : decode y_Acts_doAgain.2.1 39 = .ok (.invokevirtual 28, 3) := by decide +kernel
theorem d_Acts_doAgain_42 : decode y_Acts_doAgain.2.1 42 = .ok (.iconst 1, 1) := by decide +kernel
theorem d_Acts_doAgain_43 : decode y_Acts_doAgain.2.1 43 = .ok (.ireturn, 1) := by decide +kernel

abbrev y_H_redo : MI := (⟨"CricketHay", "redo", "()Z"⟩, prog_1_method_17_code, 1, (some .boolean))
theorem hy_H_redo : y_H_redo.1.cls ≠ "java/lang/invoke/MethodHandle" ∧ y_H_redo.1.cls ≠ "java/lang/invoke/VarHandle" ∧ (parseMethodDescriptor y_H_redo.1.desc).map (fun d => d.parameters.length) = some 0 := by decide +kernel
theorem d_H_redo_0 : decode y_H_redo.2.1 0 = .ok (.aload_n 0, 1) := by decide +kernel
theorem d_H_redo_1 : decode y_H_redo.2.1 1 = .ok (.getfield 46, 3) := by decide +kernel
theorem d_H_redo_4 : decode y_H_redo.2.1 4 = .ok (.aload_n 0, 1) := by decide +kernel
theorem d_H_redo_5 : decode y_H_redo.2.1 5 = .ok (.getfield 29, 3) := by decide +kernel
theorem d_H_redo_8 : decode y_H_redo.2.1 8 = .ok (.invokevirtual 205, 3) := by decide +kernel
theorem d_H_redo_11 : decode y_H_redo.2.1 11 = .ok (.ireturn, 1) := by decide +kernel

abbrev y_H_within : MI := (⟨"CricketHay", "within", "(III)Z"⟩, prog_1_method_43_code, 3, (some .boolean))
theorem hy_H_within : y_H_within.1.cls ≠ "java/lang/invoke/MethodHandle" ∧ y_H_within.1.cls ≠ "java/lang/invoke/VarHandle" ∧ (parseMethodDescriptor y_H_within.1.desc).map (fun d => d.parameters.length) = some 3 := by decide +kernel
theorem d_H_within_0 : decode y_H_within.2.1 0 = .ok (.iload_n 0, 1) := by decide +kernel
theorem d_H_within_1 : decode y_H_within.2.1 1 = .ok (.iload_n 1, 1) := by decide +kernel
theorem d_H_within_2 : decode y_H_within.2.1 2 = .ok (.if_icmp .lt 12, 3) := by decide +kernel
theorem d_H_within_5 : decode y_H_within.2.1 5 = .ok (.iload_n 0, 1) := by decide +kernel
theorem d_H_within_6 : decode y_H_within.2.1 6 = .ok (.iload_n 2, 1) := by decide +kernel
theorem d_H_within_7 : decode y_H_within.2.1 7 = .ok (.if_icmp .gt 7, 3) := by decide +kernel
theorem d_H_within_10 : decode y_H_within.2.1 10 = .ok (.iconst 1, 1) := by decide +kernel
theorem d_H_within_11 : decode y_H_within.2.1 11 = .ok (.goto 4, 3) := by decide +kernel
theorem d_H_within_14 : decode y_H_within.2.1 14 = .ok (.iconst 0, 1) := by decide +kernel
theorem d_H_within_15 : decode y_H_within.2.1 15 = .ok (.ireturn, 1) := by decide +kernel

abbrev y_H_lookAhead : MI := (⟨"CricketHay", "lookAhead", "(I)V"⟩, prog_1_method_47_code, 3, none)
theorem hy_H_lookAhead : y_H_lookAhead.1.cls ≠ "java/lang/invoke/MethodHandle" ∧ y_H_lookAhead.1.cls ≠ "java/lang/invoke/VarHandle" ∧ (parseMethodDescriptor y_H_lookAhead.1.desc).map (fun d => d.parameters.length) = some 1 := by decide +kernel
theorem d_H_lookAhead_0 : decode y_H_lookAhead.2.1 0 = .ok (.aload_n 0, 1) := by decide +kernel
theorem d_H_lookAhead_1 : decode y_H_lookAhead.2.1 1 = .ok (.getfield 33, 3) := by decide +kernel
theorem d_H_lookAhead_4 : decode y_H_lookAhead.2.1 4 = .ok (.aload_n 0, 1) := by decide +kernel
theorem d_H_lookAhead_5 : decode y_H_lookAhead.2.1 5 = .ok (.getfield 29, 3) := by decide +kernel
theorem d_H_lookAhead_8 : decode y_H_lookAhead.2.1 8 = .ok (.invokevirtual 258, 3) := by decide +kernel
theorem d_H_lookAhead_11 : decode y_H_lookAhead.2.1 11 = .ok (.iconst 0, 1) := by decide +kernel
theorem d_H_lookAhead_12 : decode y_H_lookAhead.2.1 12 = .ok (.istore_n 2, 1) := by decide +kernel
theorem d_H_lookAhead_13 : decode y_H_lookAhead.2.1 13 = .ok (.iload_n 2, 1) := by decide +kernel
theorem d_H_lookAhead_14 : decode y_H_lookAhead.2.1 14 = .ok (.iload_n 1, 1) := by decide +kernel
theorem d_H_lookAhead_15 : decode y_H_lookAhead.2.1 15 = .ok (.if_icmp .ge 20, 3) := by decide +kernel
theorem d_H_lookAhead_18 : decode y_H_lookAhead.2.1 18 = .ok (.aload_n 0, 1) := by decide +kernel
theorem d_H_lookAhead_19 : decode y_H_lookAhead.2.1 19 = .ok (.getfield 33, 3) := by decide +kernel
theorem d_H_lookAhead_22 : decode y_H_lookAhead.2.1 22 = .ok (.aload_n 0, 1) := by decide +kernel
theorem d_H_lookAhead_23 : decode y_H_lookAhead.2.1 23 = .ok (.getfield 19, 3) := by decide +kernel
theorem d_H_lookAhead_26 : decode y_H_lookAhead.2.1 26 = .ok (.invokevirtual 198, 3) := by decide +kernel
theorem d_H_lookAhead_29 : decode y_H_lookAhead.2.1 29 = .ok (.iinc 2 1, 3) := by decide +kernel
theorem d_H_lookAhead_32 : decode y_H_lookAhead.2.1 32 = .ok (.goto (-19), 3) := by decide +kernel
theorem d_H_lookAhead_35 : decode y_H_lookAhead.2.1 35 = .ok (.return_, 1) := by decide +kernel
def f_H_fault  (a1 : Int32) (h : AH) : Option (Int32 × AH) :=
  if ¬ a1 = 0 then
    if ¬ a1 = (1 : Int32) then
      some ((-1 : Int32), h)
    else
      some ((hI h 1 11), h)
  else
    some ((hI h 1 10), h)
set_option maxHeartbeats 2000000 in
theorem ok_H_fault {G : AE} {n : Nat} (hn : NN ≤ n)  (a1 : Int32) (h : AH) : OK G n y_H_fault (1) φI [.ref 0, .int a1] h (f_H_fault a1 h) := by
  refine ok_of (y := y_H_fault) (lv0 := [some (.ref 0), some (.int a1)]) (by decide +kernel) (Nat.le_of_ble_eq_true rfl) ⟨rfl, ⟨rfl, trivial⟩⟩ ?_
  rw [f_H_fault]
  refine r_iload_n (pc := 0) (i := 1) d_H_fault_0 rfl rfl ?_
  refine r_if_ne (pc := 1) (tgt := 12) d_H_fault_1 (by rfl) ?_ ?_
  · refine r_iload_n (pc := 12) (i := 1) d_H_fault_12 rfl rfl ?_
    refine r_iconst (pc := 13) (v := 1) d_H_fault_13 (by rfl) ?_
    refine r_icmp_ne (pc := 14) (tgt := 27) d_H_fault_14 (by rfl) ?_ ?_
    · refine r_iconst (pc := 27) (v := -1) d_H_fault_27 (by rfl) ?_
      exact r_iret (pc := 28) rfl d_H_fault_28
    · refine r_aload_n (pc := 17) (i := 0) d_H_fault_17 rfl rfl ?_
      refine r_getf (pc := 18) (ci := 11) (k := 0) (C := "CricketHay") (T := F_11) (N := 13) (v := .ref 1) (fun s => Std.k s (lc hn rfl) kq_0) rfl (Nat.le_of_ble_eq_true rfl) rfl w_422 (fun s => vr rfl (Std.r s (lc hn rfl) rq_0_0)) d_H_fault_18 ?_
      refine r_getf (pc := 21) (ci := 9) (k := 11) (C := "CricketHay$Reader") (T := F_9) (N := 12) (v := .int (hI h 1 11)) (fun s => Std.k s (lc hn rfl) kq_1) rfl (Nat.le_of_ble_eq_true rfl) rfl w_50 (fun _ => rfl) d_H_fault_21 ?_
      refine r_goto (pc := 24) (tgt := 28) d_H_fault_24 (by rfl) ?_
      exact r_iret (pc := 28) rfl d_H_fault_28
  · refine r_aload_n (pc := 4) (i := 0) d_H_fault_4 rfl rfl ?_
    refine r_getf (pc := 5) (ci := 11) (k := 0) (C := "CricketHay") (T := F_11) (N := 13) (v := .ref 1) (fun s => Std.k s (lc hn rfl) kq_0) rfl (Nat.le_of_ble_eq_true rfl) rfl w_422 (fun s => vr rfl (Std.r s (lc hn rfl) rq_0_0)) d_H_fault_5 ?_
    refine r_getf (pc := 8) (ci := 9) (k := 10) (C := "CricketHay$Reader") (T := F_9) (N := 12) (v := .int (hI h 1 10)) (fun s => Std.k s (lc hn rfl) kq_1) rfl (Nat.le_of_ble_eq_true rfl) rfl w_48 (fun _ => rfl) d_H_fault_8 ?_
    exact r_iret (pc := 11) rfl d_H_fault_11

def f_Market_has  (t : Nat) (a1 : Int32) (h : AH) : Option (Int32 × AH) :=
  if a1 < 0 then
    some ((0 : Int32), h)
  else
    if (hI h t 11) ≤ a1 then
      some ((0 : Int32), h)
    else
      some ((1 : Int32), h)
set_option maxHeartbeats 2000000 in
theorem ok_Market_has {G : AE} {n : Nat} (hn : NN ≤ n)  (t : Nat) (ht : kdF t = .inr 7) (a1 : Int32) (h : AH) : OK G n y_Market_has (1) φI [.ref t, .int a1] h (f_Market_has t a1 h) := by
  refine ok_of (y := y_Market_has) (lv0 := [some (.ref t), some (.int a1)]) (by decide +kernel) (Nat.le_of_ble_eq_true rfl) ⟨rfl, ⟨rfl, trivial⟩⟩ ?_
  rw [f_Market_has]
  refine r_iload_n (pc := 0) (i := 1) d_Market_has_0 rfl rfl ?_
  refine r_if_lt (pc := 1) (tgt := 16) d_Market_has_1 (by rfl) ?_ ?_
  · refine r_iconst (pc := 16) (v := 0) d_Market_has_16 (by rfl) ?_
    exact r_zret (pc := 17) rfl rfl d_Market_has_17
  · refine r_iload_n (pc := 4) (i := 1) d_Market_has_4 rfl rfl ?_
    refine r_aload_n (pc := 5) (i := 0) d_Market_has_5 rfl rfl ?_
    refine r_getf (pc := 6) (ci := 7) (k := 11) (C := "CricketHay$Market") (T := F_7) (N := 16) (v := .int (hI h t 11)) (fun s => Std.k s (ltn (cm hn) (kl_M ht)) ht) rfl (Nat.le_of_ble_eq_true rfl) rfl w_153 (fun _ => rfl) d_Market_has_6 ?_
    refine r_icmp_ge (pc := 9) (tgt := 16) d_Market_has_9 (by rfl) ?_ ?_
    · refine r_iconst (pc := 16) (v := 0) d_Market_has_16 (by rfl) ?_
      exact r_zret (pc := 17) rfl rfl d_Market_has_17
    · refine r_iconst (pc := 12) (v := 1) d_Market_has_12 (by rfl) ?_
      refine r_goto (pc := 13) (tgt := 17) d_Market_has_13 (by rfl) ?_
      exact r_zret (pc := 17) rfl rfl d_Market_has_17

def f_Formula_isTold  (t : Nat) (h : AH) : Option (Int32 × AH) :=
  if (hI h t 3) ≤ 0 then
    some ((0 : Int32), h)
  else
    some ((1 : Int32), h)
set_option maxHeartbeats 2000000 in
theorem ok_Formula_isTold {G : AE} {n : Nat} (hn : NN ≤ n)  (t : Nat) (ht : kdF t = .inr 5) (h : AH) : OK G n y_Formula_isTold (1) φI [.ref t] h (f_Formula_isTold t h) := by
  refine ok_of (y := y_Formula_isTold) (lv0 := [some (.ref t)]) (by decide +kernel) (Nat.le_of_ble_eq_true rfl) ⟨rfl, trivial⟩ ?_
  rw [f_Formula_isTold]
  refine r_aload_n (pc := 0) (i := 0) d_Formula_isTold_0 rfl rfl ?_
  refine r_getf (pc := 1) (ci := 5) (k := 3) (C := "CricketHay$Formula") (T := F_5) (N := 5) (v := .int (hI h t 3)) (fun s => Std.k s (ltn (cm hn) (kl_F ht)) ht) rfl (Nat.le_of_ble_eq_true rfl) rfl w_92 (fun _ => rfl) d_Formula_isTold_1 ?_
  refine r_if_le (pc := 4) (tgt := 11) d_Formula_isTold_4 (by rfl) ?_ ?_
  · refine r_iconst (pc := 11) (v := 0) d_Formula_isTold_11 (by rfl) ?_
    exact r_zret (pc := 12) rfl rfl d_Formula_isTold_12
  · refine r_iconst (pc := 7) (v := 1) d_Formula_isTold_7 (by rfl) ?_
    refine r_goto (pc := 8) (tgt := 12) d_Formula_isTold_8 (by rfl) ?_
    exact r_zret (pc := 12) rfl rfl d_Formula_isTold_12

def f_Formula_takesTwo_b12  (a0 : Int32)   (h : AH) : Option (Int32 × AH) :=
  if a0 = (269 : Int32) then
    some ((1 : Int32), h)
  else
    if ¬ a0 = (270 : Int32) then
      some ((0 : Int32), h)
    else
      some ((1 : Int32), h)
set_option maxHeartbeats 2000000 in
theorem o_Formula_takesTwo_b12 {G : AE} {n : Nat} (hn : NN ≤ n)  {a0 : Int32}   : ∀  (h : AH), AJ G n y_Formula_takesTwo (1) φI 12 [some (.int a0)] [] h (f_Formula_takesTwo_b12 a0 h) := by
  intro  h
  rw [f_Formula_takesTwo_b12]
  refine r_iload_n (pc := 12) (i := 0) d_Formula_takesTwo_12 rfl rfl ?_
  refine r_sipush (pc := 13) (v := 269) d_Formula_takesTwo_13 (by rfl) ?_
  refine r_icmp_eq (pc := 16) (tgt := 26) d_Formula_takesTwo_16 (by rfl) ?_ ?_
  · refine r_iconst (pc := 26) (v := 1) d_Formula_takesTwo_26 (by rfl) ?_
    refine r_goto (pc := 27) (tgt := 31) d_Formula_takesTwo_27 (by rfl) ?_
    exact r_zret (pc := 31) rfl rfl d_Formula_takesTwo_31
  · refine r_iload_n (pc := 19) (i := 0) d_Formula_takesTwo_19 rfl rfl ?_
    refine r_sipush (pc := 20) (v := 270) d_Formula_takesTwo_20 (by rfl) ?_
    refine r_icmp_ne (pc := 23) (tgt := 30) d_Formula_takesTwo_23 (by rfl) ?_ ?_
    · refine r_iconst (pc := 30) (v := 0) d_Formula_takesTwo_30 (by rfl) ?_
      exact r_zret (pc := 31) rfl rfl d_Formula_takesTwo_31
    · refine r_iconst (pc := 26) (v := 1) d_Formula_takesTwo_26 (by rfl) ?_
      refine r_goto (pc := 27) (tgt := 31) d_Formula_takesTwo_27 (by rfl) ?_
      exact r_zret (pc := 31) rfl rfl d_Formula_takesTwo_31
def f_Formula_takesTwo  (a0 : Int32) (h : AH) : Option (Int32 × AH) :=
  if a0 ≤ (3 : Int32) then
    f_Formula_takesTwo_b12 a0 h
  else
    if a0 < (256 : Int32) then
      some ((1 : Int32), h)
    else
      f_Formula_takesTwo_b12 a0 h
set_option maxHeartbeats 2000000 in
theorem ok_Formula_takesTwo {G : AE} {n : Nat} (hn : NN ≤ n)  (a0 : Int32) (h : AH) : OK G n y_Formula_takesTwo (1) φI [.int a0] h (f_Formula_takesTwo a0 h) := by
  refine ok_of (y := y_Formula_takesTwo) (lv0 := [some (.int a0)]) (by decide +kernel) (Nat.le_of_ble_eq_true rfl) ⟨rfl, trivial⟩ ?_
  rw [f_Formula_takesTwo]
  refine r_iload_n (pc := 0) (i := 0) d_Formula_takesTwo_0 rfl rfl ?_
  refine r_iconst (pc := 1) (v := 3) d_Formula_takesTwo_1 (by rfl) ?_
  refine r_icmp_le (pc := 2) (tgt := 12) d_Formula_takesTwo_2 (by rfl) ?_ ?_
  · exact r_wk (o_Formula_takesTwo_b12 hn h) ⟨rfl, trivial⟩
  · refine r_iload_n (pc := 5) (i := 0) d_Formula_takesTwo_5 rfl rfl ?_
    refine r_sipush (pc := 6) (v := 256) d_Formula_takesTwo_6 (by rfl) ?_
    refine r_icmp_lt (pc := 9) (tgt := 26) d_Formula_takesTwo_9 (by rfl) ?_ ?_
    · refine r_iconst (pc := 26) (v := 1) d_Formula_takesTwo_26 (by rfl) ?_
      refine r_goto (pc := 27) (tgt := 31) d_Formula_takesTwo_27 (by rfl) ?_
      exact r_zret (pc := 31) rfl rfl d_Formula_takesTwo_31
    · exact r_wk (o_Formula_takesTwo_b12 hn h) ⟨rfl, trivial⟩

def f_Formula_join  (a0 : Int32) (a1 : Int32) (a2 : Int32) (h : AH) : Option (Int32 × AH) :=
  if a0 = (37 : Int32) then
    if ¬ a2 = 0 then
      gz a2 <|
      some ((a1 - a1 / a2 * a2), h)
    else
      some ((0 : Int32), h)
  else
  if a0 = (42 : Int32) then
    some ((a1 * a2), h)
  else
  if a0 = (43 : Int32) then
    some ((a1 + a2), h)
  else
  if a0 = (45 : Int32) then
    some ((a1 - a2), h)
  else
  if a0 = (47 : Int32) then
    if ¬ a2 = 0 then
      gz a2 <|
      some ((a1 / a2), h)
    else
      some ((0 : Int32), h)
  else
  if a0 = (60 : Int32) then
    if a2 ≤ a1 then
      some ((0 : Int32), h)
    else
      some ((1 : Int32), h)
  else
  if a0 = (61 : Int32) then
    if ¬ a1 = a2 then
      some ((0 : Int32), h)
    else
      some ((1 : Int32), h)
  else
  if a0 = (62 : Int32) then
    if a1 ≤ a2 then
      some ((0 : Int32), h)
    else
      some ((1 : Int32), h)
  else
  if a0 = (270 : Int32) then
    if a1 = 0 then
      some ((0 : Int32), h)
    else
      if a2 = 0 then
        some ((0 : Int32), h)
      else
        some ((1 : Int32), h)
  else
    if ¬ a1 = 0 then
      some ((1 : Int32), h)
    else
      if a2 = 0 then
        some ((0 : Int32), h)
      else
        some ((1 : Int32), h)
set_option maxHeartbeats 2000000 in
theorem ok_Formula_join {G : AE} {n : Nat} (hn : NN ≤ n)  (a0 : Int32) (a1 : Int32) (a2 : Int32) (h : AH) : OK G n y_Formula_join (1) φI [.int a0, .int a1, .int a2] h (f_Formula_join a0 a1 a2 h) := by
  refine ok_of (y := y_Formula_join) (lv0 := [some (.int a0), some (.int a1), some (.int a2)]) (by decide +kernel) (Nat.le_of_ble_eq_true rfl) ⟨rfl, ⟨rfl, ⟨rfl, trivial⟩⟩⟩ ?_
  rw [f_Formula_join]
  refine r_iload_n (pc := 0) (i := 0) d_Formula_join_0 rfl rfl ?_
  refine r_split (fun cq1 => ?_) (fun cq1 => ?_)
  · refine r_lookup (pc := 1) (tgt := 108) d_Formula_join_1 (by decide) (by rw [cq1] <;> rfl) (by rfl) ?_
    refine r_iload_n (pc := 108) (i := 2) d_Formula_join_108 rfl rfl ?_
    refine r_if_ne (pc := 109) (tgt := 116) d_Formula_join_109 (by rfl) ?_ ?_
    · refine r_iload_n (pc := 116) (i := 1) d_Formula_join_116 rfl rfl ?_
      refine r_iload_n (pc := 117) (i := 2) d_Formula_join_117 rfl rfl ?_
      refine r_gz (fun zq2 => ?_)
      refine r_iremC (pc := 118) zq2 d_Formula_join_118 ?_
      exact r_iret (pc := 119) rfl d_Formula_join_119
    · refine r_iconst (pc := 112) (v := 0) d_Formula_join_112 (by rfl) ?_
      refine r_goto (pc := 113) (tgt := 119) d_Formula_join_113 (by rfl) ?_
      exact r_iret (pc := 119) rfl d_Formula_join_119
  refine r_split (fun cq3 => ?_) (fun cq3 => ?_)
  · refine r_lookup (pc := 1) (tgt := 92) d_Formula_join_1 (by decide) (by rw [cq3] <;> rfl) (by rfl) ?_
    refine r_iload_n (pc := 92) (i := 1) d_Formula_join_92 rfl rfl ?_
    refine r_iload_n (pc := 93) (i := 2) d_Formula_join_93 rfl rfl ?_
    refine r_imul (pc := 94) d_Formula_join_94 ?_
    exact r_iret (pc := 95) rfl d_Formula_join_95
  refine r_split (fun cq4 => ?_) (fun cq4 => ?_)
  · refine r_lookup (pc := 1) (tgt := 84) d_Formula_join_1 (by decide) (by rw [cq4] <;> rfl) (by rfl) ?_
    refine r_iload_n (pc := 84) (i := 1) d_Formula_join_84 rfl rfl ?_
    refine r_iload_n (pc := 85) (i := 2) d_Formula_join_85 rfl rfl ?_
    refine r_iadd (pc := 86) d_Formula_join_86 ?_
    exact r_iret (pc := 87) rfl d_Formula_join_87
  refine r_split (fun cq5 => ?_) (fun cq5 => ?_)
  · refine r_lookup (pc := 1) (tgt := 88) d_Formula_join_1 (by decide) (by rw [cq5] <;> rfl) (by rfl) ?_
    refine r_iload_n (pc := 88) (i := 1) d_Formula_join_88 rfl rfl ?_
    refine r_iload_n (pc := 89) (i := 2) d_Formula_join_89 rfl rfl ?_
    refine r_isub (pc := 90) d_Formula_join_90 ?_
    exact r_iret (pc := 91) rfl d_Formula_join_91
  refine r_split (fun cq6 => ?_) (fun cq6 => ?_)
  · refine r_lookup (pc := 1) (tgt := 96) d_Formula_join_1 (by decide) (by rw [cq6] <;> rfl) (by rfl) ?_
    refine r_iload_n (pc := 96) (i := 2) d_Formula_join_96 rfl rfl ?_
    refine r_if_ne (pc := 97) (tgt := 104) d_Formula_join_97 (by rfl) ?_ ?_
    · refine r_iload_n (pc := 104) (i := 1) d_Formula_join_104 rfl rfl ?_
      refine r_iload_n (pc := 105) (i := 2) d_Formula_join_105 rfl rfl ?_
      refine r_gz (fun zq7 => ?_)
      refine r_idivC (pc := 106) zq7 d_Formula_join_106 ?_
      exact r_iret (pc := 107) rfl d_Formula_join_107
    · refine r_iconst (pc := 100) (v := 0) d_Formula_join_100 (by rfl) ?_
      refine r_goto (pc := 101) (tgt := 107) d_Formula_join_101 (by rfl) ?_
      exact r_iret (pc := 107) rfl d_Formula_join_107
  refine r_split (fun cq8 => ?_) (fun cq8 => ?_)
  · refine r_lookup (pc := 1) (tgt := 120) d_Formula_join_1 (by decide) (by rw [cq8] <;> rfl) (by rfl) ?_
    refine r_iload_n (pc := 120) (i := 1) d_Formula_join_120 rfl rfl ?_
    refine r_iload_n (pc := 121) (i := 2) d_Formula_join_121 rfl rfl ?_
    refine r_icmp_ge (pc := 122) (tgt := 129) d_Formula_join_122 (by rfl) ?_ ?_
    · refine r_iconst (pc := 129) (v := 0) d_Formula_join_129 (by rfl) ?_
      exact r_iret (pc := 130) rfl d_Formula_join_130
    · refine r_iconst (pc := 125) (v := 1) d_Formula_join_125 (by rfl) ?_
      refine r_goto (pc := 126) (tgt := 130) d_Formula_join_126 (by rfl) ?_
      exact r_iret (pc := 130) rfl d_Formula_join_130
  refine r_split (fun cq9 => ?_) (fun cq9 => ?_)
  · refine r_lookup (pc := 1) (tgt := 142) d_Formula_join_1 (by decide) (by rw [cq9] <;> rfl) (by rfl) ?_
    refine r_iload_n (pc := 142) (i := 1) d_Formula_join_142 rfl rfl ?_
    refine r_iload_n (pc := 143) (i := 2) d_Formula_join_143 rfl rfl ?_
    refine r_icmp_ne (pc := 144) (tgt := 151) d_Formula_join_144 (by rfl) ?_ ?_
    · refine r_iconst (pc := 151) (v := 0) d_Formula_join_151 (by rfl) ?_
      exact r_iret (pc := 152) rfl d_Formula_join_152
    · refine r_iconst (pc := 147) (v := 1) d_Formula_join_147 (by rfl) ?_
      refine r_goto (pc := 148) (tgt := 152) d_Formula_join_148 (by rfl) ?_
      exact r_iret (pc := 152) rfl d_Formula_join_152
  refine r_split (fun cq10 => ?_) (fun cq10 => ?_)
  · refine r_lookup (pc := 1) (tgt := 131) d_Formula_join_1 (by decide) (by rw [cq10] <;> rfl) (by rfl) ?_
    refine r_iload_n (pc := 131) (i := 1) d_Formula_join_131 rfl rfl ?_
    refine r_iload_n (pc := 132) (i := 2) d_Formula_join_132 rfl rfl ?_
    refine r_icmp_le (pc := 133) (tgt := 140) d_Formula_join_133 (by rfl) ?_ ?_
    · refine r_iconst (pc := 140) (v := 0) d_Formula_join_140 (by rfl) ?_
      exact r_iret (pc := 141) rfl d_Formula_join_141
    · refine r_iconst (pc := 136) (v := 1) d_Formula_join_136 (by rfl) ?_
      refine r_goto (pc := 137) (tgt := 141) d_Formula_join_137 (by rfl) ?_
      exact r_iret (pc := 141) rfl d_Formula_join_141
  refine r_split (fun cq11 => ?_) (fun cq11 => ?_)
  · refine r_lookup (pc := 1) (tgt := 153) d_Formula_join_1 (by decide) (by rw [cq11] <;> rfl) (by rfl) ?_
    refine r_iload_n (pc := 153) (i := 1) d_Formula_join_153 rfl rfl ?_
    refine r_if_eq (pc := 154) (tgt := 165) d_Formula_join_154 (by rfl) ?_ ?_
    · refine r_iconst (pc := 165) (v := 0) d_Formula_join_165 (by rfl) ?_
      exact r_iret (pc := 166) rfl d_Formula_join_166
    · refine r_iload_n (pc := 157) (i := 2) d_Formula_join_157 rfl rfl ?_
      refine r_if_eq (pc := 158) (tgt := 165) d_Formula_join_158 (by rfl) ?_ ?_
      · refine r_iconst (pc := 165) (v := 0) d_Formula_join_165 (by rfl) ?_
        exact r_iret (pc := 166) rfl d_Formula_join_166
      · refine r_iconst (pc := 161) (v := 1) d_Formula_join_161 (by rfl) ?_
        refine r_goto (pc := 162) (tgt := 166) d_Formula_join_162 (by rfl) ?_
        exact r_iret (pc := 166) rfl d_Formula_join_166
  refine r_lookup (pc := 1) (tgt := 167) d_Formula_join_1 (by decide) ((lv_osw cq1 (by rfl)).trans ((lv_osw cq3 (by rfl)).trans ((lv_osw cq4 (by rfl)).trans ((lv_osw cq5 (by rfl)).trans ((lv_osw cq6 (by rfl)).trans ((lv_osw cq8 (by rfl)).trans ((lv_osw cq9 (by rfl)).trans ((lv_osw cq10 (by rfl)).trans ((lv_osw cq11 (by rfl)).trans (rfl)))))))))) (by rfl) ?_
  refine r_iload_n (pc := 167) (i := 1) d_Formula_join_167 rfl rfl ?_
  refine r_if_ne (pc := 168) (tgt := 175) d_Formula_join_168 (by rfl) ?_ ?_
  · refine r_iconst (pc := 175) (v := 1) d_Formula_join_175 (by rfl) ?_
    refine r_goto (pc := 176) (tgt := 180) d_Formula_join_176 (by rfl) ?_
    exact r_iret (pc := 180) rfl d_Formula_join_180
  · refine r_iload_n (pc := 171) (i := 2) d_Formula_join_171 rfl rfl ?_
    refine r_if_eq (pc := 172) (tgt := 179) d_Formula_join_172 (by rfl) ?_ ?_
    · refine r_iconst (pc := 179) (v := 0) d_Formula_join_179 (by rfl) ?_
      exact r_iret (pc := 180) rfl d_Formula_join_180
    · refine r_iconst (pc := 175) (v := 1) d_Formula_join_175 (by rfl) ?_
      refine r_goto (pc := 176) (tgt := 180) d_Formula_join_176 (by rfl) ?_
      exact r_iret (pc := 180) rfl d_Formula_join_180

def f_Formula_value_l6  (t : Nat) (a1 : Int32) (a2 : Int32) (a3 : Int32) (a4 : Int32) (a5 : Int32) (a6 : Int32)  : Nat → Int32 → Int32 → AH → Option (Int32 × AH)
  | 0, _, _, _ => none
  | n + 1, x7, x8, h =>
    if (hI h t 3) ≤ x8 then
      if x7 ≤ 0 then
        some ((0 : Int32), h)
      else
        some ((hI h (t + 3) 0), h)
    else
      gx x8 270 <|
      lt (hI h (t + 1) (ix x8)) fun xq2 =>
      if ¬ xq2 = (271 : Int32) then
        bI (f_Formula_takesTwo xq2 h) fun rq3 hq4 =>
        if rq3 = 0 then
          if (nI 30) ≤ x7 then
            lt (x8 + (1 : Int32)) fun xq5 =>
            f_Formula_value_l6 t a1 a2 a3 a4 a5 a6 n x7 xq5 hq4
          else
            if xq2 = (259 : Int32) then
              gx x7 30 <|
              lt (sI hq4 (t + 3) (ix x7) a2) fun hq8 =>
              lt (x7 + (1 : Int32)) fun xq9 =>
              lt (x8 + (1 : Int32)) fun xq10 =>
              f_Formula_value_l6 t a1 a2 a3 a4 a5 a6 n xq9 xq10 hq8
            else
            if xq2 = (260 : Int32) then
              gx x7 30 <|
              lt (sI hq4 (t + 3) (ix x7) a3) fun hq13 =>
              lt (x7 + (1 : Int32)) fun xq14 =>
              lt (x8 + (1 : Int32)) fun xq15 =>
              f_Formula_value_l6 t a1 a2 a3 a4 a5 a6 n xq14 xq15 hq13
            else
            if xq2 = (265 : Int32) then
              gx x7 30 <|
              lt (sI hq4 (t + 3) (ix x7) a1) fun hq18 =>
              lt (x7 + (1 : Int32)) fun xq19 =>
              lt (x8 + (1 : Int32)) fun xq20 =>
              f_Formula_value_l6 t a1 a2 a3 a4 a5 a6 n xq19 xq20 hq18
            else
            if xq2 = (272 : Int32) then
              gx x7 30 <|
              lt (sI hq4 (t + 3) (ix x7) a4) fun hq23 =>
              lt (x7 + (1 : Int32)) fun xq24 =>
              lt (x8 + (1 : Int32)) fun xq25 =>
              f_Formula_value_l6 t a1 a2 a3 a4 a5 a6 n xq24 xq25 hq23
            else
            if xq2 = (273 : Int32) then
              gx x7 30 <|
              lt (sI hq4 (t + 3) (ix x7) a5) fun hq28 =>
              lt (x7 + (1 : Int32)) fun xq29 =>
              lt (x8 + (1 : Int32)) fun xq30 =>
              f_Formula_value_l6 t a1 a2 a3 a4 a5 a6 n xq29 xq30 hq28
            else
            if xq2 = (274 : Int32) then
              gx x7 30 <|
              lt (sI hq4 (t + 3) (ix x7) a6) fun hq33 =>
              lt (x7 + (1 : Int32)) fun xq34 =>
              lt (x8 + (1 : Int32)) fun xq35 =>
              f_Formula_value_l6 t a1 a2 a3 a4 a5 a6 n xq34 xq35 hq33
            else
              gx x8 270 <|
              gx x7 30 <|
              lt (sI hq4 (t + 3) (ix x7) (hI hq4 (t + 2) (ix x8))) fun hq38 =>
              lt (x7 + (1 : Int32)) fun xq39 =>
              lt (x8 + (1 : Int32)) fun xq40 =>
              f_Formula_value_l6 t a1 a2 a3 a4 a5 a6 n xq39 xq40 hq38
        else
          if x7 < (2 : Int32) then
            lt (x8 + (1 : Int32)) fun xq41 =>
            f_Formula_value_l6 t a1 a2 a3 a4 a5 a6 n x7 xq41 hq4
          else
            lt (x7 + (-1 : Int32)) fun xq42 =>
            gx (xq42 - (1 : Int32)) 30 <|
            gx xq42 30 <|
            bI (f_Formula_join xq2 (hI hq4 (t + 3) (ix (xq42 - (1 : Int32)))) (hI hq4 (t + 3) (ix xq42)) hq4) fun rq45 hq46 =>
            gx (xq42 - (1 : Int32)) 30 <|
            lt (sI hq46 (t + 3) (ix (xq42 - (1 : Int32))) rq45) fun hq48 =>
            lt (x8 + (1 : Int32)) fun xq49 =>
            f_Formula_value_l6 t a1 a2 a3 a4 a5 a6 n xq42 xq49 hq48
      else
        if x7 < (1 : Int32) then
          lt (x8 + (1 : Int32)) fun xq50 =>
          f_Formula_value_l6 t a1 a2 a3 a4 a5 a6 n x7 xq50 h
        else
          gx (x7 - (1 : Int32)) 30 <|
          if ¬ (hI h (t + 3) (ix (x7 - (1 : Int32)))) = 0 then
            gx (x7 - (1 : Int32)) 30 <|
            lt (sI h (t + 3) (ix (x7 - (1 : Int32))) (0 : Int32)) fun hq53 =>
            lt (x8 + (1 : Int32)) fun xq54 =>
            f_Formula_value_l6 t a1 a2 a3 a4 a5 a6 n x7 xq54 hq53
          else
            gx (x7 - (1 : Int32)) 30 <|
            lt (sI h (t + 3) (ix (x7 - (1 : Int32))) (1 : Int32)) fun hq56 =>
            lt (x8 + (1 : Int32)) fun xq57 =>
            f_Formula_value_l6 t a1 a2 a3 a4 a5 a6 n x7 xq57 hq56
set_option maxHeartbeats 2000000 in
theorem o_Formula_value_l6 {G : AE} {n : Nat} (hn : NN ≤ n)  {t : Nat} {a1 : Int32} {a2 : Int32} {a3 : Int32} {a4 : Int32} {a5 : Int32} {a6 : Int32} (ht : kdF t = .inr 5)  : ∀ (n0 : Nat) (x7 : Int32) (x8 : Int32) (h : AH), AJ G n y_Formula_value (2) φI 6 [some (.ref t), some (.int a1), some (.int a2), some (.int a3), some (.int a4), some (.int a5), some (.int a6), some (.int x7), some (.int x8), none] [] h (f_Formula_value_l6 t a1 a2 a3 a4 a5 a6 n0 x7 x8 h) := by
  intro n0
  induction n0 with
  | zero => intros; exact r_none
  | succ n0 ih =>
    intro x7 x8 h
    rw [f_Formula_value_l6]
    refine r_iload (pc := 6) d_Formula_value_6 rfl ?_
    refine r_aload_n (pc := 8) (i := 0) d_Formula_value_8 rfl rfl ?_
    refine r_getf (pc := 9) (ci := 5) (k := 3) (C := "CricketHay$Formula") (T := F_5) (N := 5) (v := .int (hI h t 3)) (fun s => Std.k s (ltn (cm hn) (kl_F ht)) ht) rfl (Nat.le_of_ble_eq_true rfl) rfl w_92 (fun _ => rfl) d_Formula_value_9 ?_
    refine r_icmp_ge (pc := 12) (tgt := 300) d_Formula_value_12 (by rfl) ?_ ?_
    · refine r_iload (pc := 300) d_Formula_value_300 rfl ?_
      refine r_if_le (pc := 302) (tgt := 314) d_Formula_value_302 (by rfl) ?_ ?_
      · refine r_iconst (pc := 314) (v := 0) d_Formula_value_314 (by rfl) ?_
        exact r_iret (pc := 315) rfl d_Formula_value_315
      · refine r_aload_n (pc := 305) (i := 0) d_Formula_value_305 rfl rfl ?_
        refine r_getf (pc := 306) (ci := 5) (k := 2) (C := "CricketHay$Formula") (T := F_5) (N := 5) (v := .ref (t + 3)) (fun s => Std.k s (ltn (cm hn) (kl_F ht)) ht) rfl (Nat.le_of_ble_eq_true rfl) rfl w_91 (fun s => vr rfl (Std.r s (ltn (cm hn) (kl_F ht)) (rr_F_2 ht))) d_Formula_value_306 ?_
        refine r_iconst (pc := 309) (v := 0) d_Formula_value_309 (by rfl) ?_
        refine r_iald (pc := 310) (n := 30) (i0 := 0) (fun s => Std.k s (ltn (cm hn) (kj_F_2 ht)) (kk_F_2 ht)) (vin (k := 0) rfl rfl) rfl d_Formula_value_310 ?_
        refine r_goto (pc := 311) (tgt := 315) d_Formula_value_311 (by rfl) ?_
        exact r_iret (pc := 315) rfl d_Formula_value_315
    · refine r_aload_n (pc := 15) (i := 0) d_Formula_value_15 rfl rfl ?_
      refine r_getf (pc := 16) (ci := 5) (k := 0) (C := "CricketHay$Formula") (T := F_5) (N := 5) (v := .ref (t + 1)) (fun s => Std.k s (ltn (cm hn) (kl_F ht)) ht) rfl (Nat.le_of_ble_eq_true rfl) rfl w_89 (fun s => vr rfl (Std.r s (ltn (cm hn) (kl_F ht)) (rr_F_0 ht))) d_Formula_value_16 ?_
      refine r_iload (pc := 19) d_Formula_value_19 rfl ?_
      refine r_gx (fun zq1 => ?_)
      refine r_iald (pc := 21) (n := 270) (i0 := (ix x8)) (fun s => Std.k s (ltn (cm hn) (kj_F_0 ht)) (kk_F_0 ht)) zq1 rfl d_Formula_value_21 ?_
      refine r_ltI (fun xq2 => ?_)
      refine r_istore (pc := 22) (lv1 := [some (.ref t), some (.int a1), some (.int a2), some (.int a3), some (.int a4), some (.int a5), some (.int a6), some (.int x7), some (.int x8), some (.int xq2)]) d_Formula_value_22 (Nat.le_of_ble_eq_true rfl) rfl ?_
      refine r_iload (pc := 24) d_Formula_value_24 rfl ?_
      refine r_sipush (pc := 26) (v := 271) d_Formula_value_26 (by rfl) ?_
      refine r_icmp_ne (pc := 29) (tgt := 67) d_Formula_value_29 (by rfl) ?_ ?_
      · refine r_iload (pc := 67) d_Formula_value_67 rfl ?_
        refine r_cSi (pc := 69) (st := []) (ok_Formula_takesTwo hn xq2 h) w_687 w_4 w_685 w_686 hy_Formula_takesTwo ⟨Nat.le_of_ble_eq_true rfl, Nat.le_of_ble_eq_true rfl⟩ ⟨Nat.le_of_ble_eq_true rfl, Nat.le_of_ble_eq_true rfl⟩ rfl (Nat.le_of_ble_eq_true rfl) d_Formula_value_69 (fun rq3 hq4 => ?_)
        refine r_if_eq (pc := 72) (tgt := 117) d_Formula_value_72 (by rfl) ?_ ?_
        · refine r_iload (pc := 117) d_Formula_value_117 rfl ?_
          refine r_aload_n (pc := 119) (i := 0) d_Formula_value_119 rfl rfl ?_
          refine r_getf (pc := 120) (ci := 5) (k := 2) (C := "CricketHay$Formula") (T := F_5) (N := 5) (v := .ref (t + 3)) (fun s => Std.k s (ltn (cm hn) (kl_F ht)) ht) rfl (Nat.le_of_ble_eq_true rfl) rfl w_91 (fun s => vr rfl (Std.r s (ltn (cm hn) (kl_F ht)) (rr_F_2 ht))) d_Formula_value_120 ?_
          refine r_alen (pc := 123) (n := 30) (fun s => Std.k s (ltn (cm hn) (kj_F_2 ht)) (kk_F_2 ht)) d_Formula_value_123 ?_
          refine r_icmp_ge (pc := 124) (tgt := 294) d_Formula_value_124 (by rfl) ?_ ?_
          · refine r_ltE (fun xq5 exq5 => ?_)
            refine r_iinc (pc := 294) (v := xq5) (lv1 := [some (.ref t), some (.int a1), some (.int a2), some (.int a3), some (.int a4), some (.int a5), some (.int a6), some (.int x7), some (.int xq5), some (.int xq2)]) d_Formula_value_294 rfl exq5.symm (Nat.le_of_ble_eq_true rfl) rfl ?_
            refine r_goto (pc := 297) (tgt := 6) d_Formula_value_297 (by rfl) ?_
            exact r_wk (ih x7 xq5 hq4) ⟨rfl, ⟨rfl, ⟨rfl, ⟨rfl, ⟨rfl, ⟨rfl, ⟨rfl, ⟨rfl, ⟨rfl, trivial⟩⟩⟩⟩⟩⟩⟩⟩⟩
          · refine r_iload (pc := 127) d_Formula_value_127 rfl ?_
            refine r_split (fun cq6 => ?_) (fun cq6 => ?_)
            · refine r_tableIn (pc := 129) (tgt := 219) d_Formula_value_129 (by rw [cq6]; decide) (by rw [cq6]; decide) (by rw [cq6] <;> rfl) (by rfl) ?_
              refine r_aload_n (pc := 219) (i := 0) d_Formula_value_219 rfl rfl ?_
              refine r_getf (pc := 220) (ci := 5) (k := 2) (C := "CricketHay$Formula") (T := F_5) (N := 5) (v := .ref (t + 3)) (fun s => Std.k s (ltn (cm hn) (kl_F ht)) ht) rfl (Nat.le_of_ble_eq_true rfl) rfl w_91 (fun s => vr rfl (Std.r s (ltn (cm hn) (kl_F ht)) (rr_F_2 ht))) d_Formula_value_220 ?_
              refine r_iload (pc := 223) d_Formula_value_223 rfl ?_
              refine r_iload_n (pc := 225) (i := 2) d_Formula_value_225 rfl rfl ?_
              refine r_gx (fun zq7 => ?_)
              refine r_iast (pc := 226) (n := 30) (i0 := (ix x7)) (fun s => Std.k s (ltn (cm hn) (kj_F_2 ht)) (kk_F_2 ht)) zq7 rfl (fun s => Std.sI s _ _ _) d_Formula_value_226 ?_
              refine r_ltH (fun hq8 => ?_)
              refine r_goto (pc := 227) (tgt := 291) d_Formula_value_227 (by rfl) ?_
              refine r_ltE (fun xq9 exq9 => ?_)
              refine r_iinc (pc := 291) (v := xq9) (lv1 := [some (.ref t), some (.int a1), some (.int a2), some (.int a3), some (.int a4), some (.int a5), some (.int a6), some (.int xq9), some (.int x8), some (.int xq2)]) d_Formula_value_291 rfl exq9.symm (Nat.le_of_ble_eq_true rfl) rfl ?_
              refine r_ltE (fun xq10 exq10 => ?_)
              refine r_iinc (pc := 294) (v := xq10) (lv1 := [some (.ref t), some (.int a1), some (.int a2), some (.int a3), some (.int a4), some (.int a5), some (.int a6), some (.int xq9), some (.int xq10), some (.int xq2)]) d_Formula_value_294 rfl exq10.symm (Nat.le_of_ble_eq_true rfl) rfl ?_
              refine r_goto (pc := 297) (tgt := 6) d_Formula_value_297 (by rfl) ?_
              exact r_wk (ih xq9 xq10 hq8) ⟨rfl, ⟨rfl, ⟨rfl, ⟨rfl, ⟨rfl, ⟨rfl, ⟨rfl, ⟨rfl, ⟨rfl, trivial⟩⟩⟩⟩⟩⟩⟩⟩⟩
            refine r_split (fun cq11 => ?_) (fun cq11 => ?_)
            · refine r_tableIn (pc := 129) (tgt := 230) d_Formula_value_129 (by rw [cq11]; decide) (by rw [cq11]; decide) (by rw [cq11] <;> rfl) (by rfl) ?_
              refine r_aload_n (pc := 230) (i := 0) d_Formula_value_230 rfl rfl ?_
              refine r_getf (pc := 231) (ci := 5) (k := 2) (C := "CricketHay$Formula") (T := F_5) (N := 5) (v := .ref (t + 3)) (fun s => Std.k s (ltn (cm hn) (kl_F ht)) ht) rfl (Nat.le_of_ble_eq_true rfl) rfl w_91 (fun s => vr rfl (Std.r s (ltn (cm hn) (kl_F ht)) (rr_F_2 ht))) d_Formula_value_231 ?_
              refine r_iload (pc := 234) d_Formula_value_234 rfl ?_
              refine r_iload_n (pc := 236) (i := 3) d_Formula_value_236 rfl rfl ?_
              refine r_gx (fun zq12 => ?_)
              refine r_iast (pc := 237) (n := 30) (i0 := (ix x7)) (fun s => Std.k s (ltn (cm hn) (kj_F_2 ht)) (kk_F_2 ht)) zq12 rfl (fun s => Std.sI s _ _ _) d_Formula_value_237 ?_
              refine r_ltH (fun hq13 => ?_)
              refine r_goto (pc := 238) (tgt := 291) d_Formula_value_238 (by rfl) ?_
              refine r_ltE (fun xq14 exq14 => ?_)
              refine r_iinc (pc := 291) (v := xq14) (lv1 := [some (.ref t), some (.int a1), some (.int a2), some (.int a3), some (.int a4), some (.int a5), some (.int a6), some (.int xq14), some (.int x8), some (.int xq2)]) d_Formula_value_291 rfl exq14.symm (Nat.le_of_ble_eq_true rfl) rfl ?_
              refine r_ltE (fun xq15 exq15 => ?_)
              refine r_iinc (pc := 294) (v := xq15) (lv1 := [some (.ref t), some (.int a1), some (.int a2), some (.int a3), some (.int a4), some (.int a5), some (.int a6), some (.int xq14), some (.int xq15), some (.int xq2)]) d_Formula_value_294 rfl exq15.symm (Nat.le_of_ble_eq_true rfl) rfl ?_
              refine r_goto (pc := 297) (tgt := 6) d_Formula_value_297 (by rfl) ?_
              exact r_wk (ih xq14 xq15 hq13) ⟨rfl, ⟨rfl, ⟨rfl, ⟨rfl, ⟨rfl, ⟨rfl, ⟨rfl, ⟨rfl, ⟨rfl, trivial⟩⟩⟩⟩⟩⟩⟩⟩⟩
            refine r_split (fun cq16 => ?_) (fun cq16 => ?_)
            · refine r_tableIn (pc := 129) (tgt := 208) d_Formula_value_129 (by rw [cq16]; decide) (by rw [cq16]; decide) (by rw [cq16] <;> rfl) (by rfl) ?_
              refine r_aload_n (pc := 208) (i := 0) d_Formula_value_208 rfl rfl ?_
              refine r_getf (pc := 209) (ci := 5) (k := 2) (C := "CricketHay$Formula") (T := F_5) (N := 5) (v := .ref (t + 3)) (fun s => Std.k s (ltn (cm hn) (kl_F ht)) ht) rfl (Nat.le_of_ble_eq_true rfl) rfl w_91 (fun s => vr rfl (Std.r s (ltn (cm hn) (kl_F ht)) (rr_F_2 ht))) d_Formula_value_209 ?_
              refine r_iload (pc := 212) d_Formula_value_212 rfl ?_
              refine r_iload_n (pc := 214) (i := 1) d_Formula_value_214 rfl rfl ?_
              refine r_gx (fun zq17 => ?_)
              refine r_iast (pc := 215) (n := 30) (i0 := (ix x7)) (fun s => Std.k s (ltn (cm hn) (kj_F_2 ht)) (kk_F_2 ht)) zq17 rfl (fun s => Std.sI s _ _ _) d_Formula_value_215 ?_
              refine r_ltH (fun hq18 => ?_)
              refine r_goto (pc := 216) (tgt := 291) d_Formula_value_216 (by rfl) ?_
              refine r_ltE (fun xq19 exq19 => ?_)
              refine r_iinc (pc := 291) (v := xq19) (lv1 := [some (.ref t), some (.int a1), some (.int a2), some (.int a3), some (.int a4), some (.int a5), some (.int a6), some (.int xq19), some (.int x8), some (.int xq2)]) d_Formula_value_291 rfl exq19.symm (Nat.le_of_ble_eq_true rfl) rfl ?_
              refine r_ltE (fun xq20 exq20 => ?_)
              refine r_iinc (pc := 294) (v := xq20) (lv1 := [some (.ref t), some (.int a1), some (.int a2), some (.int a3), some (.int a4), some (.int a5), some (.int a6), some (.int xq19), some (.int xq20), some (.int xq2)]) d_Formula_value_294 rfl exq20.symm (Nat.le_of_ble_eq_true rfl) rfl ?_
              refine r_goto (pc := 297) (tgt := 6) d_Formula_value_297 (by rfl) ?_
              exact r_wk (ih xq19 xq20 hq18) ⟨rfl, ⟨rfl, ⟨rfl, ⟨rfl, ⟨rfl, ⟨rfl, ⟨rfl, ⟨rfl, ⟨rfl, trivial⟩⟩⟩⟩⟩⟩⟩⟩⟩
            refine r_split (fun cq21 => ?_) (fun cq21 => ?_)
            · refine r_tableIn (pc := 129) (tgt := 241) d_Formula_value_129 (by rw [cq21]; decide) (by rw [cq21]; decide) (by rw [cq21] <;> rfl) (by rfl) ?_
              refine r_aload_n (pc := 241) (i := 0) d_Formula_value_241 rfl rfl ?_
              refine r_getf (pc := 242) (ci := 5) (k := 2) (C := "CricketHay$Formula") (T := F_5) (N := 5) (v := .ref (t + 3)) (fun s => Std.k s (ltn (cm hn) (kl_F ht)) ht) rfl (Nat.le_of_ble_eq_true rfl) rfl w_91 (fun s => vr rfl (Std.r s (ltn (cm hn) (kl_F ht)) (rr_F_2 ht))) d_Formula_value_242 ?_
              refine r_iload (pc := 245) d_Formula_value_245 rfl ?_
              refine r_iload (pc := 247) d_Formula_value_247 rfl ?_
              refine r_gx (fun zq22 => ?_)
              refine r_iast (pc := 249) (n := 30) (i0 := (ix x7)) (fun s => Std.k s (ltn (cm hn) (kj_F_2 ht)) (kk_F_2 ht)) zq22 rfl (fun s => Std.sI s _ _ _) d_Formula_value_249 ?_
              refine r_ltH (fun hq23 => ?_)
              refine r_goto (pc := 250) (tgt := 291) d_Formula_value_250 (by rfl) ?_
              refine r_ltE (fun xq24 exq24 => ?_)
              refine r_iinc (pc := 291) (v := xq24) (lv1 := [some (.ref t), some (.int a1), some (.int a2), some (.int a3), some (.int a4), some (.int a5), some (.int a6), some (.int xq24), some (.int x8), some (.int xq2)]) d_Formula_value_291 rfl exq24.symm (Nat.le_of_ble_eq_true rfl) rfl ?_
              refine r_ltE (fun xq25 exq25 => ?_)
              refine r_iinc (pc := 294) (v := xq25) (lv1 := [some (.ref t), some (.int a1), some (.int a2), some (.int a3), some (.int a4), some (.int a5), some (.int a6), some (.int xq24), some (.int xq25), some (.int xq2)]) d_Formula_value_294 rfl exq25.symm (Nat.le_of_ble_eq_true rfl) rfl ?_
              refine r_goto (pc := 297) (tgt := 6) d_Formula_value_297 (by rfl) ?_
              exact r_wk (ih xq24 xq25 hq23) ⟨rfl, ⟨rfl, ⟨rfl, ⟨rfl, ⟨rfl, ⟨rfl, ⟨rfl, ⟨rfl, ⟨rfl, trivial⟩⟩⟩⟩⟩⟩⟩⟩⟩
            refine r_split (fun cq26 => ?_) (fun cq26 => ?_)
            · refine r_tableIn (pc := 129) (tgt := 253) d_Formula_value_129 (by rw [cq26]; decide) (by rw [cq26]; decide) (by rw [cq26] <;> rfl) (by rfl) ?_
              refine r_aload_n (pc := 253) (i := 0) d_Formula_value_253 rfl rfl ?_
              refine r_getf (pc := 254) (ci := 5) (k := 2) (C := "CricketHay$Formula") (T := F_5) (N := 5) (v := .ref (t + 3)) (fun s => Std.k s (ltn (cm hn) (kl_F ht)) ht) rfl (Nat.le_of_ble_eq_true rfl) rfl w_91 (fun s => vr rfl (Std.r s (ltn (cm hn) (kl_F ht)) (rr_F_2 ht))) d_Formula_value_254 ?_
              refine r_iload (pc := 257) d_Formula_value_257 rfl ?_
              refine r_iload (pc := 259) d_Formula_value_259 rfl ?_
              refine r_gx (fun zq27 => ?_)
              refine r_iast (pc := 261) (n := 30) (i0 := (ix x7)) (fun s => Std.k s (ltn (cm hn) (kj_F_2 ht)) (kk_F_2 ht)) zq27 rfl (fun s => Std.sI s _ _ _) d_Formula_value_261 ?_
              refine r_ltH (fun hq28 => ?_)
              refine r_goto (pc := 262) (tgt := 291) d_Formula_value_262 (by rfl) ?_
              refine r_ltE (fun xq29 exq29 => ?_)
              refine r_iinc (pc := 291) (v := xq29) (lv1 := [some (.ref t), some (.int a1), some (.int a2), some (.int a3), some (.int a4), some (.int a5), some (.int a6), some (.int xq29), some (.int x8), some (.int xq2)]) d_Formula_value_291 rfl exq29.symm (Nat.le_of_ble_eq_true rfl) rfl ?_
              refine r_ltE (fun xq30 exq30 => ?_)
              refine r_iinc (pc := 294) (v := xq30) (lv1 := [some (.ref t), some (.int a1), some (.int a2), some (.int a3), some (.int a4), some (.int a5), some (.int a6), some (.int xq29), some (.int xq30), some (.int xq2)]) d_Formula_value_294 rfl exq30.symm (Nat.le_of_ble_eq_true rfl) rfl ?_
              refine r_goto (pc := 297) (tgt := 6) d_Formula_value_297 (by rfl) ?_
              exact r_wk (ih xq29 xq30 hq28) ⟨rfl, ⟨rfl, ⟨rfl, ⟨rfl, ⟨rfl, ⟨rfl, ⟨rfl, ⟨rfl, ⟨rfl, trivial⟩⟩⟩⟩⟩⟩⟩⟩⟩
            refine r_split (fun cq31 => ?_) (fun cq31 => ?_)
            · refine r_tableIn (pc := 129) (tgt := 265) d_Formula_value_129 (by rw [cq31]; decide) (by rw [cq31]; decide) (by rw [cq31] <;> rfl) (by rfl) ?_
              refine r_aload_n (pc := 265) (i := 0) d_Formula_value_265 rfl rfl ?_
              refine r_getf (pc := 266) (ci := 5) (k := 2) (C := "CricketHay$Formula") (T := F_5) (N := 5) (v := .ref (t + 3)) (fun s => Std.k s (ltn (cm hn) (kl_F ht)) ht) rfl (Nat.le_of_ble_eq_true rfl) rfl w_91 (fun s => vr rfl (Std.r s (ltn (cm hn) (kl_F ht)) (rr_F_2 ht))) d_Formula_value_266 ?_
              refine r_iload (pc := 269) d_Formula_value_269 rfl ?_
              refine r_iload (pc := 271) d_Formula_value_271 rfl ?_
              refine r_gx (fun zq32 => ?_)
              refine r_iast (pc := 273) (n := 30) (i0 := (ix x7)) (fun s => Std.k s (ltn (cm hn) (kj_F_2 ht)) (kk_F_2 ht)) zq32 rfl (fun s => Std.sI s _ _ _) d_Formula_value_273 ?_
              refine r_ltH (fun hq33 => ?_)
              refine r_goto (pc := 274) (tgt := 291) d_Formula_value_274 (by rfl) ?_
              refine r_ltE (fun xq34 exq34 => ?_)
              refine r_iinc (pc := 291) (v := xq34) (lv1 := [some (.ref t), some (.int a1), some (.int a2), some (.int a3), some (.int a4), some (.int a5), some (.int a6), some (.int xq34), some (.int x8), some (.int xq2)]) d_Formula_value_291 rfl exq34.symm (Nat.le_of_ble_eq_true rfl) rfl ?_
              refine r_ltE (fun xq35 exq35 => ?_)
              refine r_iinc (pc := 294) (v := xq35) (lv1 := [some (.ref t), some (.int a1), some (.int a2), some (.int a3), some (.int a4), some (.int a5), some (.int a6), some (.int xq34), some (.int xq35), some (.int xq2)]) d_Formula_value_294 rfl exq35.symm (Nat.le_of_ble_eq_true rfl) rfl ?_
              refine r_goto (pc := 297) (tgt := 6) d_Formula_value_297 (by rfl) ?_
              exact r_wk (ih xq34 xq35 hq33) ⟨rfl, ⟨rfl, ⟨rfl, ⟨rfl, ⟨rfl, ⟨rfl, ⟨rfl, ⟨rfl, ⟨rfl, trivial⟩⟩⟩⟩⟩⟩⟩⟩⟩
            refine r_tableD (pc := 129) (tgt := 277) d_Formula_value_129 [259, 260, 265, 272, 273, 274] (List.forall_mem_cons.mpr ⟨lv_neT cq6 (show ((259 : Int32)).toInt = 259 from rfl), List.forall_mem_cons.mpr ⟨lv_neT cq11 (show ((260 : Int32)).toInt = 260 from rfl), List.forall_mem_cons.mpr ⟨lv_neT cq16 (show ((265 : Int32)).toInt = 265 from rfl), List.forall_mem_cons.mpr ⟨lv_neT cq21 (show ((272 : Int32)).toInt = 272 from rfl), List.forall_mem_cons.mpr ⟨lv_neT cq26 (show ((273 : Int32)).toInt = 273 from rfl), List.forall_mem_cons.mpr ⟨lv_neT cq31 (show ((274 : Int32)).toInt = 274 from rfl), List.forall_mem_nil _⟩⟩⟩⟩⟩⟩) (by decide) (by rfl) ?_
            refine r_aload_n (pc := 277) (i := 0) d_Formula_value_277 rfl rfl ?_
            refine r_getf (pc := 278) (ci := 5) (k := 2) (C := "CricketHay$Formula") (T := F_5) (N := 5) (v := .ref (t + 3)) (fun s => Std.k s (ltn (cm hn) (kl_F ht)) ht) rfl (Nat.le_of_ble_eq_true rfl) rfl w_91 (fun s => vr rfl (Std.r s (ltn (cm hn) (kl_F ht)) (rr_F_2 ht))) d_Formula_value_278 ?_
            refine r_iload (pc := 281) d_Formula_value_281 rfl ?_
            refine r_aload_n (pc := 283) (i := 0) d_Formula_value_283 rfl rfl ?_
            refine r_getf (pc := 284) (ci := 5) (k := 1) (C := "CricketHay$Formula") (T := F_5) (N := 5) (v := .ref (t + 2)) (fun s => Std.k s (ltn (cm hn) (kl_F ht)) ht) rfl (Nat.le_of_ble_eq_true rfl) rfl w_90 (fun s => vr rfl (Std.r s (ltn (cm hn) (kl_F ht)) (rr_F_1 ht))) d_Formula_value_284 ?_
            refine r_iload (pc := 287) d_Formula_value_287 rfl ?_
            refine r_gx (fun zq36 => ?_)
            refine r_iald (pc := 289) (n := 270) (i0 := (ix x8)) (fun s => Std.k s (ltn (cm hn) (kj_F_1 ht)) (kk_F_1 ht)) zq36 rfl d_Formula_value_289 ?_
            refine r_gx (fun zq37 => ?_)
            refine r_iast (pc := 290) (n := 30) (i0 := (ix x7)) (fun s => Std.k s (ltn (cm hn) (kj_F_2 ht)) (kk_F_2 ht)) zq37 rfl (fun s => Std.sI s _ _ _) d_Formula_value_290 ?_
            refine r_ltH (fun hq38 => ?_)
            refine r_ltE (fun xq39 exq39 => ?_)
            refine r_iinc (pc := 291) (v := xq39) (lv1 := [some (.ref t), some (.int a1), some (.int a2), some (.int a3), some (.int a4), some (.int a5), some (.int a6), some (.int xq39), some (.int x8), some (.int xq2)]) d_Formula_value_291 rfl exq39.symm (Nat.le_of_ble_eq_true rfl) rfl ?_
            refine r_ltE (fun xq40 exq40 => ?_)
            refine r_iinc (pc := 294) (v := xq40) (lv1 := [some (.ref t), some (.int a1), some (.int a2), some (.int a3), some (.int a4), some (.int a5), some (.int a6), some (.int xq39), some (.int xq40), some (.int xq2)]) d_Formula_value_294 rfl exq40.symm (Nat.le_of_ble_eq_true rfl) rfl ?_
            refine r_goto (pc := 297) (tgt := 6) d_Formula_value_297 (by rfl) ?_
            exact r_wk (ih xq39 xq40 hq38) ⟨rfl, ⟨rfl, ⟨rfl, ⟨rfl, ⟨rfl, ⟨rfl, ⟨rfl, ⟨rfl, ⟨rfl, trivial⟩⟩⟩⟩⟩⟩⟩⟩⟩
        · refine r_iload (pc := 75) d_Formula_value_75 rfl ?_
          refine r_iconst (pc := 77) (v := 2) d_Formula_value_77 (by rfl) ?_
          refine r_icmp_lt (pc := 78) (tgt := 294) d_Formula_value_78 (by rfl) ?_ ?_
          · refine r_ltE (fun xq41 exq41 => ?_)
            refine r_iinc (pc := 294) (v := xq41) (lv1 := [some (.ref t), some (.int a1), some (.int a2), some (.int a3), some (.int a4), some (.int a5), some (.int a6), some (.int x7), some (.int xq41), some (.int xq2)]) d_Formula_value_294 rfl exq41.symm (Nat.le_of_ble_eq_true rfl) rfl ?_
            refine r_goto (pc := 297) (tgt := 6) d_Formula_value_297 (by rfl) ?_
            exact r_wk (ih x7 xq41 hq4) ⟨rfl, ⟨rfl, ⟨rfl, ⟨rfl, ⟨rfl, ⟨rfl, ⟨rfl, ⟨rfl, ⟨rfl, trivial⟩⟩⟩⟩⟩⟩⟩⟩⟩
          · refine r_ltE (fun xq42 exq42 => ?_)
            refine r_iinc (pc := 81) (v := xq42) (lv1 := [some (.ref t), some (.int a1), some (.int a2), some (.int a3), some (.int a4), some (.int a5), some (.int a6), some (.int xq42), some (.int x8), some (.int xq2)]) d_Formula_value_81 rfl exq42.symm (Nat.le_of_ble_eq_true rfl) rfl ?_
            refine r_aload_n (pc := 84) (i := 0) d_Formula_value_84 rfl rfl ?_
            refine r_getf (pc := 85) (ci := 5) (k := 2) (C := "CricketHay$Formula") (T := F_5) (N := 5) (v := .ref (t + 3)) (fun s => Std.k s (ltn (cm hn) (kl_F ht)) ht) rfl (Nat.le_of_ble_eq_true rfl) rfl w_91 (fun s => vr rfl (Std.r s (ltn (cm hn) (kl_F ht)) (rr_F_2 ht))) d_Formula_value_85 ?_
            refine r_iload (pc := 88) d_Formula_value_88 rfl ?_
            refine r_iconst (pc := 90) (v := 1) d_Formula_value_90 (by rfl) ?_
            refine r_isub (pc := 91) d_Formula_value_91 ?_
            refine r_iload (pc := 92) d_Formula_value_92 rfl ?_
            refine r_aload_n (pc := 94) (i := 0) d_Formula_value_94 rfl rfl ?_
            refine r_getf (pc := 95) (ci := 5) (k := 2) (C := "CricketHay$Formula") (T := F_5) (N := 5) (v := .ref (t + 3)) (fun s => Std.k s (ltn (cm hn) (kl_F ht)) ht) rfl (Nat.le_of_ble_eq_true rfl) rfl w_91 (fun s => vr rfl (Std.r s (ltn (cm hn) (kl_F ht)) (rr_F_2 ht))) d_Formula_value_95 ?_
            refine r_iload (pc := 98) d_Formula_value_98 rfl ?_
            refine r_iconst (pc := 100) (v := 1) d_Formula_value_100 (by rfl) ?_
            refine r_isub (pc := 101) d_Formula_value_101 ?_
            refine r_gx (fun zq43 => ?_)
            refine r_iald (pc := 102) (n := 30) (i0 := (ix (xq42 - (1 : Int32)))) (fun s => Std.k s (ltn (cm hn) (kj_F_2 ht)) (kk_F_2 ht)) zq43 rfl d_Formula_value_102 ?_
            refine r_aload_n (pc := 103) (i := 0) d_Formula_value_103 rfl rfl ?_
            refine r_getf (pc := 104) (ci := 5) (k := 2) (C := "CricketHay$Formula") (T := F_5) (N := 5) (v := .ref (t + 3)) (fun s => Std.k s (ltn (cm hn) (kl_F ht)) ht) rfl (Nat.le_of_ble_eq_true rfl) rfl w_91 (fun s => vr rfl (Std.r s (ltn (cm hn) (kl_F ht)) (rr_F_2 ht))) d_Formula_value_104 ?_
            refine r_iload (pc := 107) d_Formula_value_107 rfl ?_
            refine r_gx (fun zq44 => ?_)
            refine r_iald (pc := 109) (n := 30) (i0 := (ix xq42)) (fun s => Std.k s (ltn (cm hn) (kj_F_2 ht)) (kk_F_2 ht)) zq44 rfl d_Formula_value_109 ?_
            refine r_cSi (pc := 110) (st := [.int (xq42 - (1 : Int32)), .ref (t + 3)]) (ok_Formula_join hn xq2 (hI hq4 (t + 3) (ix (xq42 - (1 : Int32)))) (hI hq4 (t + 3) (ix xq42)) hq4) w_690 w_4 w_688 w_689 hy_Formula_join ⟨Nat.le_of_ble_eq_true rfl, Nat.le_of_ble_eq_true rfl⟩ ⟨Nat.le_of_ble_eq_true rfl, Nat.le_of_ble_eq_true rfl⟩ rfl (Nat.le_of_ble_eq_true rfl) d_Formula_value_110 (fun rq45 hq46 => ?_)
            refine r_gx (fun zq47 => ?_)
            refine r_iast (pc := 113) (n := 30) (i0 := (ix (xq42 - (1 : Int32)))) (fun s => Std.k s (ltn (cm hn) (kj_F_2 ht)) (kk_F_2 ht)) zq47 rfl (fun s => Std.sI s _ _ _) d_Formula_value_113 ?_
            refine r_ltH (fun hq48 => ?_)
            refine r_goto (pc := 114) (tgt := 294) d_Formula_value_114 (by rfl) ?_
            refine r_ltE (fun xq49 exq49 => ?_)
            refine r_iinc (pc := 294) (v := xq49) (lv1 := [some (.ref t), some (.int a1), some (.int a2), some (.int a3), some (.int a4), some (.int a5), some (.int a6), some (.int xq42), some (.int xq49), some (.int xq2)]) d_Formula_value_294 rfl exq49.symm (Nat.le_of_ble_eq_true rfl) rfl ?_
            refine r_goto (pc := 297) (tgt := 6) d_Formula_value_297 (by rfl) ?_
            exact r_wk (ih xq42 xq49 hq48) ⟨rfl, ⟨rfl, ⟨rfl, ⟨rfl, ⟨rfl, ⟨rfl, ⟨rfl, ⟨rfl, ⟨rfl, trivial⟩⟩⟩⟩⟩⟩⟩⟩⟩
      · refine r_iload (pc := 32) d_Formula_value_32 rfl ?_
        refine r_iconst (pc := 34) (v := 1) d_Formula_value_34 (by rfl) ?_
        refine r_icmp_lt (pc := 35) (tgt := 294) d_Formula_value_35 (by rfl) ?_ ?_
        · refine r_ltE (fun xq50 exq50 => ?_)
          refine r_iinc (pc := 294) (v := xq50) (lv1 := [some (.ref t), some (.int a1), some (.int a2), some (.int a3), some (.int a4), some (.int a5), some (.int a6), some (.int x7), some (.int xq50), some (.int xq2)]) d_Formula_value_294 rfl exq50.symm (Nat.le_of_ble_eq_true rfl) rfl ?_
          refine r_goto (pc := 297) (tgt := 6) d_Formula_value_297 (by rfl) ?_
          exact r_wk (ih x7 xq50 h) ⟨rfl, ⟨rfl, ⟨rfl, ⟨rfl, ⟨rfl, ⟨rfl, ⟨rfl, ⟨rfl, ⟨rfl, trivial⟩⟩⟩⟩⟩⟩⟩⟩⟩
        · refine r_aload_n (pc := 38) (i := 0) d_Formula_value_38 rfl rfl ?_
          refine r_getf (pc := 39) (ci := 5) (k := 2) (C := "CricketHay$Formula") (T := F_5) (N := 5) (v := .ref (t + 3)) (fun s => Std.k s (ltn (cm hn) (kl_F ht)) ht) rfl (Nat.le_of_ble_eq_true rfl) rfl w_91 (fun s => vr rfl (Std.r s (ltn (cm hn) (kl_F ht)) (rr_F_2 ht))) d_Formula_value_39 ?_
          refine r_iload (pc := 42) d_Formula_value_42 rfl ?_
          refine r_iconst (pc := 44) (v := 1) d_Formula_value_44 (by rfl) ?_
          refine r_isub (pc := 45) d_Formula_value_45 ?_
          refine r_aload_n (pc := 46) (i := 0) d_Formula_value_46 rfl rfl ?_
          refine r_getf (pc := 47) (ci := 5) (k := 2) (C := "CricketHay$Formula") (T := F_5) (N := 5) (v := .ref (t + 3)) (fun s => Std.k s (ltn (cm hn) (kl_F ht)) ht) rfl (Nat.le_of_ble_eq_true rfl) rfl w_91 (fun s => vr rfl (Std.r s (ltn (cm hn) (kl_F ht)) (rr_F_2 ht))) d_Formula_value_47 ?_
          refine r_iload (pc := 50) d_Formula_value_50 rfl ?_
          refine r_iconst (pc := 52) (v := 1) d_Formula_value_52 (by rfl) ?_
          refine r_isub (pc := 53) d_Formula_value_53 ?_
          refine r_gx (fun zq51 => ?_)
          refine r_iald (pc := 54) (n := 30) (i0 := (ix (x7 - (1 : Int32)))) (fun s => Std.k s (ltn (cm hn) (kj_F_2 ht)) (kk_F_2 ht)) zq51 rfl d_Formula_value_54 ?_
          refine r_if_ne (pc := 55) (tgt := 62) d_Formula_value_55 (by rfl) ?_ ?_
          · refine r_iconst (pc := 62) (v := 0) d_Formula_value_62 (by rfl) ?_
            refine r_gx (fun zq52 => ?_)
            refine r_iast (pc := 63) (n := 30) (i0 := (ix (x7 - (1 : Int32)))) (fun s => Std.k s (ltn (cm hn) (kj_F_2 ht)) (kk_F_2 ht)) zq52 rfl (fun s => Std.sI s _ _ _) d_Formula_value_63 ?_
            refine r_ltH (fun hq53 => ?_)
            refine r_goto (pc := 64) (tgt := 294) d_Formula_value_64 (by rfl) ?_
            refine r_ltE (fun xq54 exq54 => ?_)
            refine r_iinc (pc := 294) (v := xq54) (lv1 := [some (.ref t), some (.int a1), some (.int a2), some (.int a3), some (.int a4), some (.int a5), some (.int a6), some (.int x7), some (.int xq54), some (.int xq2)]) d_Formula_value_294 rfl exq54.symm (Nat.le_of_ble_eq_true rfl) rfl ?_
            refine r_goto (pc := 297) (tgt := 6) d_Formula_value_297 (by rfl) ?_
            exact r_wk (ih x7 xq54 hq53) ⟨rfl, ⟨rfl, ⟨rfl, ⟨rfl, ⟨rfl, ⟨rfl, ⟨rfl, ⟨rfl, ⟨rfl, trivial⟩⟩⟩⟩⟩⟩⟩⟩⟩
          · refine r_iconst (pc := 58) (v := 1) d_Formula_value_58 (by rfl) ?_
            refine r_goto (pc := 59) (tgt := 63) d_Formula_value_59 (by rfl) ?_
            refine r_gx (fun zq55 => ?_)
            refine r_iast (pc := 63) (n := 30) (i0 := (ix (x7 - (1 : Int32)))) (fun s => Std.k s (ltn (cm hn) (kj_F_2 ht)) (kk_F_2 ht)) zq55 rfl (fun s => Std.sI s _ _ _) d_Formula_value_63 ?_
            refine r_ltH (fun hq56 => ?_)
            refine r_goto (pc := 64) (tgt := 294) d_Formula_value_64 (by rfl) ?_
            refine r_ltE (fun xq57 exq57 => ?_)
            refine r_iinc (pc := 294) (v := xq57) (lv1 := [some (.ref t), some (.int a1), some (.int a2), some (.int a3), some (.int a4), some (.int a5), some (.int a6), some (.int x7), some (.int xq57), some (.int xq2)]) d_Formula_value_294 rfl exq57.symm (Nat.le_of_ble_eq_true rfl) rfl ?_
            refine r_goto (pc := 297) (tgt := 6) d_Formula_value_297 (by rfl) ?_
            exact r_wk (ih x7 xq57 hq56) ⟨rfl, ⟨rfl, ⟨rfl, ⟨rfl, ⟨rfl, ⟨rfl, ⟨rfl, ⟨rfl, ⟨rfl, trivial⟩⟩⟩⟩⟩⟩⟩⟩⟩
def f_Formula_value  (t : Nat) (a1 : Int32) (a2 : Int32) (a3 : Int32) (a4 : Int32) (a5 : Int32) (a6 : Int32) (h : AH) : Option (Int32 × AH) :=
  f_Formula_value_l6 t a1 a2 a3 a4 a5 a6 FU (0 : Int32) (0 : Int32) h
set_option maxHeartbeats 2000000 in
theorem ok_Formula_value {G : AE} {n : Nat} (hn : NN ≤ n)  (t : Nat) (ht : kdF t = .inr 5) (a1 : Int32) (a2 : Int32) (a3 : Int32) (a4 : Int32) (a5 : Int32) (a6 : Int32) (h : AH) : OK G n y_Formula_value (2) φI [.ref t, .int a1, .int a2, .int a3, .int a4, .int a5, .int a6] h (f_Formula_value t a1 a2 a3 a4 a5 a6 h) := by
  refine ok_of (y := y_Formula_value) (lv0 := [some (.ref t), some (.int a1), some (.int a2), some (.int a3), some (.int a4), some (.int a5), some (.int a6), none, none, none]) (by decide +kernel) (Nat.le_of_ble_eq_true rfl) ⟨rfl, ⟨rfl, ⟨rfl, ⟨rfl, ⟨rfl, ⟨rfl, ⟨rfl, trivial⟩⟩⟩⟩⟩⟩⟩ ?_
  rw [f_Formula_value]
  refine r_iconst (pc := 0) (v := 0) d_Formula_value_0 (by rfl) ?_
  refine r_istore (pc := 1) (lv1 := [some (.ref t), some (.int a1), some (.int a2), some (.int a3), some (.int a4), some (.int a5), some (.int a6), some (.int (0 : Int32)), none, none]) d_Formula_value_1 (Nat.le_of_ble_eq_true rfl) rfl ?_
  refine r_iconst (pc := 3) (v := 0) d_Formula_value_3 (by rfl) ?_
  refine r_istore (pc := 4) (lv1 := [some (.ref t), some (.int a1), some (.int a2), some (.int a3), some (.int a4), some (.int a5), some (.int a6), some (.int (0 : Int32)), some (.int (0 : Int32)), none]) d_Formula_value_4 (Nat.le_of_ble_eq_true rfl) rfl ?_
  exact r_wk (o_Formula_value_l6 hn ht FU (0 : Int32) (0 : Int32) h) ⟨rfl, ⟨rfl, ⟨rfl, ⟨rfl, ⟨rfl, ⟨rfl, ⟨rfl, ⟨rfl, ⟨rfl, trivial⟩⟩⟩⟩⟩⟩⟩⟩⟩

def f_Market_clampHeat  (a0 : Int32) (h : AH) : Option (Int32 × AH) :=
  some ((mx (0 : Int32) (mn (40 : Int32) a0)), h)
set_option maxHeartbeats 2000000 in
theorem ok_Market_clampHeat {G : AE} {n : Nat} (hn : NN ≤ n)  (a0 : Int32) (h : AH) : OK G n y_Market_clampHeat (2) φI [.int a0] h (f_Market_clampHeat a0 h) := by
  refine ok_of (y := y_Market_clampHeat) (lv0 := [some (.int a0)]) (by decide +kernel) (Nat.le_of_ble_eq_true rfl) ⟨rfl, trivial⟩ ?_
  rw [f_Market_clampHeat]
  refine r_iconst (pc := 0) (v := 0) d_Market_clampHeat_0 (by rfl) ?_
  refine r_bipush (pc := 1) (v := 40) d_Market_clampHeat_1 (by rfl) ?_
  refine r_iload_n (pc := 3) (i := 0) d_Market_clampHeat_3 rfl rfl ?_
  refine r_mmin (pc := 4) w_694 w_695 w_18 w_696 (Nat.le_of_ble_eq_true rfl) (Nat.le_of_ble_eq_true rfl) ⟨Nat.le_of_ble_eq_true rfl, Nat.le_of_ble_eq_true rfl⟩ d_Market_clampHeat_4 ?_
  refine r_mmax (pc := 7) w_697 w_698 w_18 w_699 (Nat.le_of_ble_eq_true rfl) (Nat.le_of_ble_eq_true rfl) ⟨Nat.le_of_ble_eq_true rfl, Nat.le_of_ble_eq_true rfl⟩ d_Market_clampHeat_7 ?_
  exact r_iret (pc := 10) rfl d_Market_clampHeat_10

def f_Market_warmth_b28  (t : Nat) (a1 : Int32) (a2 : Int32) (a3 : Int32)  (v0 : Int32) (h : AH) : Option (Int32 × AH) :=
  bI (f_Market_clampHeat (v0 - a3) h) fun rq1 hq2 =>
  some (rq1, hq2)
set_option maxHeartbeats 2000000 in
theorem o_Market_warmth_b28 {G : AE} {n : Nat} (hn : NN ≤ n)  {t : Nat} {a1 : Int32} {a2 : Int32} {a3 : Int32} (ht : kdF t = .inr 7)  : ∀ (v0 : Int32) (h : AH), AJ G n y_Market_warmth (3) φI 28 [none, none, none, some (.int a3), none] [.int v0] h (f_Market_warmth_b28 t a1 a2 a3 v0 h) := by
  intro v0 h
  rw [f_Market_warmth_b28]
  refine r_istore (pc := 28) (lv1 := [none, none, none, some (.int a3), some (.int v0)]) d_Market_warmth_28 (Nat.le_of_ble_eq_true rfl) rfl ?_
  refine r_iload (pc := 30) d_Market_warmth_30 rfl ?_
  refine r_iload_n (pc := 32) (i := 3) d_Market_warmth_32 rfl rfl ?_
  refine r_isub (pc := 33) d_Market_warmth_33 ?_
  refine r_cSi (pc := 34) (st := []) (ok_Market_clampHeat hn (v0 - a3) h) w_693 w_3 w_691 w_692 hy_Market_clampHeat ⟨Nat.le_of_ble_eq_true rfl, Nat.le_of_ble_eq_true rfl⟩ ⟨Nat.le_of_ble_eq_true rfl, Nat.le_of_ble_eq_true rfl⟩ rfl (Nat.le_of_ble_eq_true rfl) d_Market_warmth_34 (fun rq1 hq2 => ?_)
  exact r_iret (pc := 37) rfl d_Market_warmth_37
def f_Market_warmth  (t : Nat) (a1 : Int32) (a2 : Int32) (a3 : Int32) (h : AH) : Option (Int32 × AH) :=
  bI (f_Formula_isTold (t + 13) h) fun rq1 hq2 =>
  if rq1 = 0 then
    f_Market_warmth_b28 t a1 a2 a3 (20 : Int32) hq2
  else
    bI (f_Formula_value (t + 13) (0 : Int32) (0 : Int32) (0 : Int32) (0 : Int32) a1 a2 hq2) fun rq3 hq4 =>
    f_Market_warmth_b28 t a1 a2 a3 rq3 hq4
set_option maxHeartbeats 2000000 in
theorem ok_Market_warmth {G : AE} {n : Nat} (hn : NN ≤ n)  (t : Nat) (ht : kdF t = .inr 7) (a1 : Int32) (a2 : Int32) (a3 : Int32) (h : AH) : OK G n y_Market_warmth (3) φI [.ref t, .int a1, .int a2, .int a3] h (f_Market_warmth t a1 a2 a3 h) := by
  refine ok_of (y := y_Market_warmth) (lv0 := [some (.ref t), some (.int a1), some (.int a2), some (.int a3), none]) (by decide +kernel) (Nat.le_of_ble_eq_true rfl) ⟨rfl, ⟨rfl, ⟨rfl, ⟨rfl, trivial⟩⟩⟩⟩ ?_
  rw [f_Market_warmth]
  refine r_aload_n (pc := 0) (i := 0) d_Market_warmth_0 rfl rfl ?_
  refine r_getf (pc := 1) (ci := 7) (k := 9) (C := "CricketHay$Market") (T := F_7) (N := 16) (v := .ref (t + 13)) (fun s => Std.k s (ltn (cm hn) (kl_M ht)) ht) rfl (Nat.le_of_ble_eq_true rfl) rfl w_146 (fun s => vr rfl (Std.r s (ltn (cm hn) (kl_M ht)) (rr_M_9 ht))) d_Market_warmth_1 ?_
  refine r_cVi (pc := 4) (T := F_5) (N := 5) (st := []) (ok_Formula_isTold hn (t + 13) (kk_M_9 ht) h) (fun s => Std.k s (ltn (cm hn) (kj_M_9 ht)) (kk_M_9 ht)) rfl w_680 w_4 w_677 w_678 w_679 hy_Formula_isTold ⟨Nat.le_of_ble_eq_true rfl, Nat.le_of_ble_eq_true rfl⟩ ⟨Nat.le_of_ble_eq_true rfl, Nat.le_of_ble_eq_true rfl⟩ rfl (Nat.le_of_ble_eq_true rfl) d_Market_warmth_4 (fun rq1 hq2 => ?_)
  refine r_if_eq (pc := 7) (tgt := 26) d_Market_warmth_7 (by rfl) ?_ ?_
  · refine r_bipush (pc := 26) (v := 20) d_Market_warmth_26 (by rfl) ?_
    exact r_wk (o_Market_warmth_b28 hn ht (20 : Int32) hq2) ⟨rfl, trivial⟩
  · refine r_aload_n (pc := 10) (i := 0) d_Market_warmth_10 rfl rfl ?_
    refine r_getf (pc := 11) (ci := 7) (k := 9) (C := "CricketHay$Market") (T := F_7) (N := 16) (v := .ref (t + 13)) (fun s => Std.k s (ltn (cm hn) (kl_M ht)) ht) rfl (Nat.le_of_ble_eq_true rfl) rfl w_146 (fun s => vr rfl (Std.r s (ltn (cm hn) (kl_M ht)) (rr_M_9 ht))) d_Market_warmth_11 ?_
    refine r_iconst (pc := 14) (v := 0) d_Market_warmth_14 (by rfl) ?_
    refine r_iconst (pc := 15) (v := 0) d_Market_warmth_15 (by rfl) ?_
    refine r_iconst (pc := 16) (v := 0) d_Market_warmth_16 (by rfl) ?_
    refine r_iconst (pc := 17) (v := 0) d_Market_warmth_17 (by rfl) ?_
    refine r_iload_n (pc := 18) (i := 1) d_Market_warmth_18 rfl rfl ?_
    refine r_iload_n (pc := 19) (i := 2) d_Market_warmth_19 rfl rfl ?_
    refine r_cVi (pc := 20) (T := F_5) (N := 5) (st := []) (ok_Formula_value hn (t + 13) (kk_M_9 ht) (0 : Int32) (0 : Int32) (0 : Int32) (0 : Int32) a1 a2 hq2) (fun s => Std.k s (ltn (cm hn) (kj_M_9 ht)) (kk_M_9 ht)) rfl w_684 w_4 w_681 w_682 w_683 hy_Formula_value ⟨Nat.le_of_ble_eq_true rfl, Nat.le_of_ble_eq_true rfl⟩ ⟨Nat.le_of_ble_eq_true rfl, Nat.le_of_ble_eq_true rfl⟩ rfl (Nat.le_of_ble_eq_true rfl) d_Market_warmth_20 (fun rq3 hq4 => ?_)
    refine r_goto (pc := 23) (tgt := 28) d_Market_warmth_23 (by rfl) ?_
    exact r_wk (o_Market_warmth_b28 hn ht rq3 hq4) ⟨rfl, trivial⟩

def f_Yard_warmth  (t : Nat) (a1 : Nat) (h : AH) : Option (Int32 × AH) :=
  bI (f_Market_warmth a1 (hI h t 7) (hI h t 8) (hI h t 6) h) fun rq1 hq2 =>
  some (rq1, hq2)
set_option maxHeartbeats 2000000 in
theorem ok_Yard_warmth {G : AE} {n : Nat} (hn : NN ≤ n)  (t : Nat) (ht : kdF t = .inr 10) (a1 : Nat) (ha1 : kdF a1 = .inr 7) (h : AH) : OK G n y_Yard_warmth (4) φI [.ref t, .ref a1] h (f_Yard_warmth t a1 h) := by
  refine ok_of (y := y_Yard_warmth) (lv0 := [some (.ref t), some (.ref a1)]) (by decide +kernel) (Nat.le_of_ble_eq_true rfl) ⟨rfl, ⟨rfl, trivial⟩⟩ ?_
  rw [f_Yard_warmth]
  refine r_aload_n (pc := 0) (i := 1) d_Yard_warmth_0 rfl rfl ?_
  refine r_aload_n (pc := 1) (i := 0) d_Yard_warmth_1 rfl rfl ?_
  refine r_getf (pc := 2) (ci := 10) (k := 7) (C := "CricketHay$Yard") (T := F_10) (N := 10) (v := .int (hI h t 7)) (fun s => Std.k s (ltn (cm hn) (kl_Y ht)) ht) rfl (Nat.le_of_ble_eq_true rfl) rfl w_229 (fun _ => rfl) d_Yard_warmth_2 ?_
  refine r_aload_n (pc := 5) (i := 0) d_Yard_warmth_5 rfl rfl ?_
  refine r_getf (pc := 6) (ci := 10) (k := 8) (C := "CricketHay$Yard") (T := F_10) (N := 10) (v := .int (hI h t 8)) (fun s => Std.k s (ltn (cm hn) (kl_Y ht)) ht) rfl (Nat.le_of_ble_eq_true rfl) rfl w_233 (fun _ => rfl) d_Yard_warmth_6 ?_
  refine r_aload_n (pc := 9) (i := 0) d_Yard_warmth_9 rfl rfl ?_
  refine r_getf (pc := 10) (ci := 10) (k := 6) (C := "CricketHay$Yard") (T := F_10) (N := 10) (v := .int (hI h t 6)) (fun s => Std.k s (ltn (cm hn) (kl_Y ht)) ht) rfl (Nat.le_of_ble_eq_true rfl) rfl w_227 (fun _ => rfl) d_Yard_warmth_10 ?_
  refine r_cVi (pc := 13) (T := F_7) (N := 16) (st := []) (ok_Market_warmth hn a1 ha1 (hI h t 7) (hI h t 8) (hI h t 6) h) (fun s => Std.k s (ltn (cm hn) (kl_M ha1)) ha1) rfl w_676 w_3 w_673 w_674 w_675 hy_Market_warmth ⟨Nat.le_of_ble_eq_true rfl, Nat.le_of_ble_eq_true rfl⟩ ⟨Nat.le_of_ble_eq_true rfl, Nat.le_of_ble_eq_true rfl⟩ rfl (Nat.le_of_ble_eq_true rfl) d_Yard_warmth_13 (fun rq1 hq2 => ?_)
  exact r_iret (pc := 16) rfl d_Yard_warmth_16

def f_Yard_mates_l5  (t : Nat) (a1 : Nat) (a2 : Int32)  : Nat → Int32 → Int32 → AH → Option (Int32 × AH)
  | 0, _, _, _ => none
  | n + 1, x3, x4, h =>
    if (hI h a1 11) ≤ x4 then
      some (x3, h)
    else
      if x4 = a2 then
        lt (x4 + (1 : Int32)) fun xq1 =>
        f_Yard_mates_l5 t a1 a2 n x3 xq1 h
      else
        gx x4 6 <|
        if ¬ (hI h (t + 6) (ix x4)) = 0 then
          lt (x4 + (1 : Int32)) fun xq3 =>
          f_Yard_mates_l5 t a1 a2 n x3 xq3 h
        else
          gx x4 6 <|
          gx a2 6 <|
          if ¬ (hI h (a1 + 3) (ix x4)) = (hI h (a1 + 3) (ix a2)) then
            lt (x4 + (1 : Int32)) fun xq6 =>
            f_Yard_mates_l5 t a1 a2 n x3 xq6 h
          else
            lt (x3 + (1 : Int32)) fun xq7 =>
            lt (x4 + (1 : Int32)) fun xq8 =>
            f_Yard_mates_l5 t a1 a2 n xq7 xq8 h
set_option maxHeartbeats 2000000 in
theorem o_Yard_mates_l5 {G : AE} {n : Nat} (hn : NN ≤ n)  {t : Nat} {a1 : Nat} {a2 : Int32} (ht : kdF t = .inr 10) (ha1 : kdF a1 = .inr 7)  : ∀ (n0 : Nat) (x3 : Int32) (x4 : Int32) (h : AH), AJ G n y_Yard_mates (1) φI 5 [some (.ref t), some (.ref a1), some (.int a2), some (.int x3), some (.int x4)] [] h (f_Yard_mates_l5 t a1 a2 n0 x3 x4 h) := by
  intro n0
  induction n0 with
  | zero => intros; exact r_none
  | succ n0 ih =>
    intro x3 x4 h
    rw [f_Yard_mates_l5]
    refine r_iload (pc := 5) d_Yard_mates_5 rfl ?_
    refine r_aload_n (pc := 7) (i := 1) d_Yard_mates_7 rfl rfl ?_
    refine r_getf (pc := 8) (ci := 7) (k := 11) (C := "CricketHay$Market") (T := F_7) (N := 16) (v := .int (hI h a1 11)) (fun s => Std.k s (ltn (cm hn) (kl_M ha1)) ha1) rfl (Nat.le_of_ble_eq_true rfl) rfl w_156 (fun _ => rfl) d_Yard_mates_8 ?_
    refine r_icmp_ge (pc := 11) (tgt := 55) d_Yard_mates_11 (by rfl) ?_ ?_
    · refine r_iload_n (pc := 55) (i := 3) d_Yard_mates_55 rfl rfl ?_
      exact r_iret (pc := 56) rfl d_Yard_mates_56
    · refine r_iload (pc := 14) d_Yard_mates_14 rfl ?_
      refine r_iload_n (pc := 16) (i := 2) d_Yard_mates_16 rfl rfl ?_
      refine r_icmp_eq (pc := 17) (tgt := 49) d_Yard_mates_17 (by rfl) ?_ ?_
      · refine r_ltE (fun xq1 exq1 => ?_)
        refine r_iinc (pc := 49) (v := xq1) (lv1 := [some (.ref t), some (.ref a1), some (.int a2), some (.int x3), some (.int xq1)]) d_Yard_mates_49 rfl exq1.symm (Nat.le_of_ble_eq_true rfl) rfl ?_
        refine r_goto (pc := 52) (tgt := 5) d_Yard_mates_52 (by rfl) ?_
        exact r_wk (ih x3 xq1 h) ⟨rfl, ⟨rfl, ⟨rfl, ⟨rfl, ⟨rfl, trivial⟩⟩⟩⟩⟩
      · refine r_aload_n (pc := 20) (i := 0) d_Yard_mates_20 rfl rfl ?_
        refine r_getf (pc := 21) (ci := 10) (k := 5) (C := "CricketHay$Yard") (T := F_10) (N := 10) (v := .ref (t + 6)) (fun s => Std.k s (ltn (cm hn) (kl_Y ht)) ht) rfl (Nat.le_of_ble_eq_true rfl) rfl w_224 (fun s => vr rfl (Std.r s (ltn (cm hn) (kl_Y ht)) (rr_Y_5 ht))) d_Yard_mates_21 ?_
        refine r_iload (pc := 24) d_Yard_mates_24 rfl ?_
        refine r_gx (fun zq2 => ?_)
        refine r_iald (pc := 26) (n := 6) (i0 := (ix x4)) (fun s => Std.k s (ltn (cm hn) (kj_Y_5 ht)) (kk_Y_5 ht)) zq2 rfl d_Yard_mates_26 ?_
        refine r_if_ne (pc := 27) (tgt := 49) d_Yard_mates_27 (by rfl) ?_ ?_
        · refine r_ltE (fun xq3 exq3 => ?_)
          refine r_iinc (pc := 49) (v := xq3) (lv1 := [some (.ref t), some (.ref a1), some (.int a2), some (.int x3), some (.int xq3)]) d_Yard_mates_49 rfl exq3.symm (Nat.le_of_ble_eq_true rfl) rfl ?_
          refine r_goto (pc := 52) (tgt := 5) d_Yard_mates_52 (by rfl) ?_
          exact r_wk (ih x3 xq3 h) ⟨rfl, ⟨rfl, ⟨rfl, ⟨rfl, ⟨rfl, trivial⟩⟩⟩⟩⟩
        · refine r_aload_n (pc := 30) (i := 1) d_Yard_mates_30 rfl rfl ?_
          refine r_getf (pc := 31) (ci := 7) (k := 2) (C := "CricketHay$Market") (T := F_7) (N := 16) (v := .ref (a1 + 3)) (fun s => Std.k s (ltn (cm hn) (kl_M ha1)) ha1) rfl (Nat.le_of_ble_eq_true rfl) rfl w_121 (fun s => vr rfl (Std.r s (ltn (cm hn) (kl_M ha1)) (rr_M_2 ha1))) d_Yard_mates_31 ?_
          refine r_iload (pc := 34) d_Yard_mates_34 rfl ?_
          refine r_gx (fun zq4 => ?_)
          refine r_iald (pc := 36) (n := 6) (i0 := (ix x4)) (fun s => Std.k s (ltn (cm hn) (kj_M_2 ha1)) (kk_M_2 ha1)) zq4 rfl d_Yard_mates_36 ?_
          refine r_aload_n (pc := 37) (i := 1) d_Yard_mates_37 rfl rfl ?_
          refine r_getf (pc := 38) (ci := 7) (k := 2) (C := "CricketHay$Market") (T := F_7) (N := 16) (v := .ref (a1 + 3)) (fun s => Std.k s (ltn (cm hn) (kl_M ha1)) ha1) rfl (Nat.le_of_ble_eq_true rfl) rfl w_121 (fun s => vr rfl (Std.r s (ltn (cm hn) (kl_M ha1)) (rr_M_2 ha1))) d_Yard_mates_38 ?_
          refine r_iload_n (pc := 41) (i := 2) d_Yard_mates_41 rfl rfl ?_
          refine r_gx (fun zq5 => ?_)
          refine r_iald (pc := 42) (n := 6) (i0 := (ix a2)) (fun s => Std.k s (ltn (cm hn) (kj_M_2 ha1)) (kk_M_2 ha1)) zq5 rfl d_Yard_mates_42 ?_
          refine r_icmp_ne (pc := 43) (tgt := 49) d_Yard_mates_43 (by rfl) ?_ ?_
          · refine r_ltE (fun xq6 exq6 => ?_)
            refine r_iinc (pc := 49) (v := xq6) (lv1 := [some (.ref t), some (.ref a1), some (.int a2), some (.int x3), some (.int xq6)]) d_Yard_mates_49 rfl exq6.symm (Nat.le_of_ble_eq_true rfl) rfl ?_
            refine r_goto (pc := 52) (tgt := 5) d_Yard_mates_52 (by rfl) ?_
            exact r_wk (ih x3 xq6 h) ⟨rfl, ⟨rfl, ⟨rfl, ⟨rfl, ⟨rfl, trivial⟩⟩⟩⟩⟩
          · refine r_ltE (fun xq7 exq7 => ?_)
            refine r_iinc (pc := 46) (v := xq7) (lv1 := [some (.ref t), some (.ref a1), some (.int a2), some (.int xq7), some (.int x4)]) d_Yard_mates_46 rfl exq7.symm (Nat.le_of_ble_eq_true rfl) rfl ?_
            refine r_ltE (fun xq8 exq8 => ?_)
            refine r_iinc (pc := 49) (v := xq8) (lv1 := [some (.ref t), some (.ref a1), some (.int a2), some (.int xq7), some (.int xq8)]) d_Yard_mates_49 rfl exq8.symm (Nat.le_of_ble_eq_true rfl) rfl ?_
            refine r_goto (pc := 52) (tgt := 5) d_Yard_mates_52 (by rfl) ?_
            exact r_wk (ih xq7 xq8 h) ⟨rfl, ⟨rfl, ⟨rfl, ⟨rfl, ⟨rfl, trivial⟩⟩⟩⟩⟩
def f_Yard_mates  (t : Nat) (a1 : Nat) (a2 : Int32) (h : AH) : Option (Int32 × AH) :=
  f_Yard_mates_l5 t a1 a2 FU (0 : Int32) (0 : Int32) h
set_option maxHeartbeats 2000000 in
theorem ok_Yard_mates {G : AE} {n : Nat} (hn : NN ≤ n)  (t : Nat) (ht : kdF t = .inr 10) (a1 : Nat) (ha1 : kdF a1 = .inr 7) (a2 : Int32) (h : AH) : OK G n y_Yard_mates (1) φI [.ref t, .ref a1, .int a2] h (f_Yard_mates t a1 a2 h) := by
  refine ok_of (y := y_Yard_mates) (lv0 := [some (.ref t), some (.ref a1), some (.int a2), none, none]) (by decide +kernel) (Nat.le_of_ble_eq_true rfl) ⟨rfl, ⟨rfl, ⟨rfl, trivial⟩⟩⟩ ?_
  rw [f_Yard_mates]
  refine r_iconst (pc := 0) (v := 0) d_Yard_mates_0 (by rfl) ?_
  refine r_istore_n (pc := 1) (i := 3) (lv1 := [some (.ref t), some (.ref a1), some (.int a2), some (.int (0 : Int32)), none]) d_Yard_mates_1 rfl (Nat.le_of_ble_eq_true rfl) rfl ?_
  refine r_iconst (pc := 2) (v := 0) d_Yard_mates_2 (by rfl) ?_
  refine r_istore (pc := 3) (lv1 := [some (.ref t), some (.ref a1), some (.int a2), some (.int (0 : Int32)), some (.int (0 : Int32))]) d_Yard_mates_3 (Nat.le_of_ble_eq_true rfl) rfl ?_
  exact r_wk (o_Yard_mates_l5 hn ht ha1 FU (0 : Int32) (0 : Int32) h) ⟨rfl, ⟨rfl, ⟨rfl, ⟨rfl, ⟨rfl, trivial⟩⟩⟩⟩⟩

def f_Market_sung_b32  (t : Nat) (a1 : Int32) (a2 : Int32) (a3 : Int32) (a4 : Int32) (a5 : Int32) (a6 : Int32)  (v0 : Int32) (h : AH) : Option (Int32 × AH) :=
  some ((mx (0 : Int32) (mn (99 : Int32) v0)), h)
set_option maxHeartbeats 2000000 in
theorem o_Market_sung_b32 {G : AE} {n : Nat} (hn : NN ≤ n)  {t : Nat} {a1 : Int32} {a2 : Int32} {a3 : Int32} {a4 : Int32} {a5 : Int32} {a6 : Int32} (ht : kdF t = .inr 7)  : ∀ (v0 : Int32) (h : AH), AJ G n y_Market_sung (3) φI 32 [none, none, none, none, none, none, none, none] [.int v0] h (f_Market_sung_b32 t a1 a2 a3 a4 a5 a6 v0 h) := by
  intro v0 h
  rw [f_Market_sung_b32]
  refine r_istore (pc := 32) (lv1 := [none, none, none, none, none, none, none, some (.int v0)]) d_Market_sung_32 (Nat.le_of_ble_eq_true rfl) rfl ?_
  refine r_iconst (pc := 34) (v := 0) d_Market_sung_34 (by rfl) ?_
  refine r_bipush (pc := 35) (v := 99) d_Market_sung_35 (by rfl) ?_
  refine r_iload (pc := 37) d_Market_sung_37 rfl ?_
  refine r_mmin (pc := 39) w_694 w_695 w_18 w_696 (Nat.le_of_ble_eq_true rfl) (Nat.le_of_ble_eq_true rfl) ⟨Nat.le_of_ble_eq_true rfl, Nat.le_of_ble_eq_true rfl⟩ d_Market_sung_39 ?_
  refine r_mmax (pc := 42) w_697 w_698 w_18 w_699 (Nat.le_of_ble_eq_true rfl) (Nat.le_of_ble_eq_true rfl) ⟨Nat.le_of_ble_eq_true rfl, Nat.le_of_ble_eq_true rfl⟩ d_Market_sung_42 ?_
  exact r_iret (pc := 45) rfl d_Market_sung_45
def f_Market_sung  (t : Nat) (a1 : Int32) (a2 : Int32) (a3 : Int32) (a4 : Int32) (a5 : Int32) (a6 : Int32) (h : AH) : Option (Int32 × AH) :=
  bI (f_Formula_isTold (t + 9) h) fun rq1 hq2 =>
  if rq1 = 0 then
    f_Market_sung_b32 t a1 a2 a3 a4 a5 a6 (a1 + a2) hq2
  else
    bI (f_Formula_value (t + 9) a1 a2 a3 a4 a5 a6 hq2) fun rq3 hq4 =>
    f_Market_sung_b32 t a1 a2 a3 a4 a5 a6 rq3 hq4
set_option maxHeartbeats 2000000 in
theorem ok_Market_sung {G : AE} {n : Nat} (hn : NN ≤ n)  (t : Nat) (ht : kdF t = .inr 7) (a1 : Int32) (a2 : Int32) (a3 : Int32) (a4 : Int32) (a5 : Int32) (a6 : Int32) (h : AH) : OK G n y_Market_sung (3) φI [.ref t, .int a1, .int a2, .int a3, .int a4, .int a5, .int a6] h (f_Market_sung t a1 a2 a3 a4 a5 a6 h) := by
  refine ok_of (y := y_Market_sung) (lv0 := [some (.ref t), some (.int a1), some (.int a2), some (.int a3), some (.int a4), some (.int a5), some (.int a6), none]) (by decide +kernel) (Nat.le_of_ble_eq_true rfl) ⟨rfl, ⟨rfl, ⟨rfl, ⟨rfl, ⟨rfl, ⟨rfl, ⟨rfl, trivial⟩⟩⟩⟩⟩⟩⟩ ?_
  rw [f_Market_sung]
  refine r_aload_n (pc := 0) (i := 0) d_Market_sung_0 rfl rfl ?_
  refine r_getf (pc := 1) (ci := 7) (k := 8) (C := "CricketHay$Market") (T := F_7) (N := 16) (v := .ref (t + 9)) (fun s => Std.k s (ltn (cm hn) (kl_M ht)) ht) rfl (Nat.le_of_ble_eq_true rfl) rfl w_143 (fun s => vr rfl (Std.r s (ltn (cm hn) (kl_M ht)) (rr_M_8 ht))) d_Market_sung_1 ?_
  refine r_cVi (pc := 4) (T := F_5) (N := 5) (st := []) (ok_Formula_isTold hn (t + 9) (kk_M_8 ht) h) (fun s => Std.k s (ltn (cm hn) (kj_M_8 ht)) (kk_M_8 ht)) rfl w_680 w_4 w_677 w_678 w_679 hy_Formula_isTold ⟨Nat.le_of_ble_eq_true rfl, Nat.le_of_ble_eq_true rfl⟩ ⟨Nat.le_of_ble_eq_true rfl, Nat.le_of_ble_eq_true rfl⟩ rfl (Nat.le_of_ble_eq_true rfl) d_Market_sung_4 (fun rq1 hq2 => ?_)
  refine r_if_eq (pc := 7) (tgt := 29) d_Market_sung_7 (by rfl) ?_ ?_
  · refine r_iload_n (pc := 29) (i := 1) d_Market_sung_29 rfl rfl ?_
    refine r_iload_n (pc := 30) (i := 2) d_Market_sung_30 rfl rfl ?_
    refine r_iadd (pc := 31) d_Market_sung_31 ?_
    exact r_wk (o_Market_sung_b32 hn ht (a1 + a2) hq2) trivial
  · refine r_aload_n (pc := 10) (i := 0) d_Market_sung_10 rfl rfl ?_
    refine r_getf (pc := 11) (ci := 7) (k := 8) (C := "CricketHay$Market") (T := F_7) (N := 16) (v := .ref (t + 9)) (fun s => Std.k s (ltn (cm hn) (kl_M ht)) ht) rfl (Nat.le_of_ble_eq_true rfl) rfl w_143 (fun s => vr rfl (Std.r s (ltn (cm hn) (kl_M ht)) (rr_M_8 ht))) d_Market_sung_11 ?_
    refine r_iload_n (pc := 14) (i := 1) d_Market_sung_14 rfl rfl ?_
    refine r_iload_n (pc := 15) (i := 2) d_Market_sung_15 rfl rfl ?_
    refine r_iload_n (pc := 16) (i := 3) d_Market_sung_16 rfl rfl ?_
    refine r_iload (pc := 17) d_Market_sung_17 rfl ?_
    refine r_iload (pc := 19) d_Market_sung_19 rfl ?_
    refine r_iload (pc := 21) d_Market_sung_21 rfl ?_
    refine r_cVi (pc := 23) (T := F_5) (N := 5) (st := []) (ok_Formula_value hn (t + 9) (kk_M_8 ht) a1 a2 a3 a4 a5 a6 hq2) (fun s => Std.k s (ltn (cm hn) (kj_M_8 ht)) (kk_M_8 ht)) rfl w_684 w_4 w_681 w_682 w_683 hy_Formula_value ⟨Nat.le_of_ble_eq_true rfl, Nat.le_of_ble_eq_true rfl⟩ ⟨Nat.le_of_ble_eq_true rfl, Nat.le_of_ble_eq_true rfl⟩ rfl (Nat.le_of_ble_eq_true rfl) d_Market_sung_23 (fun rq3 hq4 => ?_)
    refine r_goto (pc := 26) (tgt := 32) d_Market_sung_26 (by rfl) ?_
    exact r_wk (o_Market_sung_b32 hn ht rq3 hq4) trivial

def f_Choir_tune_l17  (a1 : Nat) (a2 : Nat)  : Nat → Int32 → Int32 → AH → Option AH
  | 0, _, _, _ => none
  | n + 1, x3, x4, h =>
    if (hI h 51 1) ≤ x4 then
      some h
    else
      gx x4 6 <|
      if (hI h (a2 + 6) (ix x4)) = 0 then
        gx x4 6 <|
        bI (f_Market_clampHeat (x3 + (hI h (a2 + 5) (ix x4))) h) fun rq3 hq4 =>
        gx x4 6 <|
        gx x4 6 <|
        bI (f_Yard_mates a2 a1 x4 hq4) fun rq7 hq8 =>
        bI (f_Market_sung a1 rq3 (hI hq4 (a1 + 4) (ix x4)) (hI hq4 (a2 + 4) (ix x4)) rq7 (hI hq8 a2 7) (hI hq8 a2 8) hq8) fun rq9 hq10 =>
        gx x4 6 <|
        lt (sI hq10 52 (ix x4) rq9) fun hq12 =>
        lt (x4 + (1 : Int32)) fun xq13 =>
        f_Choir_tune_l17 a1 a2 n x3 xq13 hq12
      else
        gx x4 6 <|
        lt (sI h 52 (ix x4) (0 : Int32)) fun hq15 =>
        lt (x4 + (1 : Int32)) fun xq16 =>
        f_Choir_tune_l17 a1 a2 n x3 xq16 hq15
set_option maxHeartbeats 2000000 in
theorem o_Choir_tune_l17 {G : AE} {n : Nat} (hn : NN ≤ n)  {a1 : Nat} {a2 : Nat} (ha1 : kdF a1 = .inr 7) (ha2 : kdF a2 = .inr 10)  : ∀ (n0 : Nat) (x3 : Int32) (x4 : Int32) (h : AH), AJ G n y_Choir_tune (5) φV 17 [some (.ref 51), some (.ref a1), some (.ref a2), some (.int x3), some (.int x4)] [] h (f_Choir_tune_l17 a1 a2 n0 x3 x4 h) := by
  intro n0
  induction n0 with
  | zero => intros; exact r_none
  | succ n0 ih =>
    intro x3 x4 h
    rw [f_Choir_tune_l17]
    refine r_iload (pc := 17) d_Choir_tune_17 rfl ?_
    refine r_aload_n (pc := 19) (i := 0) d_Choir_tune_19 rfl rfl ?_
    refine r_getf (pc := 20) (ci := 2) (k := 1) (C := "CricketHay$Choir") (T := F_2) (N := 2) (v := .int (hI h 51 1)) (fun s => Std.k s (lc hn rfl) kq_51) rfl (Nat.le_of_ble_eq_true rfl) rfl w_268 (fun _ => rfl) d_Choir_tune_20 ?_
    refine r_icmp_ge (pc := 23) (tgt := 98) d_Choir_tune_23 (by rfl) ?_ ?_
    · exact r_vret (pc := 98) rfl d_Choir_tune_98
    · refine r_aload_n (pc := 26) (i := 0) d_Choir_tune_26 rfl rfl ?_
      refine r_getf (pc := 27) (ci := 2) (k := 0) (C := "CricketHay$Choir") (T := F_2) (N := 2) (v := .ref 52) (fun s => Std.k s (lc hn rfl) kq_51) rfl (Nat.le_of_ble_eq_true rfl) rfl w_266 (fun s => vr rfl (Std.r s (lc hn rfl) rq_51_0)) d_Choir_tune_27 ?_
      refine r_iload (pc := 30) d_Choir_tune_30 rfl ?_
      refine r_aload_n (pc := 32) (i := 2) d_Choir_tune_32 rfl rfl ?_
      refine r_getf (pc := 33) (ci := 10) (k := 5) (C := "CricketHay$Yard") (T := F_10) (N := 10) (v := .ref (a2 + 6)) (fun s => Std.k s (ltn (cm hn) (kl_Y ha2)) ha2) rfl (Nat.le_of_ble_eq_true rfl) rfl w_225 (fun s => vr rfl (Std.r s (ltn (cm hn) (kl_Y ha2)) (rr_Y_5 ha2))) d_Choir_tune_33 ?_
      refine r_iload (pc := 36) d_Choir_tune_36 rfl ?_
      refine r_gx (fun zq1 => ?_)
      refine r_iald (pc := 38) (n := 6) (i0 := (ix x4)) (fun s => Std.k s (ltn (cm hn) (kj_Y_5 ha2)) (kk_Y_5 ha2)) zq1 rfl d_Choir_tune_38 ?_
      refine r_if_eq (pc := 39) (tgt := 46) d_Choir_tune_39 (by rfl) ?_ ?_
      · refine r_aload_n (pc := 46) (i := 1) d_Choir_tune_46 rfl rfl ?_
        refine r_iload_n (pc := 47) (i := 3) d_Choir_tune_47 rfl rfl ?_
        refine r_aload_n (pc := 48) (i := 2) d_Choir_tune_48 rfl rfl ?_
        refine r_getf (pc := 49) (ci := 10) (k := 4) (C := "CricketHay$Yard") (T := F_10) (N := 10) (v := .ref (a2 + 5)) (fun s => Std.k s (ltn (cm hn) (kl_Y ha2)) ha2) rfl (Nat.le_of_ble_eq_true rfl) rfl w_222 (fun s => vr rfl (Std.r s (ltn (cm hn) (kl_Y ha2)) (rr_Y_4 ha2))) d_Choir_tune_49 ?_
        refine r_iload (pc := 52) d_Choir_tune_52 rfl ?_
        refine r_gx (fun zq2 => ?_)
        refine r_iald (pc := 54) (n := 6) (i0 := (ix x4)) (fun s => Std.k s (ltn (cm hn) (kj_Y_4 ha2)) (kk_Y_4 ha2)) zq2 rfl d_Choir_tune_54 ?_
        refine r_iadd (pc := 55) d_Choir_tune_55 ?_
        refine r_cSi (pc := 56) (st := [.ref a1, .int x4, .ref 52]) (ok_Market_clampHeat hn (x3 + (hI h (a2 + 5) (ix x4))) h) w_693 w_3 w_700 w_692 hy_Market_clampHeat ⟨Nat.le_of_ble_eq_true rfl, Nat.le_of_ble_eq_true rfl⟩ ⟨Nat.le_of_ble_eq_true rfl, Nat.le_of_ble_eq_true rfl⟩ rfl (Nat.le_of_ble_eq_true rfl) d_Choir_tune_56 (fun rq3 hq4 => ?_)
        refine r_aload_n (pc := 59) (i := 1) d_Choir_tune_59 rfl rfl ?_
        refine r_getf (pc := 60) (ci := 7) (k := 3) (C := "CricketHay$Market") (T := F_7) (N := 16) (v := .ref (a1 + 4)) (fun s => Std.k s (ltn (cm hn) (kl_M ha1)) ha1) rfl (Nat.le_of_ble_eq_true rfl) rfl w_125 (fun s => vr rfl (Std.r s (ltn (cm hn) (kl_M ha1)) (rr_M_3 ha1))) d_Choir_tune_60 ?_
        refine r_iload (pc := 63) d_Choir_tune_63 rfl ?_
        refine r_gx (fun zq5 => ?_)
        refine r_iald (pc := 65) (n := 6) (i0 := (ix x4)) (fun s => Std.k s (ltn (cm hn) (kj_M_3 ha1)) (kk_M_3 ha1)) zq5 rfl d_Choir_tune_65 ?_
        refine r_aload_n (pc := 66) (i := 2) d_Choir_tune_66 rfl rfl ?_
        refine r_getf (pc := 67) (ci := 10) (k := 3) (C := "CricketHay$Yard") (T := F_10) (N := 10) (v := .ref (a2 + 4)) (fun s => Std.k s (ltn (cm hn) (kl_Y ha2)) ha2) rfl (Nat.le_of_ble_eq_true rfl) rfl w_219 (fun s => vr rfl (Std.r s (ltn (cm hn) (kl_Y ha2)) (rr_Y_3 ha2))) d_Choir_tune_67 ?_
        refine r_iload (pc := 70) d_Choir_tune_70 rfl ?_
        refine r_gx (fun zq6 => ?_)
        refine r_iald (pc := 72) (n := 6) (i0 := (ix x4)) (fun s => Std.k s (ltn (cm hn) (kj_Y_3 ha2)) (kk_Y_3 ha2)) zq6 rfl d_Choir_tune_72 ?_
        refine r_aload_n (pc := 73) (i := 2) d_Choir_tune_73 rfl rfl ?_
        refine r_aload_n (pc := 74) (i := 1) d_Choir_tune_74 rfl rfl ?_
        refine r_iload (pc := 75) d_Choir_tune_75 rfl ?_
        refine r_cVi (pc := 77) (T := F_10) (N := 10) (st := [.int (hI hq4 (a2 + 4) (ix x4)), .int (hI hq4 (a1 + 4) (ix x4)), .int rq3, .ref a1, .int x4, .ref 52]) (ok_Yard_mates hn a2 ha2 a1 ha1 x4 hq4) (fun s => Std.k s (ltn (cm hn) (kl_Y ha2)) ha2) rfl w_704 w_5 w_701 w_702 w_703 hy_Yard_mates ⟨Nat.le_of_ble_eq_true rfl, Nat.le_of_ble_eq_true rfl⟩ ⟨Nat.le_of_ble_eq_true rfl, Nat.le_of_ble_eq_true rfl⟩ rfl (Nat.le_of_ble_eq_true rfl) d_Choir_tune_77 (fun rq7 hq8 => ?_)
        refine r_aload_n (pc := 80) (i := 2) d_Choir_tune_80 rfl rfl ?_
        refine r_getf (pc := 81) (ci := 10) (k := 7) (C := "CricketHay$Yard") (T := F_10) (N := 10) (v := .int (hI hq8 a2 7)) (fun s => Std.k s (ltn (cm hn) (kl_Y ha2)) ha2) rfl (Nat.le_of_ble_eq_true rfl) rfl w_230 (fun _ => rfl) d_Choir_tune_81 ?_
        refine r_aload_n (pc := 84) (i := 2) d_Choir_tune_84 rfl rfl ?_
        refine r_getf (pc := 85) (ci := 10) (k := 8) (C := "CricketHay$Yard") (T := F_10) (N := 10) (v := .int (hI hq8 a2 8)) (fun s => Std.k s (ltn (cm hn) (kl_Y ha2)) ha2) rfl (Nat.le_of_ble_eq_true rfl) rfl w_234 (fun _ => rfl) d_Choir_tune_85 ?_
        refine r_cVi (pc := 88) (T := F_7) (N := 16) (st := [.int x4, .ref 52]) (ok_Market_sung hn a1 ha1 rq3 (hI hq4 (a1 + 4) (ix x4)) (hI hq4 (a2 + 4) (ix x4)) rq7 (hI hq8 a2 7) (hI hq8 a2 8) hq8) (fun s => Std.k s (ltn (cm hn) (kl_M ha1)) ha1) rfl w_708 w_3 w_705 w_706 w_707 hy_Market_sung ⟨Nat.le_of_ble_eq_true rfl, Nat.le_of_ble_eq_true rfl⟩ ⟨Nat.le_of_ble_eq_true rfl, Nat.le_of_ble_eq_true rfl⟩ rfl (Nat.le_of_ble_eq_true rfl) d_Choir_tune_88 (fun rq9 hq10 => ?_)
        refine r_gx (fun zq11 => ?_)
        refine r_iast (pc := 91) (n := 6) (i0 := (ix x4)) (fun s => Std.k s (lc hn rfl) kq_52) zq11 rfl (fun s => Std.sI s _ _ _) d_Choir_tune_91 ?_
        refine r_ltH (fun hq12 => ?_)
        refine r_ltE (fun xq13 exq13 => ?_)
        refine r_iinc (pc := 92) (v := xq13) (lv1 := [some (.ref 51), some (.ref a1), some (.ref a2), some (.int x3), some (.int xq13)]) d_Choir_tune_92 rfl exq13.symm (Nat.le_of_ble_eq_true rfl) rfl ?_
        refine r_goto (pc := 95) (tgt := 17) d_Choir_tune_95 (by rfl) ?_
        exact r_wk (ih x3 xq13 hq12) ⟨rfl, ⟨rfl, ⟨rfl, ⟨rfl, ⟨rfl, trivial⟩⟩⟩⟩⟩
      · refine r_iconst (pc := 42) (v := 0) d_Choir_tune_42 (by rfl) ?_
        refine r_goto (pc := 43) (tgt := 91) d_Choir_tune_43 (by rfl) ?_
        refine r_gx (fun zq14 => ?_)
        refine r_iast (pc := 91) (n := 6) (i0 := (ix x4)) (fun s => Std.k s (lc hn rfl) kq_52) zq14 rfl (fun s => Std.sI s _ _ _) d_Choir_tune_91 ?_
        refine r_ltH (fun hq15 => ?_)
        refine r_ltE (fun xq16 exq16 => ?_)
        refine r_iinc (pc := 92) (v := xq16) (lv1 := [some (.ref 51), some (.ref a1), some (.ref a2), some (.int x3), some (.int xq16)]) d_Choir_tune_92 rfl exq16.symm (Nat.le_of_ble_eq_true rfl) rfl ?_
        refine r_goto (pc := 95) (tgt := 17) d_Choir_tune_95 (by rfl) ?_
        exact r_wk (ih x3 xq16 hq15) ⟨rfl, ⟨rfl, ⟨rfl, ⟨rfl, ⟨rfl, trivial⟩⟩⟩⟩⟩
def f_Choir_tune  (a1 : Nat) (a2 : Nat) (h : AH) : Option AH :=
  lt (sI h 51 1 (hI h a1 11)) fun hq1 =>
  bI (f_Yard_warmth a2 a1 hq1) fun rq2 hq3 =>
  f_Choir_tune_l17 a1 a2 FU rq2 (0 : Int32) hq3
set_option maxHeartbeats 2000000 in
theorem ok_Choir_tune {G : AE} {n : Nat} (hn : NN ≤ n)  (a1 : Nat) (ha1 : kdF a1 = .inr 7) (a2 : Nat) (ha2 : kdF a2 = .inr 10) (h : AH) : OK G n y_Choir_tune (5) φV [.ref 51, .ref a1, .ref a2] h (f_Choir_tune a1 a2 h) := by
  refine ok_of (y := y_Choir_tune) (lv0 := [some (.ref 51), some (.ref a1), some (.ref a2), none, none]) (by decide +kernel) (Nat.le_of_ble_eq_true rfl) ⟨rfl, ⟨rfl, ⟨rfl, trivial⟩⟩⟩ ?_
  rw [f_Choir_tune]
  refine r_aload_n (pc := 0) (i := 0) d_Choir_tune_0 rfl rfl ?_
  refine r_aload_n (pc := 1) (i := 1) d_Choir_tune_1 rfl rfl ?_
  refine r_getf (pc := 2) (ci := 7) (k := 11) (C := "CricketHay$Market") (T := F_7) (N := 16) (v := .int (hI h a1 11)) (fun s => Std.k s (ltn (cm hn) (kl_M ha1)) ha1) rfl (Nat.le_of_ble_eq_true rfl) rfl w_152 (fun _ => rfl) d_Choir_tune_2 ?_
  refine r_putI (pc := 5) (ci := 2) (k := 1) (C := "CricketHay$Choir") (T := F_2) (N := 2) (fun s => Std.k s (lc hn rfl) kq_51) rfl (Nat.le_of_ble_eq_true rfl) rfl rfl w_268 (fun _ _ => rfl) (fun _ => rfl) (fun _ => rfl) (fun s => Std.sI s _ _ _) d_Choir_tune_5 ?_
  refine r_ltH (fun hq1 => ?_)
  refine r_aload_n (pc := 8) (i := 2) d_Choir_tune_8 rfl rfl ?_
  refine r_aload_n (pc := 9) (i := 1) d_Choir_tune_9 rfl rfl ?_
  refine r_cVi (pc := 10) (T := F_10) (N := 10) (st := []) (ok_Yard_warmth hn a2 ha2 a1 ha1 hq1) (fun s => Std.k s (ltn (cm hn) (kl_Y ha2)) ha2) rfl w_672 w_5 w_669 w_670 w_671 hy_Yard_warmth ⟨Nat.le_of_ble_eq_true rfl, Nat.le_of_ble_eq_true rfl⟩ ⟨Nat.le_of_ble_eq_true rfl, Nat.le_of_ble_eq_true rfl⟩ rfl (Nat.le_of_ble_eq_true rfl) d_Choir_tune_10 (fun rq2 hq3 => ?_)
  refine r_istore_n (pc := 13) (i := 3) (lv1 := [some (.ref 51), some (.ref a1), some (.ref a2), some (.int rq2), none]) d_Choir_tune_13 rfl (Nat.le_of_ble_eq_true rfl) rfl ?_
  refine r_iconst (pc := 14) (v := 0) d_Choir_tune_14 (by rfl) ?_
  refine r_istore (pc := 15) (lv1 := [some (.ref 51), some (.ref a1), some (.ref a2), some (.int rq2), some (.int (0 : Int32))]) d_Choir_tune_15 (Nat.le_of_ble_eq_true rfl) rfl ?_
  exact r_wk (o_Choir_tune_l17 hn ha1 ha2 FU rq2 (0 : Int32) hq3) ⟨rfl, ⟨rfl, ⟨rfl, ⟨rfl, ⟨rfl, trivial⟩⟩⟩⟩⟩

def f_H_dealer  (a1 : Int32) (a2 : Int32) (h : AH) : Option (Int32 × AH) :=
  gd h 0 1 7 fun cq1 =>
  bI (f_Market_has cq1 a1 h) fun rq2 hq3 =>
  if ¬ rq2 = 0 then
    if a2 = (0 : Int32) then
      gx a1 6 <|
      some ((hI hq3 38 (ix a1)), hq3)
    else
    if a2 = (1 : Int32) then
      gx a1 6 <|
      some ((hI hq3 39 (ix a1)), hq3)
    else
    if a2 = (2 : Int32) then
      gd hq3 0 1 7 fun cq9 =>
      gx a1 6 <|
      some ((hI hq3 (cq9 + 8) (ix a1)), hq3)
    else
    if a2 = (3 : Int32) then
      gx a1 6 <|
      some ((hI hq3 40 (ix a1)), hq3)
    else
    if a2 = (4 : Int32) then
      gd hq3 0 1 7 fun cq14 =>
      gx a1 6 <|
      some ((hI hq3 (cq14 + 3) (ix a1)), hq3)
    else
    if a2 = (5 : Int32) then
      gd hq3 0 1 7 fun cq17 =>
      gx a1 6 <|
      some ((hI hq3 (cq17 + 4) (ix a1)), hq3)
    else
    if a2 = (6 : Int32) then
      gx a1 6 <|
      some ((hI hq3 41 (ix a1)), hq3)
    else
    if a2 = (7 : Int32) then
      gx a1 6 <|
      some ((hI hq3 42 (ix a1)), hq3)
    else
    if a2 = (8 : Int32) then
      gx a1 6 <|
      some ((hI hq3 43 (ix a1)), hq3)
    else
    if a2 = (9 : Int32) then
      gd hq3 0 1 7 fun cq26 =>
      bV (f_Choir_tune cq26 37 hq3) fun hq27 =>
      gx a1 6 <|
      some ((hI hq27 52 (ix a1)), hq27)
    else
    if a2 = (10 : Int32) then
      gd hq3 0 1 7 fun cq30 =>
      bI (f_Yard_mates 37 cq30 a1 hq3) fun rq31 hq32 =>
      some (rq31, hq32)
    else
      some ((-100 : Int32), hq3)
  else
    some ((-100 : Int32), hq3)
set_option maxHeartbeats 2000000 in
theorem ok_H_dealer {G : AE} {n : Nat} (hn : NN ≤ n)  (a1 : Int32) (a2 : Int32) (h : AH) : OK G n y_H_dealer (6) φI [.ref 0, .int a1, .int a2] h (f_H_dealer a1 a2 h) := by
  refine ok_of (y := y_H_dealer) (lv0 := [some (.ref 0), some (.int a1), some (.int a2)]) (by decide +kernel) (Nat.le_of_ble_eq_true rfl) ⟨rfl, ⟨rfl, ⟨rfl, trivial⟩⟩⟩ ?_
  rw [f_H_dealer]
  refine r_aload_n (pc := 0) (i := 0) d_H_dealer_0 rfl rfl ?_
  refine r_gd (fun cq1 rcq1 kcq1 => ?_)
  refine r_getf (pc := 1) (ci := 11) (k := 1) (C := "CricketHay") (T := F_11) (N := 13) (v := .ref cq1) (fun s => Std.k s (lc hn rfl) kq_0) rfl (Nat.le_of_ble_eq_true rfl) rfl w_423 (fun _ => vr rfl rcq1) d_H_dealer_1 ?_
  refine r_iload_n (pc := 4) (i := 1) d_H_dealer_4 rfl rfl ?_
  refine r_cVi (pc := 5) (T := F_7) (N := 16) (st := []) (ok_Market_has hn cq1 kcq1 a1 h) (fun s => Std.k s (ltn (cm hn) (kl_M kcq1)) kcq1) rfl w_664 w_3 w_661 w_662 w_663 hy_Market_has ⟨Nat.le_of_ble_eq_true rfl, Nat.le_of_ble_eq_true rfl⟩ ⟨Nat.le_of_ble_eq_true rfl, Nat.le_of_ble_eq_true rfl⟩ rfl (Nat.le_of_ble_eq_true rfl) d_H_dealer_5 (fun rq2 hq3 => ?_)
  refine r_if_ne (pc := 8) (tgt := 14) d_H_dealer_8 (by rfl) ?_ ?_
  · refine r_iload_n (pc := 14) (i := 2) d_H_dealer_14 rfl rfl ?_
    refine r_split (fun cq4 => ?_) (fun cq4 => ?_)
    · refine r_tableIn (pc := 15) (tgt := 72) d_H_dealer_15 (by rw [cq4]; decide) (by rw [cq4]; decide) (by rw [cq4] <;> rfl) (by rfl) ?_
      refine r_aload_n (pc := 72) (i := 0) d_H_dealer_72 rfl rfl ?_
      refine r_getf (pc := 73) (ci := 11) (k := 3) (C := "CricketHay") (T := F_11) (N := 13) (v := .ref 37) (fun s => Std.k s (lc hn rfl) kq_0) rfl (Nat.le_of_ble_eq_true rfl) rfl w_425 (fun s => vr rfl (Std.r s (lc hn rfl) rq_0_3)) d_H_dealer_73 ?_
      refine r_getf (pc := 76) (ci := 10) (k := 0) (C := "CricketHay$Yard") (T := F_10) (N := 10) (v := .ref 38) (fun s => Std.k s (lc hn rfl) kq_37) rfl (Nat.le_of_ble_eq_true rfl) rfl w_212 (fun s => vr rfl (Std.r s (lc hn rfl) rq_37_0)) d_H_dealer_76 ?_
      refine r_iload_n (pc := 79) (i := 1) d_H_dealer_79 rfl rfl ?_
      refine r_gx (fun zq5 => ?_)
      refine r_iald (pc := 80) (n := 6) (i0 := (ix a1)) (fun s => Std.k s (lc hn rfl) kq_38) zq5 rfl d_H_dealer_80 ?_
      exact r_iret (pc := 81) rfl d_H_dealer_81
    refine r_split (fun cq6 => ?_) (fun cq6 => ?_)
    · refine r_tableIn (pc := 15) (tgt := 82) d_H_dealer_15 (by rw [cq6]; decide) (by rw [cq6]; decide) (by rw [cq6] <;> rfl) (by rfl) ?_
      refine r_aload_n (pc := 82) (i := 0) d_H_dealer_82 rfl rfl ?_
      refine r_getf (pc := 83) (ci := 11) (k := 3) (C := "CricketHay") (T := F_11) (N := 13) (v := .ref 37) (fun s => Std.k s (lc hn rfl) kq_0) rfl (Nat.le_of_ble_eq_true rfl) rfl w_425 (fun s => vr rfl (Std.r s (lc hn rfl) rq_0_3)) d_H_dealer_83 ?_
      refine r_getf (pc := 86) (ci := 10) (k := 1) (C := "CricketHay$Yard") (T := F_10) (N := 10) (v := .ref 39) (fun s => Std.k s (lc hn rfl) kq_37) rfl (Nat.le_of_ble_eq_true rfl) rfl w_215 (fun s => vr rfl (Std.r s (lc hn rfl) rq_37_1)) d_H_dealer_86 ?_
      refine r_iload_n (pc := 89) (i := 1) d_H_dealer_89 rfl rfl ?_
      refine r_gx (fun zq7 => ?_)
      refine r_iald (pc := 90) (n := 6) (i0 := (ix a1)) (fun s => Std.k s (lc hn rfl) kq_39) zq7 rfl d_H_dealer_90 ?_
      exact r_iret (pc := 91) rfl d_H_dealer_91
    refine r_split (fun cq8 => ?_) (fun cq8 => ?_)
    · refine r_tableIn (pc := 15) (tgt := 92) d_H_dealer_15 (by rw [cq8]; decide) (by rw [cq8]; decide) (by rw [cq8] <;> rfl) (by rfl) ?_
      refine r_aload_n (pc := 92) (i := 0) d_H_dealer_92 rfl rfl ?_
      refine r_gd (fun cq9 rcq9 kcq9 => ?_)
      refine r_getf (pc := 93) (ci := 11) (k := 1) (C := "CricketHay") (T := F_11) (N := 13) (v := .ref cq9) (fun s => Std.k s (lc hn rfl) kq_0) rfl (Nat.le_of_ble_eq_true rfl) rfl w_423 (fun _ => vr rfl rcq9) d_H_dealer_93 ?_
      refine r_getf (pc := 96) (ci := 7) (k := 7) (C := "CricketHay$Market") (T := F_7) (N := 16) (v := .ref (cq9 + 8)) (fun s => Std.k s (ltn (cm hn) (kl_M kcq9)) kcq9) rfl (Nat.le_of_ble_eq_true rfl) rfl w_140 (fun s => vr rfl (Std.r s (ltn (cm hn) (kl_M kcq9)) (rr_M_7 kcq9))) d_H_dealer_96 ?_
      refine r_iload_n (pc := 99) (i := 1) d_H_dealer_99 rfl rfl ?_
      refine r_gx (fun zq10 => ?_)
      refine r_iald (pc := 100) (n := 6) (i0 := (ix a1)) (fun s => Std.k s (ltn (cm hn) (kj_M_7 kcq9)) (kk_M_7 kcq9)) zq10 rfl d_H_dealer_100 ?_
      exact r_iret (pc := 101) rfl d_H_dealer_101
    refine r_split (fun cq11 => ?_) (fun cq11 => ?_)
    · refine r_tableIn (pc := 15) (tgt := 102) d_H_dealer_15 (by rw [cq11]; decide) (by rw [cq11]; decide) (by rw [cq11] <;> rfl) (by rfl) ?_
      refine r_aload_n (pc := 102) (i := 0) d_H_dealer_102 rfl rfl ?_
      refine r_getf (pc := 103) (ci := 11) (k := 3) (C := "CricketHay") (T := F_11) (N := 13) (v := .ref 37) (fun s => Std.k s (lc hn rfl) kq_0) rfl (Nat.le_of_ble_eq_true rfl) rfl w_425 (fun s => vr rfl (Std.r s (lc hn rfl) rq_0_3)) d_H_dealer_103 ?_
      refine r_getf (pc := 106) (ci := 10) (k := 2) (C := "CricketHay$Yard") (T := F_10) (N := 10) (v := .ref 40) (fun s => Std.k s (lc hn rfl) kq_37) rfl (Nat.le_of_ble_eq_true rfl) rfl w_217 (fun s => vr rfl (Std.r s (lc hn rfl) rq_37_2)) d_H_dealer_106 ?_
      refine r_iload_n (pc := 109) (i := 1) d_H_dealer_109 rfl rfl ?_
      refine r_gx (fun zq12 => ?_)
      refine r_iald (pc := 110) (n := 6) (i0 := (ix a1)) (fun s => Std.k s (lc hn rfl) kq_40) zq12 rfl d_H_dealer_110 ?_
      exact r_iret (pc := 111) rfl d_H_dealer_111
    refine r_split (fun cq13 => ?_) (fun cq13 => ?_)
    · refine r_tableIn (pc := 15) (tgt := 112) d_H_dealer_15 (by rw [cq13]; decide) (by rw [cq13]; decide) (by rw [cq13] <;> rfl) (by rfl) ?_
      refine r_aload_n (pc := 112) (i := 0) d_H_dealer_112 rfl rfl ?_
      refine r_gd (fun cq14 rcq14 kcq14 => ?_)
      refine r_getf (pc := 113) (ci := 11) (k := 1) (C := "CricketHay") (T := F_11) (N := 13) (v := .ref cq14) (fun s => Std.k s (lc hn rfl) kq_0) rfl (Nat.le_of_ble_eq_true rfl) rfl w_423 (fun _ => vr rfl rcq14) d_H_dealer_113 ?_
      refine r_getf (pc := 116) (ci := 7) (k := 2) (C := "CricketHay$Market") (T := F_7) (N := 16) (v := .ref (cq14 + 3)) (fun s => Std.k s (ltn (cm hn) (kl_M kcq14)) kcq14) rfl (Nat.le_of_ble_eq_true rfl) rfl w_122 (fun s => vr rfl (Std.r s (ltn (cm hn) (kl_M kcq14)) (rr_M_2 kcq14))) d_H_dealer_116 ?_
      refine r_iload_n (pc := 119) (i := 1) d_H_dealer_119 rfl rfl ?_
      refine r_gx (fun zq15 => ?_)
      refine r_iald (pc := 120) (n := 6) (i0 := (ix a1)) (fun s => Std.k s (ltn (cm hn) (kj_M_2 kcq14)) (kk_M_2 kcq14)) zq15 rfl d_H_dealer_120 ?_
      exact r_iret (pc := 121) rfl d_H_dealer_121
    refine r_split (fun cq16 => ?_) (fun cq16 => ?_)
    · refine r_tableIn (pc := 15) (tgt := 122) d_H_dealer_15 (by rw [cq16]; decide) (by rw [cq16]; decide) (by rw [cq16] <;> rfl) (by rfl) ?_
      refine r_aload_n (pc := 122) (i := 0) d_H_dealer_122 rfl rfl ?_
      refine r_gd (fun cq17 rcq17 kcq17 => ?_)
      refine r_getf (pc := 123) (ci := 11) (k := 1) (C := "CricketHay") (T := F_11) (N := 13) (v := .ref cq17) (fun s => Std.k s (lc hn rfl) kq_0) rfl (Nat.le_of_ble_eq_true rfl) rfl w_423 (fun _ => vr rfl rcq17) d_H_dealer_123 ?_
      refine r_getf (pc := 126) (ci := 7) (k := 3) (C := "CricketHay$Market") (T := F_7) (N := 16) (v := .ref (cq17 + 4)) (fun s => Std.k s (ltn (cm hn) (kl_M kcq17)) kcq17) rfl (Nat.le_of_ble_eq_true rfl) rfl w_127 (fun s => vr rfl (Std.r s (ltn (cm hn) (kl_M kcq17)) (rr_M_3 kcq17))) d_H_dealer_126 ?_
      refine r_iload_n (pc := 129) (i := 1) d_H_dealer_129 rfl rfl ?_
      refine r_gx (fun zq18 => ?_)
      refine r_iald (pc := 130) (n := 6) (i0 := (ix a1)) (fun s => Std.k s (ltn (cm hn) (kj_M_3 kcq17)) (kk_M_3 kcq17)) zq18 rfl d_H_dealer_130 ?_
      exact r_iret (pc := 131) rfl d_H_dealer_131
    refine r_split (fun cq19 => ?_) (fun cq19 => ?_)
    · refine r_tableIn (pc := 15) (tgt := 132) d_H_dealer_15 (by rw [cq19]; decide) (by rw [cq19]; decide) (by rw [cq19] <;> rfl) (by rfl) ?_
      refine r_aload_n (pc := 132) (i := 0) d_H_dealer_132 rfl rfl ?_
      refine r_getf (pc := 133) (ci := 11) (k := 3) (C := "CricketHay") (T := F_11) (N := 13) (v := .ref 37) (fun s => Std.k s (lc hn rfl) kq_0) rfl (Nat.le_of_ble_eq_true rfl) rfl w_425 (fun s => vr rfl (Std.r s (lc hn rfl) rq_0_3)) d_H_dealer_133 ?_
      refine r_getf (pc := 136) (ci := 10) (k := 3) (C := "CricketHay$Yard") (T := F_10) (N := 10) (v := .ref 41) (fun s => Std.k s (lc hn rfl) kq_37) rfl (Nat.le_of_ble_eq_true rfl) rfl w_220 (fun s => vr rfl (Std.r s (lc hn rfl) rq_37_3)) d_H_dealer_136 ?_
      refine r_iload_n (pc := 139) (i := 1) d_H_dealer_139 rfl rfl ?_
      refine r_gx (fun zq20 => ?_)
      refine r_iald (pc := 140) (n := 6) (i0 := (ix a1)) (fun s => Std.k s (lc hn rfl) kq_41) zq20 rfl d_H_dealer_140 ?_
      exact r_iret (pc := 141) rfl d_H_dealer_141
    refine r_split (fun cq21 => ?_) (fun cq21 => ?_)
    · refine r_tableIn (pc := 15) (tgt := 142) d_H_dealer_15 (by rw [cq21]; decide) (by rw [cq21]; decide) (by rw [cq21] <;> rfl) (by rfl) ?_
      refine r_aload_n (pc := 142) (i := 0) d_H_dealer_142 rfl rfl ?_
      refine r_getf (pc := 143) (ci := 11) (k := 3) (C := "CricketHay") (T := F_11) (N := 13) (v := .ref 37) (fun s => Std.k s (lc hn rfl) kq_0) rfl (Nat.le_of_ble_eq_true rfl) rfl w_425 (fun s => vr rfl (Std.r s (lc hn rfl) rq_0_3)) d_H_dealer_143 ?_
      refine r_getf (pc := 146) (ci := 10) (k := 4) (C := "CricketHay$Yard") (T := F_10) (N := 10) (v := .ref 42) (fun s => Std.k s (lc hn rfl) kq_37) rfl (Nat.le_of_ble_eq_true rfl) rfl w_223 (fun s => vr rfl (Std.r s (lc hn rfl) rq_37_4)) d_H_dealer_146 ?_
      refine r_iload_n (pc := 149) (i := 1) d_H_dealer_149 rfl rfl ?_
      refine r_gx (fun zq22 => ?_)
      refine r_iald (pc := 150) (n := 6) (i0 := (ix a1)) (fun s => Std.k s (lc hn rfl) kq_42) zq22 rfl d_H_dealer_150 ?_
      exact r_iret (pc := 151) rfl d_H_dealer_151
    refine r_split (fun cq23 => ?_) (fun cq23 => ?_)
    · refine r_tableIn (pc := 15) (tgt := 152) d_H_dealer_15 (by rw [cq23]; decide) (by rw [cq23]; decide) (by rw [cq23] <;> rfl) (by rfl) ?_
      refine r_aload_n (pc := 152) (i := 0) d_H_dealer_152 rfl rfl ?_
      refine r_getf (pc := 153) (ci := 11) (k := 3) (C := "CricketHay") (T := F_11) (N := 13) (v := .ref 37) (fun s => Std.k s (lc hn rfl) kq_0) rfl (Nat.le_of_ble_eq_true rfl) rfl w_425 (fun s => vr rfl (Std.r s (lc hn rfl) rq_0_3)) d_H_dealer_153 ?_
      refine r_getf (pc := 156) (ci := 10) (k := 5) (C := "CricketHay$Yard") (T := F_10) (N := 10) (v := .ref 43) (fun s => Std.k s (lc hn rfl) kq_37) rfl (Nat.le_of_ble_eq_true rfl) rfl w_226 (fun s => vr rfl (Std.r s (lc hn rfl) rq_37_5)) d_H_dealer_156 ?_
      refine r_iload_n (pc := 159) (i := 1) d_H_dealer_159 rfl rfl ?_
      refine r_gx (fun zq24 => ?_)
      refine r_iald (pc := 160) (n := 6) (i0 := (ix a1)) (fun s => Std.k s (lc hn rfl) kq_43) zq24 rfl d_H_dealer_160 ?_
      exact r_iret (pc := 161) rfl d_H_dealer_161
    refine r_split (fun cq25 => ?_) (fun cq25 => ?_)
    · refine r_tableIn (pc := 15) (tgt := 162) d_H_dealer_15 (by rw [cq25]; decide) (by rw [cq25]; decide) (by rw [cq25] <;> rfl) (by rfl) ?_
      refine r_aload_n (pc := 162) (i := 0) d_H_dealer_162 rfl rfl ?_
      refine r_getf (pc := 163) (ci := 11) (k := 5) (C := "CricketHay") (T := F_11) (N := 13) (v := .ref 51) (fun s => Std.k s (lc hn rfl) kq_0) rfl (Nat.le_of_ble_eq_true rfl) rfl w_427 (fun s => vr rfl (Std.r s (lc hn rfl) rq_0_5)) d_H_dealer_163 ?_
      refine r_aload_n (pc := 166) (i := 0) d_H_dealer_166 rfl rfl ?_
      refine r_gd (fun cq26 rcq26 kcq26 => ?_)
      refine r_getf (pc := 167) (ci := 11) (k := 1) (C := "CricketHay") (T := F_11) (N := 13) (v := .ref cq26) (fun s => Std.k s (lc hn rfl) kq_0) rfl (Nat.le_of_ble_eq_true rfl) rfl w_423 (fun _ => vr rfl rcq26) d_H_dealer_167 ?_
      refine r_aload_n (pc := 170) (i := 0) d_H_dealer_170 rfl rfl ?_
      refine r_getf (pc := 171) (ci := 11) (k := 3) (C := "CricketHay") (T := F_11) (N := 13) (v := .ref 37) (fun s => Std.k s (lc hn rfl) kq_0) rfl (Nat.le_of_ble_eq_true rfl) rfl w_425 (fun s => vr rfl (Std.r s (lc hn rfl) rq_0_3)) d_H_dealer_171 ?_
      refine r_cVv (pc := 174) (T := F_2) (N := 2) (st := []) (ok_Choir_tune hn cq26 kcq26 37 kq_37 hq3) (fun s => Std.k s (lc hn rfl) kq_51) rfl w_668 w_6 w_665 w_666 w_667 hy_Choir_tune ⟨Nat.le_of_ble_eq_true rfl, Nat.le_of_ble_eq_true rfl⟩ ⟨Nat.le_of_ble_eq_true rfl, Nat.le_of_ble_eq_true rfl⟩ rfl (Nat.le_of_ble_eq_true rfl) d_H_dealer_174 (fun hq27 => ?_)
      refine r_aload_n (pc := 177) (i := 0) d_H_dealer_177 rfl rfl ?_
      refine r_getf (pc := 178) (ci := 11) (k := 5) (C := "CricketHay") (T := F_11) (N := 13) (v := .ref 51) (fun s => Std.k s (lc hn rfl) kq_0) rfl (Nat.le_of_ble_eq_true rfl) rfl w_427 (fun s => vr rfl (Std.r s (lc hn rfl) rq_0_5)) d_H_dealer_178 ?_
      refine r_getf (pc := 181) (ci := 2) (k := 0) (C := "CricketHay$Choir") (T := F_2) (N := 2) (v := .ref 52) (fun s => Std.k s (lc hn rfl) kq_51) rfl (Nat.le_of_ble_eq_true rfl) rfl w_267 (fun s => vr rfl (Std.r s (lc hn rfl) rq_51_0)) d_H_dealer_181 ?_
      refine r_iload_n (pc := 184) (i := 1) d_H_dealer_184 rfl rfl ?_
      refine r_gx (fun zq28 => ?_)
      refine r_iald (pc := 185) (n := 6) (i0 := (ix a1)) (fun s => Std.k s (lc hn rfl) kq_52) zq28 rfl d_H_dealer_185 ?_
      exact r_iret (pc := 186) rfl d_H_dealer_186
    refine r_split (fun cq29 => ?_) (fun cq29 => ?_)
    · refine r_tableIn (pc := 15) (tgt := 187) d_H_dealer_15 (by rw [cq29]; decide) (by rw [cq29]; decide) (by rw [cq29] <;> rfl) (by rfl) ?_
      refine r_aload_n (pc := 187) (i := 0) d_H_dealer_187 rfl rfl ?_
      refine r_getf (pc := 188) (ci := 11) (k := 3) (C := "CricketHay") (T := F_11) (N := 13) (v := .ref 37) (fun s => Std.k s (lc hn rfl) kq_0) rfl (Nat.le_of_ble_eq_true rfl) rfl w_425 (fun s => vr rfl (Std.r s (lc hn rfl) rq_0_3)) d_H_dealer_188 ?_
      refine r_aload_n (pc := 191) (i := 0) d_H_dealer_191 rfl rfl ?_
      refine r_gd (fun cq30 rcq30 kcq30 => ?_)
      refine r_getf (pc := 192) (ci := 11) (k := 1) (C := "CricketHay") (T := F_11) (N := 13) (v := .ref cq30) (fun s => Std.k s (lc hn rfl) kq_0) rfl (Nat.le_of_ble_eq_true rfl) rfl w_423 (fun _ => vr rfl rcq30) d_H_dealer_192 ?_
      refine r_iload_n (pc := 195) (i := 1) d_H_dealer_195 rfl rfl ?_
      refine r_cVi (pc := 196) (T := F_10) (N := 10) (st := []) (ok_Yard_mates hn 37 kq_37 cq30 kcq30 a1 hq3) (fun s => Std.k s (lc hn rfl) kq_37) rfl w_704 w_5 w_709 w_702 w_703 hy_Yard_mates ⟨Nat.le_of_ble_eq_true rfl, Nat.le_of_ble_eq_true rfl⟩ ⟨Nat.le_of_ble_eq_true rfl, Nat.le_of_ble_eq_true rfl⟩ rfl (Nat.le_of_ble_eq_true rfl) d_H_dealer_196 (fun rq31 hq32 => ?_)
      exact r_iret (pc := 199) rfl d_H_dealer_199
    refine r_tableD (pc := 15) (tgt := 200) d_H_dealer_15 [0, 1, 2, 3, 4, 5, 6, 7, 8, 9, 10] (List.forall_mem_cons.mpr ⟨lv_neT cq4 (show ((0 : Int32)).toInt = 0 from rfl), List.forall_mem_cons.mpr ⟨lv_neT cq6 (show ((1 : Int32)).toInt = 1 from rfl), List.forall_mem_cons.mpr ⟨lv_neT cq8 (show ((2 : Int32)).toInt = 2 from rfl), List.forall_mem_cons.mpr ⟨lv_neT cq11 (show ((3 : Int32)).toInt = 3 from rfl), List.forall_mem_cons.mpr ⟨lv_neT cq13 (show ((4 : Int32)).toInt = 4 from rfl), List.forall_mem_cons.mpr ⟨lv_neT cq16 (show ((5 : Int32)).toInt = 5 from rfl), List.forall_mem_cons.mpr ⟨lv_neT cq19 (show ((6 : Int32)).toInt = 6 from rfl), List.forall_mem_cons.mpr ⟨lv_neT cq21 (show ((7 : Int32)).toInt = 7 from rfl), List.forall_mem_cons.mpr ⟨lv_neT cq23 (show ((8 : Int32)).toInt = 8 from rfl), List.forall_mem_cons.mpr ⟨lv_neT cq25 (show ((9 : Int32)).toInt = 9 from rfl), List.forall_mem_cons.mpr ⟨lv_neT cq29 (show ((10 : Int32)).toInt = 10 from rfl), List.forall_mem_nil _⟩⟩⟩⟩⟩⟩⟩⟩⟩⟩⟩) (by decide) (by rfl) ?_
    refine r_bipush (pc := 200) (v := -100) d_H_dealer_200 (by rfl) ?_
    exact r_iret (pc := 202) rfl d_H_dealer_202
  · refine r_bipush (pc := 11) (v := -100) d_H_dealer_11 (by rfl) ?_
    exact r_iret (pc := 13) rfl d_H_dealer_13

def f_H_heat   (h : AH) : Option (Int32 × AH) :=
  gd h 0 1 7 fun cq1 =>
  bI (f_Yard_warmth 37 cq1 h) fun rq2 hq3 =>
  some (rq2, hq3)
set_option maxHeartbeats 2000000 in
theorem ok_H_heat {G : AE} {n : Nat} (hn : NN ≤ n)   (h : AH) : OK G n y_H_heat (5) φI [.ref 0] h (f_H_heat h) := by
  refine ok_of (y := y_H_heat) (lv0 := [some (.ref 0)]) (by decide +kernel) (Nat.le_of_ble_eq_true rfl) ⟨rfl, trivial⟩ ?_
  rw [f_H_heat]
  refine r_aload_n (pc := 0) (i := 0) d_H_heat_0 rfl rfl ?_
  refine r_getf (pc := 1) (ci := 11) (k := 3) (C := "CricketHay") (T := F_11) (N := 13) (v := .ref 37) (fun s => Std.k s (lc hn rfl) kq_0) rfl (Nat.le_of_ble_eq_true rfl) rfl w_425 (fun s => vr rfl (Std.r s (lc hn rfl) rq_0_3)) d_H_heat_1 ?_
  refine r_aload_n (pc := 4) (i := 0) d_H_heat_4 rfl rfl ?_
  refine r_gd (fun cq1 rcq1 kcq1 => ?_)
  refine r_getf (pc := 5) (ci := 11) (k := 1) (C := "CricketHay") (T := F_11) (N := 13) (v := .ref cq1) (fun s => Std.k s (lc hn rfl) kq_0) rfl (Nat.le_of_ble_eq_true rfl) rfl w_423 (fun _ => vr rfl rcq1) d_H_heat_5 ?_
  refine r_cVi (pc := 8) (T := F_10) (N := 10) (st := []) (ok_Yard_warmth hn 37 kq_37 cq1 kcq1 h) (fun s => Std.k s (lc hn rfl) kq_37) rfl w_672 w_5 w_714 w_670 w_671 hy_Yard_warmth ⟨Nat.le_of_ble_eq_true rfl, Nat.le_of_ble_eq_true rfl⟩ ⟨Nat.le_of_ble_eq_true rfl, Nat.le_of_ble_eq_true rfl⟩ rfl (Nat.le_of_ble_eq_true rfl) d_H_heat_8 (fun rq2 hq3 => ?_)
  exact r_iret (pc := 11) rfl d_H_heat_11

def f_H_areTwo  (a1 : Int32) (a2 : Int32) (h : AH) : Option (Int32 × AH) :=
  if a1 = a2 then
    some ((0 : Int32), h)
  else
    gd h 0 1 7 fun cq1 =>
    bI (f_Market_has cq1 a1 h) fun rq2 hq3 =>
    if rq2 = 0 then
      some ((0 : Int32), hq3)
    else
      gd hq3 0 1 7 fun cq4 =>
      bI (f_Market_has cq4 a2 hq3) fun rq5 hq6 =>
      if rq5 = 0 then
        some ((0 : Int32), hq6)
      else
        some ((1 : Int32), hq6)
set_option maxHeartbeats 2000000 in
theorem ok_H_areTwo {G : AE} {n : Nat} (hn : NN ≤ n)  (a1 : Int32) (a2 : Int32) (h : AH) : OK G n y_H_areTwo (2) φI [.ref 0, .int a1, .int a2] h (f_H_areTwo a1 a2 h) := by
  refine ok_of (y := y_H_areTwo) (lv0 := [some (.ref 0), some (.int a1), some (.int a2)]) (by decide +kernel) (Nat.le_of_ble_eq_true rfl) ⟨rfl, ⟨rfl, ⟨rfl, trivial⟩⟩⟩ ?_
  rw [f_H_areTwo]
  refine r_iload_n (pc := 0) (i := 1) d_H_areTwo_0 rfl rfl ?_
  refine r_iload_n (pc := 1) (i := 2) d_H_areTwo_1 rfl rfl ?_
  refine r_icmp_eq (pc := 2) (tgt := 31) d_H_areTwo_2 (by rfl) ?_ ?_
  · refine r_iconst (pc := 31) (v := 0) d_H_areTwo_31 (by rfl) ?_
    exact r_zret (pc := 32) rfl rfl d_H_areTwo_32
  · refine r_aload_n (pc := 5) (i := 0) d_H_areTwo_5 rfl rfl ?_
    refine r_gd (fun cq1 rcq1 kcq1 => ?_)
    refine r_getf (pc := 6) (ci := 11) (k := 1) (C := "CricketHay") (T := F_11) (N := 13) (v := .ref cq1) (fun s => Std.k s (lc hn rfl) kq_0) rfl (Nat.le_of_ble_eq_true rfl) rfl w_423 (fun _ => vr rfl rcq1) d_H_areTwo_6 ?_
    refine r_iload_n (pc := 9) (i := 1) d_H_areTwo_9 rfl rfl ?_
    refine r_cVi (pc := 10) (T := F_7) (N := 16) (st := []) (ok_Market_has hn cq1 kcq1 a1 h) (fun s => Std.k s (ltn (cm hn) (kl_M kcq1)) kcq1) rfl w_664 w_3 w_661 w_662 w_663 hy_Market_has ⟨Nat.le_of_ble_eq_true rfl, Nat.le_of_ble_eq_true rfl⟩ ⟨Nat.le_of_ble_eq_true rfl, Nat.le_of_ble_eq_true rfl⟩ rfl (Nat.le_of_ble_eq_true rfl) d_H_areTwo_10 (fun rq2 hq3 => ?_)
    refine r_if_eq (pc := 13) (tgt := 31) d_H_areTwo_13 (by rfl) ?_ ?_
    · refine r_iconst (pc := 31) (v := 0) d_H_areTwo_31 (by rfl) ?_
      exact r_zret (pc := 32) rfl rfl d_H_areTwo_32
    · refine r_aload_n (pc := 16) (i := 0) d_H_areTwo_16 rfl rfl ?_
      refine r_gd (fun cq4 rcq4 kcq4 => ?_)
      refine r_getf (pc := 17) (ci := 11) (k := 1) (C := "CricketHay") (T := F_11) (N := 13) (v := .ref cq4) (fun s => Std.k s (lc hn rfl) kq_0) rfl (Nat.le_of_ble_eq_true rfl) rfl w_423 (fun _ => vr rfl rcq4) d_H_areTwo_17 ?_
      refine r_iload_n (pc := 20) (i := 2) d_H_areTwo_20 rfl rfl ?_
      refine r_cVi (pc := 21) (T := F_7) (N := 16) (st := []) (ok_Market_has hn cq4 kcq4 a2 hq3) (fun s => Std.k s (ltn (cm hn) (kl_M kcq4)) kcq4) rfl w_664 w_3 w_661 w_662 w_663 hy_Market_has ⟨Nat.le_of_ble_eq_true rfl, Nat.le_of_ble_eq_true rfl⟩ ⟨Nat.le_of_ble_eq_true rfl, Nat.le_of_ble_eq_true rfl⟩ rfl (Nat.le_of_ble_eq_true rfl) d_H_areTwo_21 (fun rq5 hq6 => ?_)
      refine r_if_eq (pc := 24) (tgt := 31) d_H_areTwo_24 (by rfl) ?_ ?_
      · refine r_iconst (pc := 31) (v := 0) d_H_areTwo_31 (by rfl) ?_
        exact r_zret (pc := 32) rfl rfl d_H_areTwo_32
      · refine r_iconst (pc := 27) (v := 1) d_H_areTwo_27 (by rfl) ?_
        refine r_goto (pc := 28) (tgt := 32) d_H_areTwo_28 (by rfl) ?_
        exact r_zret (pc := 32) rfl rfl d_H_areTwo_32

def f_Choir_half  (a1 : Int32) (a2 : Int32) (h : AH) : Option (Int32 × AH) :=
  gx a1 6 <|
  gx a2 6 <|
  some ((((hI h 52 (ix a1)) + (hI h 52 (ix a2))) / (2 : Int32)), h)
set_option maxHeartbeats 2000000 in
theorem ok_Choir_half {G : AE} {n : Nat} (hn : NN ≤ n)  (a1 : Int32) (a2 : Int32) (h : AH) : OK G n y_Choir_half (1) φI [.ref 51, .int a1, .int a2] h (f_Choir_half a1 a2 h) := by
  refine ok_of (y := y_Choir_half) (lv0 := [some (.ref 51), some (.int a1), some (.int a2)]) (by decide +kernel) (Nat.le_of_ble_eq_true rfl) ⟨rfl, ⟨rfl, ⟨rfl, trivial⟩⟩⟩ ?_
  rw [f_Choir_half]
  refine r_aload_n (pc := 0) (i := 0) d_Choir_half_0 rfl rfl ?_
  refine r_getf (pc := 1) (ci := 2) (k := 0) (C := "CricketHay$Choir") (T := F_2) (N := 2) (v := .ref 52) (fun s => Std.k s (lc hn rfl) kq_51) rfl (Nat.le_of_ble_eq_true rfl) rfl w_266 (fun s => vr rfl (Std.r s (lc hn rfl) rq_51_0)) d_Choir_half_1 ?_
  refine r_iload_n (pc := 4) (i := 1) d_Choir_half_4 rfl rfl ?_
  refine r_gx (fun zq1 => ?_)
  refine r_iald (pc := 5) (n := 6) (i0 := (ix a1)) (fun s => Std.k s (lc hn rfl) kq_52) zq1 rfl d_Choir_half_5 ?_
  refine r_aload_n (pc := 6) (i := 0) d_Choir_half_6 rfl rfl ?_
  refine r_getf (pc := 7) (ci := 2) (k := 0) (C := "CricketHay$Choir") (T := F_2) (N := 2) (v := .ref 52) (fun s => Std.k s (lc hn rfl) kq_51) rfl (Nat.le_of_ble_eq_true rfl) rfl w_266 (fun s => vr rfl (Std.r s (lc hn rfl) rq_51_0)) d_Choir_half_7 ?_
  refine r_iload_n (pc := 10) (i := 2) d_Choir_half_10 rfl rfl ?_
  refine r_gx (fun zq2 => ?_)
  refine r_iald (pc := 11) (n := 6) (i0 := (ix a2)) (fun s => Std.k s (lc hn rfl) kq_52) zq2 rfl d_Choir_half_11 ?_
  refine r_iadd (pc := 12) d_Choir_half_12 ?_
  refine r_iconst (pc := 13) (v := 2) d_Choir_half_13 (by rfl) ?_
  refine r_idivC (pc := 14) (by decide) d_Choir_half_14 ?_
  exact r_iret (pc := 15) rfl d_Choir_half_15

def f_H_price  (a1 : Int32) (a2 : Int32) (h : AH) : Option (Int32 × AH) :=
  bI (f_H_areTwo a1 a2 h) fun rq1 hq2 =>
  if ¬ rq1 = 0 then
    gd hq2 0 1 7 fun cq3 =>
    bV (f_Choir_tune cq3 37 hq2) fun hq4 =>
    bI (f_Choir_half a1 a2 hq4) fun rq5 hq6 =>
    some (rq5, hq6)
  else
    some ((-1 : Int32), hq2)
set_option maxHeartbeats 2000000 in
theorem ok_H_price {G : AE} {n : Nat} (hn : NN ≤ n)  (a1 : Int32) (a2 : Int32) (h : AH) : OK G n y_H_price (6) φI [.ref 0, .int a1, .int a2] h (f_H_price a1 a2 h) := by
  refine ok_of (y := y_H_price) (lv0 := [some (.ref 0), some (.int a1), some (.int a2)]) (by decide +kernel) (Nat.le_of_ble_eq_true rfl) ⟨rfl, ⟨rfl, ⟨rfl, trivial⟩⟩⟩ ?_
  rw [f_H_price]
  refine r_aload_n (pc := 0) (i := 0) d_H_price_0 rfl rfl ?_
  refine r_iload_n (pc := 1) (i := 1) d_H_price_1 rfl rfl ?_
  refine r_iload_n (pc := 2) (i := 2) d_H_price_2 rfl rfl ?_
  refine r_cVi (pc := 3) (T := F_11) (N := 13) (st := []) (ok_H_areTwo hn a1 a2 h) (fun s => Std.k s (lc hn rfl) kq_0) rfl w_722 w_1 w_719 w_721 ws_23 hy_H_areTwo ⟨Nat.le_of_ble_eq_true rfl, Nat.le_of_ble_eq_true rfl⟩ ⟨Nat.le_of_ble_eq_true rfl, Nat.le_of_ble_eq_true rfl⟩ rfl (Nat.le_of_ble_eq_true rfl) d_H_price_3 (fun rq1 hq2 => ?_)
  refine r_if_ne (pc := 6) (tgt := 11) d_H_price_6 (by rfl) ?_ ?_
  · refine r_aload_n (pc := 11) (i := 0) d_H_price_11 rfl rfl ?_
    refine r_getf (pc := 12) (ci := 11) (k := 5) (C := "CricketHay") (T := F_11) (N := 13) (v := .ref 51) (fun s => Std.k s (lc hn rfl) kq_0) rfl (Nat.le_of_ble_eq_true rfl) rfl w_427 (fun s => vr rfl (Std.r s (lc hn rfl) rq_0_5)) d_H_price_12 ?_
    refine r_aload_n (pc := 15) (i := 0) d_H_price_15 rfl rfl ?_
    refine r_gd (fun cq3 rcq3 kcq3 => ?_)
    refine r_getf (pc := 16) (ci := 11) (k := 1) (C := "CricketHay") (T := F_11) (N := 13) (v := .ref cq3) (fun s => Std.k s (lc hn rfl) kq_0) rfl (Nat.le_of_ble_eq_true rfl) rfl w_423 (fun _ => vr rfl rcq3) d_H_price_16 ?_
    refine r_aload_n (pc := 19) (i := 0) d_H_price_19 rfl rfl ?_
    refine r_getf (pc := 20) (ci := 11) (k := 3) (C := "CricketHay") (T := F_11) (N := 13) (v := .ref 37) (fun s => Std.k s (lc hn rfl) kq_0) rfl (Nat.le_of_ble_eq_true rfl) rfl w_425 (fun s => vr rfl (Std.r s (lc hn rfl) rq_0_3)) d_H_price_20 ?_
    refine r_cVv (pc := 23) (T := F_2) (N := 2) (st := []) (ok_Choir_tune hn cq3 kcq3 37 kq_37 hq2) (fun s => Std.k s (lc hn rfl) kq_51) rfl w_668 w_6 w_665 w_666 w_667 hy_Choir_tune ⟨Nat.le_of_ble_eq_true rfl, Nat.le_of_ble_eq_true rfl⟩ ⟨Nat.le_of_ble_eq_true rfl, Nat.le_of_ble_eq_true rfl⟩ rfl (Nat.le_of_ble_eq_true rfl) d_H_price_23 (fun hq4 => ?_)
    refine r_aload_n (pc := 26) (i := 0) d_H_price_26 rfl rfl ?_
    refine r_getf (pc := 27) (ci := 11) (k := 5) (C := "CricketHay") (T := F_11) (N := 13) (v := .ref 51) (fun s => Std.k s (lc hn rfl) kq_0) rfl (Nat.le_of_ble_eq_true rfl) rfl w_427 (fun s => vr rfl (Std.r s (lc hn rfl) rq_0_5)) d_H_price_27 ?_
    refine r_iload_n (pc := 30) (i := 1) d_H_price_30 rfl rfl ?_
    refine r_iload_n (pc := 31) (i := 2) d_H_price_31 rfl rfl ?_
    refine r_cVi (pc := 32) (T := F_2) (N := 2) (st := []) (ok_Choir_half hn a1 a2 hq4) (fun s => Std.k s (lc hn rfl) kq_51) rfl w_726 w_6 w_723 w_724 w_725 hy_Choir_half ⟨Nat.le_of_ble_eq_true rfl, Nat.le_of_ble_eq_true rfl⟩ ⟨Nat.le_of_ble_eq_true rfl, Nat.le_of_ble_eq_true rfl⟩ rfl (Nat.le_of_ble_eq_true rfl) d_H_price_32 (fun rq5 hq6 => ?_)
    exact r_iret (pc := 35) rfl d_H_price_35
  · refine r_iconst (pc := 9) (v := -1) d_H_price_9 (by rfl) ?_
    exact r_iret (pc := 10) rfl d_H_price_10

def f_H_canBuyOne  (a1 : Int32) (a2 : Int32) (h : AH) : Option (Int32 × AH) :=
  if a2 = a1 then
    some ((0 : Int32), h)
  else
    gx a2 6 <|
    if (hI h 39 (ix a2)) ≤ 0 then
      some ((0 : Int32), h)
    else
      bI (f_Choir_half a1 a2 h) fun rq2 hq3 =>
      gx a1 6 <|
      if (hI hq3 38 (ix a1)) < rq2 then
        some ((0 : Int32), hq3)
      else
        some ((1 : Int32), hq3)
set_option maxHeartbeats 2000000 in
theorem ok_H_canBuyOne {G : AE} {n : Nat} (hn : NN ≤ n)  (a1 : Int32) (a2 : Int32) (h : AH) : OK G n y_H_canBuyOne (2) φI [.ref 0, .int a1, .int a2] h (f_H_canBuyOne a1 a2 h) := by
  refine ok_of (y := y_H_canBuyOne) (lv0 := [some (.ref 0), some (.int a1), some (.int a2)]) (by decide +kernel) (Nat.le_of_ble_eq_true rfl) ⟨rfl, ⟨rfl, ⟨rfl, trivial⟩⟩⟩ ?_
  rw [f_H_canBuyOne]
  refine r_iload_n (pc := 0) (i := 2) d_H_canBuyOne_0 rfl rfl ?_
  refine r_iload_n (pc := 1) (i := 1) d_H_canBuyOne_1 rfl rfl ?_
  refine r_icmp_eq (pc := 2) (tgt := 42) d_H_canBuyOne_2 (by rfl) ?_ ?_
  · refine r_iconst (pc := 42) (v := 0) d_H_canBuyOne_42 (by rfl) ?_
    exact r_zret (pc := 43) rfl rfl d_H_canBuyOne_43
  · refine r_aload_n (pc := 5) (i := 0) d_H_canBuyOne_5 rfl rfl ?_
    refine r_getf (pc := 6) (ci := 11) (k := 3) (C := "CricketHay") (T := F_11) (N := 13) (v := .ref 37) (fun s => Std.k s (lc hn rfl) kq_0) rfl (Nat.le_of_ble_eq_true rfl) rfl w_425 (fun s => vr rfl (Std.r s (lc hn rfl) rq_0_3)) d_H_canBuyOne_6 ?_
    refine r_getf (pc := 9) (ci := 10) (k := 1) (C := "CricketHay$Yard") (T := F_10) (N := 10) (v := .ref 39) (fun s => Std.k s (lc hn rfl) kq_37) rfl (Nat.le_of_ble_eq_true rfl) rfl w_215 (fun s => vr rfl (Std.r s (lc hn rfl) rq_37_1)) d_H_canBuyOne_9 ?_
    refine r_iload_n (pc := 12) (i := 2) d_H_canBuyOne_12 rfl rfl ?_
    refine r_gx (fun zq1 => ?_)
    refine r_iald (pc := 13) (n := 6) (i0 := (ix a2)) (fun s => Std.k s (lc hn rfl) kq_39) zq1 rfl d_H_canBuyOne_13 ?_
    refine r_if_le (pc := 14) (tgt := 42) d_H_canBuyOne_14 (by rfl) ?_ ?_
    · refine r_iconst (pc := 42) (v := 0) d_H_canBuyOne_42 (by rfl) ?_
      exact r_zret (pc := 43) rfl rfl d_H_canBuyOne_43
    · refine r_aload_n (pc := 17) (i := 0) d_H_canBuyOne_17 rfl rfl ?_
      refine r_getf (pc := 18) (ci := 11) (k := 5) (C := "CricketHay") (T := F_11) (N := 13) (v := .ref 51) (fun s => Std.k s (lc hn rfl) kq_0) rfl (Nat.le_of_ble_eq_true rfl) rfl w_427 (fun s => vr rfl (Std.r s (lc hn rfl) rq_0_5)) d_H_canBuyOne_18 ?_
      refine r_iload_n (pc := 21) (i := 1) d_H_canBuyOne_21 rfl rfl ?_
      refine r_iload_n (pc := 22) (i := 2) d_H_canBuyOne_22 rfl rfl ?_
      refine r_cVi (pc := 23) (T := F_2) (N := 2) (st := []) (ok_Choir_half hn a1 a2 h) (fun s => Std.k s (lc hn rfl) kq_51) rfl w_726 w_6 w_723 w_724 w_725 hy_Choir_half ⟨Nat.le_of_ble_eq_true rfl, Nat.le_of_ble_eq_true rfl⟩ ⟨Nat.le_of_ble_eq_true rfl, Nat.le_of_ble_eq_true rfl⟩ rfl (Nat.le_of_ble_eq_true rfl) d_H_canBuyOne_23 (fun rq2 hq3 => ?_)
      refine r_aload_n (pc := 26) (i := 0) d_H_canBuyOne_26 rfl rfl ?_
      refine r_getf (pc := 27) (ci := 11) (k := 3) (C := "CricketHay") (T := F_11) (N := 13) (v := .ref 37) (fun s => Std.k s (lc hn rfl) kq_0) rfl (Nat.le_of_ble_eq_true rfl) rfl w_425 (fun s => vr rfl (Std.r s (lc hn rfl) rq_0_3)) d_H_canBuyOne_27 ?_
      refine r_getf (pc := 30) (ci := 10) (k := 0) (C := "CricketHay$Yard") (T := F_10) (N := 10) (v := .ref 38) (fun s => Std.k s (lc hn rfl) kq_37) rfl (Nat.le_of_ble_eq_true rfl) rfl w_212 (fun s => vr rfl (Std.r s (lc hn rfl) rq_37_0)) d_H_canBuyOne_30 ?_
      refine r_iload_n (pc := 33) (i := 1) d_H_canBuyOne_33 rfl rfl ?_
      refine r_gx (fun zq4 => ?_)
      refine r_iald (pc := 34) (n := 6) (i0 := (ix a1)) (fun s => Std.k s (lc hn rfl) kq_38) zq4 rfl d_H_canBuyOne_34 ?_
      refine r_icmp_gt (pc := 35) (tgt := 42) d_H_canBuyOne_35 (by rfl) ?_ ?_
      · refine r_iconst (pc := 42) (v := 0) d_H_canBuyOne_42 (by rfl) ?_
        exact r_zret (pc := 43) rfl rfl d_H_canBuyOne_43
      · refine r_iconst (pc := 38) (v := 1) d_H_canBuyOne_38 (by rfl) ?_
        refine r_goto (pc := 39) (tgt := 43) d_H_canBuyOne_39 (by rfl) ?_
        exact r_zret (pc := 43) rfl rfl d_H_canBuyOne_43

def f_H_cheapest_l32  (a1 : Int32)  : Nat → Int32 → Int32 → AH → Option (Int32 × AH)
  | 0, _, _, _ => none
  | n + 1, x2, x3, h =>
    gd h 0 1 7 fun cq1 =>
    if (hI h cq1 11) ≤ x3 then
      some (x2, h)
    else
      bI (f_H_canBuyOne a1 x3 h) fun rq2 hq3 =>
      if rq2 = 0 then
        lt (x3 + (1 : Int32)) fun xq4 =>
        f_H_cheapest_l32 a1 n x2 xq4 hq3
      else
        if x2 = (-1 : Int32) then
          lt (x3 + (1 : Int32)) fun xq5 =>
          f_H_cheapest_l32 a1 n x3 xq5 hq3
        else
          bI (f_Choir_half a1 x3 hq3) fun rq6 hq7 =>
          bI (f_Choir_half a1 x2 hq7) fun rq8 hq9 =>
          if rq8 ≤ rq6 then
            lt (x3 + (1 : Int32)) fun xq10 =>
            f_H_cheapest_l32 a1 n x2 xq10 hq9
          else
            lt (x3 + (1 : Int32)) fun xq11 =>
            f_H_cheapest_l32 a1 n x3 xq11 hq9
set_option maxHeartbeats 2000000 in
theorem o_H_cheapest_l32 {G : AE} {n : Nat} (hn : NN ≤ n)  {a1 : Int32}   : ∀ (n0 : Nat) (x2 : Int32) (x3 : Int32) (h : AH), AJ G n y_H_cheapest (6) φI 32 [some (.ref 0), some (.int a1), some (.int x2), some (.int x3)] [] h (f_H_cheapest_l32 a1 n0 x2 x3 h) := by
  intro n0
  induction n0 with
  | zero => intros; exact r_none
  | succ n0 ih =>
    intro x2 x3 h
    rw [f_H_cheapest_l32]
    refine r_iload_n (pc := 32) (i := 3) d_H_cheapest_32 rfl rfl ?_
    refine r_aload_n (pc := 33) (i := 0) d_H_cheapest_33 rfl rfl ?_
    refine r_gd (fun cq1 rcq1 kcq1 => ?_)
    refine r_getf (pc := 34) (ci := 11) (k := 1) (C := "CricketHay") (T := F_11) (N := 13) (v := .ref cq1) (fun s => Std.k s (lc hn rfl) kq_0) rfl (Nat.le_of_ble_eq_true rfl) rfl w_423 (fun _ => vr rfl rcq1) d_H_cheapest_34 ?_
    refine r_getf (pc := 37) (ci := 7) (k := 11) (C := "CricketHay$Market") (T := F_7) (N := 16) (v := .int (hI h cq1 11)) (fun s => Std.k s (ltn (cm hn) (kl_M kcq1)) kcq1) rfl (Nat.le_of_ble_eq_true rfl) rfl w_155 (fun _ => rfl) d_H_cheapest_37 ?_
    refine r_icmp_ge (pc := 40) (tgt := 86) d_H_cheapest_40 (by rfl) ?_ ?_
    · refine r_iload_n (pc := 86) (i := 2) d_H_cheapest_86 rfl rfl ?_
      exact r_iret (pc := 87) rfl d_H_cheapest_87
    · refine r_aload_n (pc := 43) (i := 0) d_H_cheapest_43 rfl rfl ?_
      refine r_iload_n (pc := 44) (i := 1) d_H_cheapest_44 rfl rfl ?_
      refine r_iload_n (pc := 45) (i := 3) d_H_cheapest_45 rfl rfl ?_
      refine r_cVi (pc := 46) (T := F_11) (N := 13) (st := []) (ok_H_canBuyOne hn a1 x3 h) (fun s => Std.k s (lc hn rfl) kq_0) rfl w_734 w_1 w_731 w_733 ws_24 hy_H_canBuyOne ⟨Nat.le_of_ble_eq_true rfl, Nat.le_of_ble_eq_true rfl⟩ ⟨Nat.le_of_ble_eq_true rfl, Nat.le_of_ble_eq_true rfl⟩ rfl (Nat.le_of_ble_eq_true rfl) d_H_cheapest_46 (fun rq2 hq3 => ?_)
      refine r_if_eq (pc := 49) (tgt := 80) d_H_cheapest_49 (by rfl) ?_ ?_
      · refine r_ltE (fun xq4 exq4 => ?_)
        refine r_iinc (pc := 80) (v := xq4) (lv1 := [some (.ref 0), some (.int a1), some (.int x2), some (.int xq4)]) d_H_cheapest_80 rfl exq4.symm (Nat.le_of_ble_eq_true rfl) rfl ?_
        refine r_goto (pc := 83) (tgt := 32) d_H_cheapest_83 (by rfl) ?_
        exact r_wk (ih x2 xq4 hq3) ⟨rfl, ⟨rfl, ⟨rfl, ⟨rfl, trivial⟩⟩⟩⟩
      · refine r_iload_n (pc := 52) (i := 2) d_H_cheapest_52 rfl rfl ?_
        refine r_iconst (pc := 53) (v := -1) d_H_cheapest_53 (by rfl) ?_
        refine r_icmp_eq (pc := 54) (tgt := 78) d_H_cheapest_54 (by rfl) ?_ ?_
        · refine r_iload_n (pc := 78) (i := 3) d_H_cheapest_78 rfl rfl ?_
          refine r_istore_n (pc := 79) (i := 2) (lv1 := [some (.ref 0), some (.int a1), some (.int x3), some (.int x3)]) d_H_cheapest_79 rfl (Nat.le_of_ble_eq_true rfl) rfl ?_
          refine r_ltE (fun xq5 exq5 => ?_)
          refine r_iinc (pc := 80) (v := xq5) (lv1 := [some (.ref 0), some (.int a1), some (.int x3), some (.int xq5)]) d_H_cheapest_80 rfl exq5.symm (Nat.le_of_ble_eq_true rfl) rfl ?_
          refine r_goto (pc := 83) (tgt := 32) d_H_cheapest_83 (by rfl) ?_
          exact r_wk (ih x3 xq5 hq3) ⟨rfl, ⟨rfl, ⟨rfl, ⟨rfl, trivial⟩⟩⟩⟩
        · refine r_aload_n (pc := 57) (i := 0) d_H_cheapest_57 rfl rfl ?_
          refine r_getf (pc := 58) (ci := 11) (k := 5) (C := "CricketHay") (T := F_11) (N := 13) (v := .ref 51) (fun s => Std.k s (lc hn rfl) kq_0) rfl (Nat.le_of_ble_eq_true rfl) rfl w_427 (fun s => vr rfl (Std.r s (lc hn rfl) rq_0_5)) d_H_cheapest_58 ?_
          refine r_iload_n (pc := 61) (i := 1) d_H_cheapest_61 rfl rfl ?_
          refine r_iload_n (pc := 62) (i := 3) d_H_cheapest_62 rfl rfl ?_
          refine r_cVi (pc := 63) (T := F_2) (N := 2) (st := []) (ok_Choir_half hn a1 x3 hq3) (fun s => Std.k s (lc hn rfl) kq_51) rfl w_726 w_6 w_723 w_724 w_725 hy_Choir_half ⟨Nat.le_of_ble_eq_true rfl, Nat.le_of_ble_eq_true rfl⟩ ⟨Nat.le_of_ble_eq_true rfl, Nat.le_of_ble_eq_true rfl⟩ rfl (Nat.le_of_ble_eq_true rfl) d_H_cheapest_63 (fun rq6 hq7 => ?_)
          refine r_aload_n (pc := 66) (i := 0) d_H_cheapest_66 rfl rfl ?_
          refine r_getf (pc := 67) (ci := 11) (k := 5) (C := "CricketHay") (T := F_11) (N := 13) (v := .ref 51) (fun s => Std.k s (lc hn rfl) kq_0) rfl (Nat.le_of_ble_eq_true rfl) rfl w_427 (fun s => vr rfl (Std.r s (lc hn rfl) rq_0_5)) d_H_cheapest_67 ?_
          refine r_iload_n (pc := 70) (i := 1) d_H_cheapest_70 rfl rfl ?_
          refine r_iload_n (pc := 71) (i := 2) d_H_cheapest_71 rfl rfl ?_
          refine r_cVi (pc := 72) (T := F_2) (N := 2) (st := [.int rq6]) (ok_Choir_half hn a1 x2 hq7) (fun s => Std.k s (lc hn rfl) kq_51) rfl w_726 w_6 w_723 w_724 w_725 hy_Choir_half ⟨Nat.le_of_ble_eq_true rfl, Nat.le_of_ble_eq_true rfl⟩ ⟨Nat.le_of_ble_eq_true rfl, Nat.le_of_ble_eq_true rfl⟩ rfl (Nat.le_of_ble_eq_true rfl) d_H_cheapest_72 (fun rq8 hq9 => ?_)
          refine r_icmp_ge (pc := 75) (tgt := 80) d_H_cheapest_75 (by rfl) ?_ ?_
          · refine r_ltE (fun xq10 exq10 => ?_)
            refine r_iinc (pc := 80) (v := xq10) (lv1 := [some (.ref 0), some (.int a1), some (.int x2), some (.int xq10)]) d_H_cheapest_80 rfl exq10.symm (Nat.le_of_ble_eq_true rfl) rfl ?_
            refine r_goto (pc := 83) (tgt := 32) d_H_cheapest_83 (by rfl) ?_
            exact r_wk (ih x2 xq10 hq9) ⟨rfl, ⟨rfl, ⟨rfl, ⟨rfl, trivial⟩⟩⟩⟩
          · refine r_iload_n (pc := 78) (i := 3) d_H_cheapest_78 rfl rfl ?_
            refine r_istore_n (pc := 79) (i := 2) (lv1 := [some (.ref 0), some (.int a1), some (.int x3), some (.int x3)]) d_H_cheapest_79 rfl (Nat.le_of_ble_eq_true rfl) rfl ?_
            refine r_ltE (fun xq11 exq11 => ?_)
            refine r_iinc (pc := 80) (v := xq11) (lv1 := [some (.ref 0), some (.int a1), some (.int x3), some (.int xq11)]) d_H_cheapest_80 rfl exq11.symm (Nat.le_of_ble_eq_true rfl) rfl ?_
            refine r_goto (pc := 83) (tgt := 32) d_H_cheapest_83 (by rfl) ?_
            exact r_wk (ih x3 xq11 hq9) ⟨rfl, ⟨rfl, ⟨rfl, ⟨rfl, trivial⟩⟩⟩⟩
def f_H_cheapest  (a1 : Int32) (h : AH) : Option (Int32 × AH) :=
  gd h 0 1 7 fun cq1 =>
  bI (f_Market_has cq1 a1 h) fun rq2 hq3 =>
  if ¬ rq2 = 0 then
    gd hq3 0 1 7 fun cq4 =>
    bV (f_Choir_tune cq4 37 hq3) fun hq5 =>
    f_H_cheapest_l32 a1 FU (-1 : Int32) (0 : Int32) hq5
  else
    some ((-1 : Int32), hq3)
set_option maxHeartbeats 2000000 in
theorem ok_H_cheapest {G : AE} {n : Nat} (hn : NN ≤ n)  (a1 : Int32) (h : AH) : OK G n y_H_cheapest (6) φI [.ref 0, .int a1] h (f_H_cheapest a1 h) := by
  refine ok_of (y := y_H_cheapest) (lv0 := [some (.ref 0), some (.int a1), none, none]) (by decide +kernel) (Nat.le_of_ble_eq_true rfl) ⟨rfl, ⟨rfl, trivial⟩⟩ ?_
  rw [f_H_cheapest]
  refine r_aload_n (pc := 0) (i := 0) d_H_cheapest_0 rfl rfl ?_
  refine r_gd (fun cq1 rcq1 kcq1 => ?_)
  refine r_getf (pc := 1) (ci := 11) (k := 1) (C := "CricketHay") (T := F_11) (N := 13) (v := .ref cq1) (fun s => Std.k s (lc hn rfl) kq_0) rfl (Nat.le_of_ble_eq_true rfl) rfl w_423 (fun _ => vr rfl rcq1) d_H_cheapest_1 ?_
  refine r_iload_n (pc := 4) (i := 1) d_H_cheapest_4 rfl rfl ?_
  refine r_cVi (pc := 5) (T := F_7) (N := 16) (st := []) (ok_Market_has hn cq1 kcq1 a1 h) (fun s => Std.k s (ltn (cm hn) (kl_M kcq1)) kcq1) rfl w_664 w_3 w_661 w_662 w_663 hy_Market_has ⟨Nat.le_of_ble_eq_true rfl, Nat.le_of_ble_eq_true rfl⟩ ⟨Nat.le_of_ble_eq_true rfl, Nat.le_of_ble_eq_true rfl⟩ rfl (Nat.le_of_ble_eq_true rfl) d_H_cheapest_5 (fun rq2 hq3 => ?_)
  refine r_if_ne (pc := 8) (tgt := 13) d_H_cheapest_8 (by rfl) ?_ ?_
  · refine r_aload_n (pc := 13) (i := 0) d_H_cheapest_13 rfl rfl ?_
    refine r_getf (pc := 14) (ci := 11) (k := 5) (C := "CricketHay") (T := F_11) (N := 13) (v := .ref 51) (fun s => Std.k s (lc hn rfl) kq_0) rfl (Nat.le_of_ble_eq_true rfl) rfl w_427 (fun s => vr rfl (Std.r s (lc hn rfl) rq_0_5)) d_H_cheapest_14 ?_
    refine r_aload_n (pc := 17) (i := 0) d_H_cheapest_17 rfl rfl ?_
    refine r_gd (fun cq4 rcq4 kcq4 => ?_)
    refine r_getf (pc := 18) (ci := 11) (k := 1) (C := "CricketHay") (T := F_11) (N := 13) (v := .ref cq4) (fun s => Std.k s (lc hn rfl) kq_0) rfl (Nat.le_of_ble_eq_true rfl) rfl w_423 (fun _ => vr rfl rcq4) d_H_cheapest_18 ?_
    refine r_aload_n (pc := 21) (i := 0) d_H_cheapest_21 rfl rfl ?_
    refine r_getf (pc := 22) (ci := 11) (k := 3) (C := "CricketHay") (T := F_11) (N := 13) (v := .ref 37) (fun s => Std.k s (lc hn rfl) kq_0) rfl (Nat.le_of_ble_eq_true rfl) rfl w_425 (fun s => vr rfl (Std.r s (lc hn rfl) rq_0_3)) d_H_cheapest_22 ?_
    refine r_cVv (pc := 25) (T := F_2) (N := 2) (st := []) (ok_Choir_tune hn cq4 kcq4 37 kq_37 hq3) (fun s => Std.k s (lc hn rfl) kq_51) rfl w_668 w_6 w_665 w_666 w_667 hy_Choir_tune ⟨Nat.le_of_ble_eq_true rfl, Nat.le_of_ble_eq_true rfl⟩ ⟨Nat.le_of_ble_eq_true rfl, Nat.le_of_ble_eq_true rfl⟩ rfl (Nat.le_of_ble_eq_true rfl) d_H_cheapest_25 (fun hq5 => ?_)
    refine r_iconst (pc := 28) (v := -1) d_H_cheapest_28 (by rfl) ?_
    refine r_istore_n (pc := 29) (i := 2) (lv1 := [some (.ref 0), some (.int a1), some (.int (-1 : Int32)), none]) d_H_cheapest_29 rfl (Nat.le_of_ble_eq_true rfl) rfl ?_
    refine r_iconst (pc := 30) (v := 0) d_H_cheapest_30 (by rfl) ?_
    refine r_istore_n (pc := 31) (i := 3) (lv1 := [some (.ref 0), some (.int a1), some (.int (-1 : Int32)), some (.int (0 : Int32))]) d_H_cheapest_31 rfl (Nat.le_of_ble_eq_true rfl) rfl ?_
    exact r_wk (o_H_cheapest_l32 hn FU (-1 : Int32) (0 : Int32) hq5) ⟨rfl, ⟨rfl, ⟨rfl, ⟨rfl, trivial⟩⟩⟩⟩
  · refine r_iconst (pc := 11) (v := -1) d_H_cheapest_11 (by rfl) ?_
    exact r_iret (pc := 12) rfl d_H_cheapest_12

def f_Choir_together_l4    : Nat → Int32 → Int32 → AH → Option (Int32 × AH)
  | 0, _, _, _ => none
  | n + 1, x1, x2, h =>
    if (hI h 51 1) ≤ x2 then
      some (x1, h)
    else
      gx x2 6 <|
      lt (x1 + (hI h 52 (ix x2))) fun xq2 =>
      lt (x2 + (1 : Int32)) fun xq3 =>
      f_Choir_together_l4 n xq2 xq3 h
set_option maxHeartbeats 2000000 in
theorem o_Choir_together_l4 {G : AE} {n : Nat} (hn : NN ≤ n)     : ∀ (n0 : Nat) (x1 : Int32) (x2 : Int32) (h : AH), AJ G n y_Choir_together (1) φI 4 [some (.ref 51), some (.int x1), some (.int x2)] [] h (f_Choir_together_l4 n0 x1 x2 h) := by
  intro n0
  induction n0 with
  | zero => intros; exact r_none
  | succ n0 ih =>
    intro x1 x2 h
    rw [f_Choir_together_l4]
    refine r_iload_n (pc := 4) (i := 2) d_Choir_together_4 rfl rfl ?_
    refine r_aload_n (pc := 5) (i := 0) d_Choir_together_5 rfl rfl ?_
    refine r_getf (pc := 6) (ci := 2) (k := 1) (C := "CricketHay$Choir") (T := F_2) (N := 2) (v := .int (hI h 51 1)) (fun s => Std.k s (lc hn rfl) kq_51) rfl (Nat.le_of_ble_eq_true rfl) rfl w_268 (fun _ => rfl) d_Choir_together_6 ?_
    refine r_icmp_ge (pc := 9) (tgt := 27) d_Choir_together_9 (by rfl) ?_ ?_
    · refine r_iload_n (pc := 27) (i := 1) d_Choir_together_27 rfl rfl ?_
      exact r_iret (pc := 28) rfl d_Choir_together_28
    · refine r_iload_n (pc := 12) (i := 1) d_Choir_together_12 rfl rfl ?_
      refine r_aload_n (pc := 13) (i := 0) d_Choir_together_13 rfl rfl ?_
      refine r_getf (pc := 14) (ci := 2) (k := 0) (C := "CricketHay$Choir") (T := F_2) (N := 2) (v := .ref 52) (fun s => Std.k s (lc hn rfl) kq_51) rfl (Nat.le_of_ble_eq_true rfl) rfl w_266 (fun s => vr rfl (Std.r s (lc hn rfl) rq_51_0)) d_Choir_together_14 ?_
      refine r_iload_n (pc := 17) (i := 2) d_Choir_together_17 rfl rfl ?_
      refine r_gx (fun zq1 => ?_)
      refine r_iald (pc := 18) (n := 6) (i0 := (ix x2)) (fun s => Std.k s (lc hn rfl) kq_52) zq1 rfl d_Choir_together_18 ?_
      refine r_iadd (pc := 19) d_Choir_together_19 ?_
      refine r_ltI (fun xq2 => ?_)
      refine r_istore_n (pc := 20) (i := 1) (lv1 := [some (.ref 51), some (.int xq2), some (.int x2)]) d_Choir_together_20 rfl (Nat.le_of_ble_eq_true rfl) rfl ?_
      refine r_ltE (fun xq3 exq3 => ?_)
      refine r_iinc (pc := 21) (v := xq3) (lv1 := [some (.ref 51), some (.int xq2), some (.int xq3)]) d_Choir_together_21 rfl exq3.symm (Nat.le_of_ble_eq_true rfl) rfl ?_
      refine r_goto (pc := 24) (tgt := 4) d_Choir_together_24 (by rfl) ?_
      exact r_wk (ih xq2 xq3 h) ⟨rfl, ⟨rfl, ⟨rfl, trivial⟩⟩⟩
def f_Choir_together   (h : AH) : Option (Int32 × AH) :=
  f_Choir_together_l4 FU (0 : Int32) (0 : Int32) h
set_option maxHeartbeats 2000000 in
theorem ok_Choir_together {G : AE} {n : Nat} (hn : NN ≤ n)   (h : AH) : OK G n y_Choir_together (1) φI [.ref 51] h (f_Choir_together h) := by
  refine ok_of (y := y_Choir_together) (lv0 := [some (.ref 51), none, none]) (by decide +kernel) (Nat.le_of_ble_eq_true rfl) ⟨rfl, trivial⟩ ?_
  rw [f_Choir_together]
  refine r_iconst (pc := 0) (v := 0) d_Choir_together_0 (by rfl) ?_
  refine r_istore_n (pc := 1) (i := 1) (lv1 := [some (.ref 51), some (.int (0 : Int32)), none]) d_Choir_together_1 rfl (Nat.le_of_ble_eq_true rfl) rfl ?_
  refine r_iconst (pc := 2) (v := 0) d_Choir_together_2 (by rfl) ?_
  refine r_istore_n (pc := 3) (i := 2) (lv1 := [some (.ref 51), some (.int (0 : Int32)), some (.int (0 : Int32))]) d_Choir_together_3 rfl (Nat.le_of_ble_eq_true rfl) rfl ?_
  exact r_wk (o_Choir_together_l4 hn FU (0 : Int32) (0 : Int32) h) ⟨rfl, ⟨rfl, ⟨rfl, trivial⟩⟩⟩

def f_H_chorus   (h : AH) : Option (Int32 × AH) :=
  gd h 0 1 7 fun cq1 =>
  bV (f_Choir_tune cq1 37 h) fun hq2 =>
  bI (f_Choir_together hq2) fun rq3 hq4 =>
  some (rq3, hq4)
set_option maxHeartbeats 2000000 in
theorem ok_H_chorus {G : AE} {n : Nat} (hn : NN ≤ n)   (h : AH) : OK G n y_H_chorus (6) φI [.ref 0] h (f_H_chorus h) := by
  refine ok_of (y := y_H_chorus) (lv0 := [some (.ref 0)]) (by decide +kernel) (Nat.le_of_ble_eq_true rfl) ⟨rfl, trivial⟩ ?_
  rw [f_H_chorus]
  refine r_aload_n (pc := 0) (i := 0) d_H_chorus_0 rfl rfl ?_
  refine r_getf (pc := 1) (ci := 11) (k := 5) (C := "CricketHay") (T := F_11) (N := 13) (v := .ref 51) (fun s => Std.k s (lc hn rfl) kq_0) rfl (Nat.le_of_ble_eq_true rfl) rfl w_427 (fun s => vr rfl (Std.r s (lc hn rfl) rq_0_5)) d_H_chorus_1 ?_
  refine r_aload_n (pc := 4) (i := 0) d_H_chorus_4 rfl rfl ?_
  refine r_gd (fun cq1 rcq1 kcq1 => ?_)
  refine r_getf (pc := 5) (ci := 11) (k := 1) (C := "CricketHay") (T := F_11) (N := 13) (v := .ref cq1) (fun s => Std.k s (lc hn rfl) kq_0) rfl (Nat.le_of_ble_eq_true rfl) rfl w_423 (fun _ => vr rfl rcq1) d_H_chorus_5 ?_
  refine r_aload_n (pc := 8) (i := 0) d_H_chorus_8 rfl rfl ?_
  refine r_getf (pc := 9) (ci := 11) (k := 3) (C := "CricketHay") (T := F_11) (N := 13) (v := .ref 37) (fun s => Std.k s (lc hn rfl) kq_0) rfl (Nat.le_of_ble_eq_true rfl) rfl w_425 (fun s => vr rfl (Std.r s (lc hn rfl) rq_0_3)) d_H_chorus_9 ?_
  refine r_cVv (pc := 12) (T := F_2) (N := 2) (st := []) (ok_Choir_tune hn cq1 kcq1 37 kq_37 h) (fun s => Std.k s (lc hn rfl) kq_51) rfl w_668 w_6 w_665 w_666 w_667 hy_Choir_tune ⟨Nat.le_of_ble_eq_true rfl, Nat.le_of_ble_eq_true rfl⟩ ⟨Nat.le_of_ble_eq_true rfl, Nat.le_of_ble_eq_true rfl⟩ rfl (Nat.le_of_ble_eq_true rfl) d_H_chorus_12 (fun hq2 => ?_)
  refine r_aload_n (pc := 15) (i := 0) d_H_chorus_15 rfl rfl ?_
  refine r_getf (pc := 16) (ci := 11) (k := 5) (C := "CricketHay") (T := F_11) (N := 13) (v := .ref 51) (fun s => Std.k s (lc hn rfl) kq_0) rfl (Nat.le_of_ble_eq_true rfl) rfl w_427 (fun s => vr rfl (Std.r s (lc hn rfl) rq_0_5)) d_H_chorus_16 ?_
  refine r_cVi (pc := 19) (T := F_2) (N := 2) (st := []) (ok_Choir_together hn hq2) (fun s => Std.k s (lc hn rfl) kq_51) rfl w_742 w_6 w_739 w_740 w_741 hy_Choir_together ⟨Nat.le_of_ble_eq_true rfl, Nat.le_of_ble_eq_true rfl⟩ ⟨Nat.le_of_ble_eq_true rfl, Nat.le_of_ble_eq_true rfl⟩ rfl (Nat.le_of_ble_eq_true rfl) d_H_chorus_19 (fun rq3 hq4 => ?_)
  exact r_iret (pc := 22) rfl d_H_chorus_22

def f_H_lasts  (a1 : Int32) (h : AH) : Option (Int32 × AH) :=
  gd h 0 1 7 fun cq1 =>
  bI (f_Market_has cq1 a1 h) fun rq2 hq3 =>
  if rq2 = 0 then
    some ((-1 : Int32), hq3)
  else
    gd hq3 0 1 7 fun cq4 =>
    gx a1 6 <|
    if 0 < (hI hq3 (cq4 + 8) (ix a1)) then
      gx a1 6 <|
      gd hq3 0 1 7 fun cq7 =>
      gx a1 6 <|
      gz (hI hq3 (cq7 + 8) (ix a1)) <|
      some (((hI hq3 39 (ix a1)) / (hI hq3 (cq7 + 8) (ix a1))), hq3)
    else
      some ((-1 : Int32), hq3)
set_option maxHeartbeats 2000000 in
theorem ok_H_lasts {G : AE} {n : Nat} (hn : NN ≤ n)  (a1 : Int32) (h : AH) : OK G n y_H_lasts (2) φI [.ref 0, .int a1] h (f_H_lasts a1 h) := by
  refine ok_of (y := y_H_lasts) (lv0 := [some (.ref 0), some (.int a1)]) (by decide +kernel) (Nat.le_of_ble_eq_true rfl) ⟨rfl, ⟨rfl, trivial⟩⟩ ?_
  rw [f_H_lasts]
  refine r_aload_n (pc := 0) (i := 0) d_H_lasts_0 rfl rfl ?_
  refine r_gd (fun cq1 rcq1 kcq1 => ?_)
  refine r_getf (pc := 1) (ci := 11) (k := 1) (C := "CricketHay") (T := F_11) (N := 13) (v := .ref cq1) (fun s => Std.k s (lc hn rfl) kq_0) rfl (Nat.le_of_ble_eq_true rfl) rfl w_423 (fun _ => vr rfl rcq1) d_H_lasts_1 ?_
  refine r_iload_n (pc := 4) (i := 1) d_H_lasts_4 rfl rfl ?_
  refine r_cVi (pc := 5) (T := F_7) (N := 16) (st := []) (ok_Market_has hn cq1 kcq1 a1 h) (fun s => Std.k s (ltn (cm hn) (kl_M kcq1)) kcq1) rfl w_664 w_3 w_661 w_662 w_663 hy_Market_has ⟨Nat.le_of_ble_eq_true rfl, Nat.le_of_ble_eq_true rfl⟩ ⟨Nat.le_of_ble_eq_true rfl, Nat.le_of_ble_eq_true rfl⟩ rfl (Nat.le_of_ble_eq_true rfl) d_H_lasts_5 (fun rq2 hq3 => ?_)
  refine r_if_eq (pc := 8) (tgt := 23) d_H_lasts_8 (by rfl) ?_ ?_
  · refine r_iconst (pc := 23) (v := -1) d_H_lasts_23 (by rfl) ?_
    exact r_iret (pc := 24) rfl d_H_lasts_24
  · refine r_aload_n (pc := 11) (i := 0) d_H_lasts_11 rfl rfl ?_
    refine r_gd (fun cq4 rcq4 kcq4 => ?_)
    refine r_getf (pc := 12) (ci := 11) (k := 1) (C := "CricketHay") (T := F_11) (N := 13) (v := .ref cq4) (fun s => Std.k s (lc hn rfl) kq_0) rfl (Nat.le_of_ble_eq_true rfl) rfl w_423 (fun _ => vr rfl rcq4) d_H_lasts_12 ?_
    refine r_getf (pc := 15) (ci := 7) (k := 7) (C := "CricketHay$Market") (T := F_7) (N := 16) (v := .ref (cq4 + 8)) (fun s => Std.k s (ltn (cm hn) (kl_M kcq4)) kcq4) rfl (Nat.le_of_ble_eq_true rfl) rfl w_140 (fun s => vr rfl (Std.r s (ltn (cm hn) (kl_M kcq4)) (rr_M_7 kcq4))) d_H_lasts_15 ?_
    refine r_iload_n (pc := 18) (i := 1) d_H_lasts_18 rfl rfl ?_
    refine r_gx (fun zq5 => ?_)
    refine r_iald (pc := 19) (n := 6) (i0 := (ix a1)) (fun s => Std.k s (ltn (cm hn) (kj_M_7 kcq4)) (kk_M_7 kcq4)) zq5 rfl d_H_lasts_19 ?_
    refine r_if_gt (pc := 20) (tgt := 25) d_H_lasts_20 (by rfl) ?_ ?_
    · refine r_aload_n (pc := 25) (i := 0) d_H_lasts_25 rfl rfl ?_
      refine r_getf (pc := 26) (ci := 11) (k := 3) (C := "CricketHay") (T := F_11) (N := 13) (v := .ref 37) (fun s => Std.k s (lc hn rfl) kq_0) rfl (Nat.le_of_ble_eq_true rfl) rfl w_425 (fun s => vr rfl (Std.r s (lc hn rfl) rq_0_3)) d_H_lasts_26 ?_
      refine r_getf (pc := 29) (ci := 10) (k := 1) (C := "CricketHay$Yard") (T := F_10) (N := 10) (v := .ref 39) (fun s => Std.k s (lc hn rfl) kq_37) rfl (Nat.le_of_ble_eq_true rfl) rfl w_215 (fun s => vr rfl (Std.r s (lc hn rfl) rq_37_1)) d_H_lasts_29 ?_
      refine r_iload_n (pc := 32) (i := 1) d_H_lasts_32 rfl rfl ?_
      refine r_gx (fun zq6 => ?_)
      refine r_iald (pc := 33) (n := 6) (i0 := (ix a1)) (fun s => Std.k s (lc hn rfl) kq_39) zq6 rfl d_H_lasts_33 ?_
      refine r_aload_n (pc := 34) (i := 0) d_H_lasts_34 rfl rfl ?_
      refine r_gd (fun cq7 rcq7 kcq7 => ?_)
      refine r_getf (pc := 35) (ci := 11) (k := 1) (C := "CricketHay") (T := F_11) (N := 13) (v := .ref cq7) (fun s => Std.k s (lc hn rfl) kq_0) rfl (Nat.le_of_ble_eq_true rfl) rfl w_423 (fun _ => vr rfl rcq7) d_H_lasts_35 ?_
      refine r_getf (pc := 38) (ci := 7) (k := 7) (C := "CricketHay$Market") (T := F_7) (N := 16) (v := .ref (cq7 + 8)) (fun s => Std.k s (ltn (cm hn) (kl_M kcq7)) kcq7) rfl (Nat.le_of_ble_eq_true rfl) rfl w_140 (fun s => vr rfl (Std.r s (ltn (cm hn) (kl_M kcq7)) (rr_M_7 kcq7))) d_H_lasts_38 ?_
      refine r_iload_n (pc := 41) (i := 1) d_H_lasts_41 rfl rfl ?_
      refine r_gx (fun zq8 => ?_)
      refine r_iald (pc := 42) (n := 6) (i0 := (ix a1)) (fun s => Std.k s (ltn (cm hn) (kj_M_7 kcq7)) (kk_M_7 kcq7)) zq8 rfl d_H_lasts_42 ?_
      refine r_gz (fun zq9 => ?_)
      refine r_idivC (pc := 43) zq9 d_H_lasts_43 ?_
      exact r_iret (pc := 44) rfl d_H_lasts_44
    · refine r_iconst (pc := 23) (v := -1) d_H_lasts_23 (by rfl) ?_
      exact r_iret (pc := 24) rfl d_H_lasts_24

def f_Acts_dropOldest_l9    : Nat → Nat → Int32 → AH → Option AH
  | 0, _, _, _ => none
  | n + 1, x1, x2, h =>
    if (nI 41) ≤ x2 then
      gx ((nI 41) - (1 : Int32)) 41 <|
      lt (sR h 54 (ix ((nI 41) - (1 : Int32))) (some x1)) fun hq2 =>
      lt (sI hq2 53 1 ((hI hq2 53 1) - (1 : Int32))) fun hq3 =>
      some hq3
    else
      gx x2 41 <|
      gd h 54 (ix x2) 10 fun cq5 =>
      gx (x2 - (1 : Int32)) 41 <|
      lt (sR h 54 (ix (x2 - (1 : Int32))) (some cq5)) fun hq7 =>
      lt (x2 + (1 : Int32)) fun xq8 =>
      f_Acts_dropOldest_l9 n x1 xq8 hq7
set_option maxHeartbeats 2000000 in
theorem o_Acts_dropOldest_l9 {G : AE} {n : Nat} (hn : NN ≤ n)     : ∀ (n0 : Nat) (x1 : Nat) (hx1 : kdF x1 = .inr 10) (x2 : Int32) (h : AH), AJ G n y_Acts_dropOldest (1) φV 9 [some (.ref 53), some (.ref x1), some (.int x2)] [] h (f_Acts_dropOldest_l9 n0 x1 x2 h) := by
  intro n0
  induction n0 with
  | zero => intros; exact r_none
  | succ n0 ih =>
    intro x1 hx1 x2 h
    rw [f_Acts_dropOldest_l9]
    refine r_iload_n (pc := 9) (i := 2) d_Acts_dropOldest_9 rfl rfl ?_
    refine r_aload_n (pc := 10) (i := 0) d_Acts_dropOldest_10 rfl rfl ?_
    refine r_getf (pc := 11) (ci := 0) (k := 0) (C := "CricketHay$Acts") (T := F_0) (N := 3) (v := .ref 54) (fun s => Std.k s (lc hn rfl) kq_53) rfl (Nat.le_of_ble_eq_true rfl) rfl w_283 (fun s => vr rfl (Std.r s (lc hn rfl) rq_53_0)) d_Acts_dropOldest_11 ?_
    refine r_alen (pc := 14) (n := 41) (fun s => Std.k s (lc hn rfl) kq_54) d_Acts_dropOldest_14 ?_
    refine r_icmp_ge (pc := 15) (tgt := 38) d_Acts_dropOldest_15 (by rfl) ?_ ?_
    · refine r_aload_n (pc := 38) (i := 0) d_Acts_dropOldest_38 rfl rfl ?_
      refine r_getf (pc := 39) (ci := 0) (k := 0) (C := "CricketHay$Acts") (T := F_0) (N := 3) (v := .ref 54) (fun s => Std.k s (lc hn rfl) kq_53) rfl (Nat.le_of_ble_eq_true rfl) rfl w_283 (fun s => vr rfl (Std.r s (lc hn rfl) rq_53_0)) d_Acts_dropOldest_39 ?_
      refine r_aload_n (pc := 42) (i := 0) d_Acts_dropOldest_42 rfl rfl ?_
      refine r_getf (pc := 43) (ci := 0) (k := 0) (C := "CricketHay$Acts") (T := F_0) (N := 3) (v := .ref 54) (fun s => Std.k s (lc hn rfl) kq_53) rfl (Nat.le_of_ble_eq_true rfl) rfl w_283 (fun s => vr rfl (Std.r s (lc hn rfl) rq_53_0)) d_Acts_dropOldest_43 ?_
      refine r_alen (pc := 46) (n := 41) (fun s => Std.k s (lc hn rfl) kq_54) d_Acts_dropOldest_46 ?_
      refine r_iconst (pc := 47) (v := 1) d_Acts_dropOldest_47 (by rfl) ?_
      refine r_isub (pc := 48) d_Acts_dropOldest_48 ?_
      refine r_aload_n (pc := 49) (i := 1) d_Acts_dropOldest_49 rfl rfl ?_
      refine r_gx (fun zq1 => ?_)
      refine r_aast (pc := 50) (n := 41) (i0 := (ix ((nI 41) - (1 : Int32)))) (fun s => Std.k s (lc hn rfl) kq_54) zq1 rfl (fun s => Std.k s (ltn (cm hn) (kl_Y hx1)) hx1) (fun s => Std.sR s _ _ _ (rf_arr 54 _ (by decide +kernel))) d_Acts_dropOldest_50 ?_
      refine r_ltH (fun hq2 => ?_)
      refine r_aload_n (pc := 51) (i := 0) d_Acts_dropOldest_51 rfl rfl ?_
      refine r_dup (pc := 52) d_Acts_dropOldest_52 rfl ?_
      refine r_getf (pc := 53) (ci := 0) (k := 1) (C := "CricketHay$Acts") (T := F_0) (N := 3) (v := .int (hI hq2 53 1)) (fun s => Std.k s (lc hn rfl) kq_53) rfl (Nat.le_of_ble_eq_true rfl) rfl w_284 (fun _ => rfl) d_Acts_dropOldest_53 ?_
      refine r_iconst (pc := 56) (v := 1) d_Acts_dropOldest_56 (by rfl) ?_
      refine r_isub (pc := 57) d_Acts_dropOldest_57 ?_
      refine r_putI (pc := 58) (ci := 0) (k := 1) (C := "CricketHay$Acts") (T := F_0) (N := 3) (fun s => Std.k s (lc hn rfl) kq_53) rfl (Nat.le_of_ble_eq_true rfl) rfl rfl w_284 (fun _ _ => rfl) (fun _ => rfl) (fun _ => rfl) (fun s => Std.sI s _ _ _) d_Acts_dropOldest_58 ?_
      refine r_ltH (fun hq3 => ?_)
      exact r_vret (pc := 61) rfl d_Acts_dropOldest_61
    · refine r_aload_n (pc := 18) (i := 0) d_Acts_dropOldest_18 rfl rfl ?_
      refine r_getf (pc := 19) (ci := 0) (k := 0) (C := "CricketHay$Acts") (T := F_0) (N := 3) (v := .ref 54) (fun s => Std.k s (lc hn rfl) kq_53) rfl (Nat.le_of_ble_eq_true rfl) rfl w_283 (fun s => vr rfl (Std.r s (lc hn rfl) rq_53_0)) d_Acts_dropOldest_19 ?_
      refine r_iload_n (pc := 22) (i := 2) d_Acts_dropOldest_22 rfl rfl ?_
      refine r_iconst (pc := 23) (v := 1) d_Acts_dropOldest_23 (by rfl) ?_
      refine r_isub (pc := 24) d_Acts_dropOldest_24 ?_
      refine r_aload_n (pc := 25) (i := 0) d_Acts_dropOldest_25 rfl rfl ?_
      refine r_getf (pc := 26) (ci := 0) (k := 0) (C := "CricketHay$Acts") (T := F_0) (N := 3) (v := .ref 54) (fun s => Std.k s (lc hn rfl) kq_53) rfl (Nat.le_of_ble_eq_true rfl) rfl w_283 (fun s => vr rfl (Std.r s (lc hn rfl) rq_53_0)) d_Acts_dropOldest_26 ?_
      refine r_iload_n (pc := 29) (i := 2) d_Acts_dropOldest_29 rfl rfl ?_
      refine r_gx (fun zq4 => ?_)
      refine r_gd (fun cq5 rcq5 kcq5 => ?_)
      refine r_aald (pc := 30) (n := 41) (i0 := (ix x2)) (fun s => Std.k s (lc hn rfl) kq_54) zq4 rfl rcq5 d_Acts_dropOldest_30 ?_
      refine r_gx (fun zq6 => ?_)
      refine r_aast (pc := 31) (n := 41) (i0 := (ix (x2 - (1 : Int32)))) (fun s => Std.k s (lc hn rfl) kq_54) zq6 rfl (fun s => Std.k s (ltn (cm hn) (kl_Y kcq5)) kcq5) (fun s => Std.sR s _ _ _ (rf_arr 54 _ (by decide +kernel))) d_Acts_dropOldest_31 ?_
      refine r_ltH (fun hq7 => ?_)
      refine r_ltE (fun xq8 exq8 => ?_)
      refine r_iinc (pc := 32) (v := xq8) (lv1 := [some (.ref 53), some (.ref x1), some (.int xq8)]) d_Acts_dropOldest_32 rfl exq8.symm (Nat.le_of_ble_eq_true rfl) rfl ?_
      refine r_goto (pc := 35) (tgt := 9) d_Acts_dropOldest_35 (by rfl) ?_
      exact r_wk (ih x1 hx1 xq8 hq7) ⟨rfl, ⟨rfl, ⟨rfl, trivial⟩⟩⟩
def f_Acts_dropOldest   (h : AH) : Option AH :=
  gd h 54 0 10 fun cq1 =>
  f_Acts_dropOldest_l9 FU cq1 (1 : Int32) h
set_option maxHeartbeats 2000000 in
theorem ok_Acts_dropOldest {G : AE} {n : Nat} (hn : NN ≤ n)   (h : AH) : OK G n y_Acts_dropOldest (1) φV [.ref 53] h (f_Acts_dropOldest h) := by
  refine ok_of (y := y_Acts_dropOldest) (lv0 := [some (.ref 53), none, none]) (by decide +kernel) (Nat.le_of_ble_eq_true rfl) ⟨rfl, trivial⟩ ?_
  rw [f_Acts_dropOldest]
  refine r_aload_n (pc := 0) (i := 0) d_Acts_dropOldest_0 rfl rfl ?_
  refine r_getf (pc := 1) (ci := 0) (k := 0) (C := "CricketHay$Acts") (T := F_0) (N := 3) (v := .ref 54) (fun s => Std.k s (lc hn rfl) kq_53) rfl (Nat.le_of_ble_eq_true rfl) rfl w_283 (fun s => vr rfl (Std.r s (lc hn rfl) rq_53_0)) d_Acts_dropOldest_1 ?_
  refine r_iconst (pc := 4) (v := 0) d_Acts_dropOldest_4 (by rfl) ?_
  refine r_gd (fun cq1 rcq1 kcq1 => ?_)
  refine r_aald (pc := 5) (n := 41) (i0 := 0) (fun s => Std.k s (lc hn rfl) kq_54) (vin (k := 0) rfl rfl) rfl rcq1 d_Acts_dropOldest_5 ?_
  refine r_astore_n (pc := 6) (i := 1) (lv1 := [some (.ref 53), some (.ref cq1), none]) d_Acts_dropOldest_6 rfl (Nat.le_of_ble_eq_true rfl) rfl ?_
  refine r_iconst (pc := 7) (v := 1) d_Acts_dropOldest_7 (by rfl) ?_
  refine r_istore_n (pc := 8) (i := 2) (lv1 := [some (.ref 53), some (.ref cq1), some (.int (1 : Int32))]) d_Acts_dropOldest_8 rfl (Nat.le_of_ble_eq_true rfl) rfl ?_
  exact r_wk (o_Acts_dropOldest_l9 hn FU cq1 kcq1 (1 : Int32) h) ⟨rfl, ⟨rfl, ⟨rfl, trivial⟩⟩⟩

def f_Yard_copy  (t : Nat) (a1 : Nat) (h : AH) : Option AH :=
  lt (sF h (t + 1) (va_cpy (hI h (a1 + 1)) (hI h (t + 1)) 0 0 6)) fun hq1 =>
  lt (sF hq1 (t + 2) (va_cpy (hI hq1 (a1 + 2)) (hI hq1 (t + 2)) 0 0 6)) fun hq2 =>
  lt (sF hq2 (t + 3) (va_cpy (hI hq2 (a1 + 3)) (hI hq2 (t + 3)) 0 0 6)) fun hq3 =>
  lt (sF hq3 (t + 4) (va_cpy (hI hq3 (a1 + 4)) (hI hq3 (t + 4)) 0 0 6)) fun hq4 =>
  lt (sF hq4 (t + 5) (va_cpy (hI hq4 (a1 + 5)) (hI hq4 (t + 5)) 0 0 6)) fun hq5 =>
  lt (sF hq5 (t + 6) (va_cpy (hI hq5 (a1 + 6)) (hI hq5 (t + 6)) 0 0 6)) fun hq6 =>
  lt (sI hq6 t 6 (hI hq6 a1 6)) fun hq7 =>
  lt (sI hq7 t 7 (hI hq7 a1 7)) fun hq8 =>
  lt (sI hq8 t 8 (hI hq8 a1 8)) fun hq9 =>
  lt (sI hq9 t 9 (hI hq9 a1 9)) fun hq10 =>
  some hq10
set_option maxHeartbeats 2000000 in
theorem ok_Yard_copy {G : AE} {n : Nat} (hn : NN ≤ n)  (t : Nat) (ht : kdF t = .inr 10) (a1 : Nat) (ha1 : kdF a1 = .inr 10) (h : AH) : OK G n y_Yard_copy (2) φV [.ref t, .ref a1] h (f_Yard_copy t a1 h) := by
  refine ok_of (y := y_Yard_copy) (lv0 := [some (.ref t), some (.ref a1)]) (by decide +kernel) (Nat.le_of_ble_eq_true rfl) ⟨rfl, ⟨rfl, trivial⟩⟩ ?_
  rw [f_Yard_copy]
  refine r_aload_n (pc := 0) (i := 1) d_Yard_copy_0 rfl rfl ?_
  refine r_getf (pc := 1) (ci := 10) (k := 0) (C := "CricketHay$Yard") (T := F_10) (N := 10) (v := .ref (a1 + 1)) (fun s => Std.k s (ltn (cm hn) (kl_Y ha1)) ha1) rfl (Nat.le_of_ble_eq_true rfl) rfl w_210 (fun s => vr rfl (Std.r s (ltn (cm hn) (kl_Y ha1)) (rr_Y_0 ha1))) d_Yard_copy_1 ?_
  refine r_iconst (pc := 4) (v := 0) d_Yard_copy_4 (by rfl) ?_
  refine r_aload_n (pc := 5) (i := 0) d_Yard_copy_5 rfl rfl ?_
  refine r_getf (pc := 6) (ci := 10) (k := 0) (C := "CricketHay$Yard") (T := F_10) (N := 10) (v := .ref (t + 1)) (fun s => Std.k s (ltn (cm hn) (kl_Y ht)) ht) rfl (Nat.le_of_ble_eq_true rfl) rfl w_210 (fun s => vr rfl (Std.r s (ltn (cm hn) (kl_Y ht)) (rr_Y_0 ht))) d_Yard_copy_6 ?_
  refine r_iconst (pc := 9) (v := 0) d_Yard_copy_9 (by rfl) ?_
  refine r_bipush (pc := 10) (v := 6) d_Yard_copy_10 (by rfl) ?_
  refine r_acopy (pc := 12) (k := 6) (fun s => Std.k s (ltn (cm hn) (kj_Y_0 ha1)) (kk_Y_0 ha1)) (fun s => Std.k s (ltn (cm hn) (kj_Y_0 ht)) (kk_Y_0 ht)) rfl (Nat.le_of_ble_eq_true rfl) (Nat.le_of_ble_eq_true rfl) w_763 w_765 w_764 w_19 (Nat.le_of_ble_eq_true rfl) (by decide) (fun s => Std.sF s _ _) d_Yard_copy_12 ?_
  refine r_ltH (fun hq1 => ?_)
  refine r_aload_n (pc := 15) (i := 1) d_Yard_copy_15 rfl rfl ?_
  refine r_getf (pc := 16) (ci := 10) (k := 1) (C := "CricketHay$Yard") (T := F_10) (N := 10) (v := .ref (a1 + 2)) (fun s => Std.k s (ltn (cm hn) (kl_Y ha1)) ha1) rfl (Nat.le_of_ble_eq_true rfl) rfl w_213 (fun s => vr rfl (Std.r s (ltn (cm hn) (kl_Y ha1)) (rr_Y_1 ha1))) d_Yard_copy_16 ?_
  refine r_iconst (pc := 19) (v := 0) d_Yard_copy_19 (by rfl) ?_
  refine r_aload_n (pc := 20) (i := 0) d_Yard_copy_20 rfl rfl ?_
  refine r_getf (pc := 21) (ci := 10) (k := 1) (C := "CricketHay$Yard") (T := F_10) (N := 10) (v := .ref (t + 2)) (fun s => Std.k s (ltn (cm hn) (kl_Y ht)) ht) rfl (Nat.le_of_ble_eq_true rfl) rfl w_213 (fun s => vr rfl (Std.r s (ltn (cm hn) (kl_Y ht)) (rr_Y_1 ht))) d_Yard_copy_21 ?_
  refine r_iconst (pc := 24) (v := 0) d_Yard_copy_24 (by rfl) ?_
  refine r_bipush (pc := 25) (v := 6) d_Yard_copy_25 (by rfl) ?_
  refine r_acopy (pc := 27) (k := 6) (fun s => Std.k s (ltn (cm hn) (kj_Y_1 ha1)) (kk_Y_1 ha1)) (fun s => Std.k s (ltn (cm hn) (kj_Y_1 ht)) (kk_Y_1 ht)) rfl (Nat.le_of_ble_eq_true rfl) (Nat.le_of_ble_eq_true rfl) w_763 w_765 w_764 w_19 (Nat.le_of_ble_eq_true rfl) (by decide) (fun s => Std.sF s _ _) d_Yard_copy_27 ?_
  refine r_ltH (fun hq2 => ?_)
  refine r_aload_n (pc := 30) (i := 1) d_Yard_copy_30 rfl rfl ?_
  refine r_getf (pc := 31) (ci := 10) (k := 2) (C := "CricketHay$Yard") (T := F_10) (N := 10) (v := .ref (a1 + 3)) (fun s => Std.k s (ltn (cm hn) (kl_Y ha1)) ha1) rfl (Nat.le_of_ble_eq_true rfl) rfl w_216 (fun s => vr rfl (Std.r s (ltn (cm hn) (kl_Y ha1)) (rr_Y_2 ha1))) d_Yard_copy_31 ?_
  refine r_iconst (pc := 34) (v := 0) d_Yard_copy_34 (by rfl) ?_
  refine r_aload_n (pc := 35) (i := 0) d_Yard_copy_35 rfl rfl ?_
  refine r_getf (pc := 36) (ci := 10) (k := 2) (C := "CricketHay$Yard") (T := F_10) (N := 10) (v := .ref (t + 3)) (fun s => Std.k s (ltn (cm hn) (kl_Y ht)) ht) rfl (Nat.le_of_ble_eq_true rfl) rfl w_216 (fun s => vr rfl (Std.r s (ltn (cm hn) (kl_Y ht)) (rr_Y_2 ht))) d_Yard_copy_36 ?_
  refine r_iconst (pc := 39) (v := 0) d_Yard_copy_39 (by rfl) ?_
  refine r_bipush (pc := 40) (v := 6) d_Yard_copy_40 (by rfl) ?_
  refine r_acopy (pc := 42) (k := 6) (fun s => Std.k s (ltn (cm hn) (kj_Y_2 ha1)) (kk_Y_2 ha1)) (fun s => Std.k s (ltn (cm hn) (kj_Y_2 ht)) (kk_Y_2 ht)) rfl (Nat.le_of_ble_eq_true rfl) (Nat.le_of_ble_eq_true rfl) w_763 w_765 w_764 w_19 (Nat.le_of_ble_eq_true rfl) (by decide) (fun s => Std.sF s _ _) d_Yard_copy_42 ?_
  refine r_ltH (fun hq3 => ?_)
  refine r_aload_n (pc := 45) (i := 1) d_Yard_copy_45 rfl rfl ?_
  refine r_getf (pc := 46) (ci := 10) (k := 3) (C := "CricketHay$Yard") (T := F_10) (N := 10) (v := .ref (a1 + 4)) (fun s => Std.k s (ltn (cm hn) (kl_Y ha1)) ha1) rfl (Nat.le_of_ble_eq_true rfl) rfl w_218 (fun s => vr rfl (Std.r s (ltn (cm hn) (kl_Y ha1)) (rr_Y_3 ha1))) d_Yard_copy_46 ?_
  refine r_iconst (pc := 49) (v := 0) d_Yard_copy_49 (by rfl) ?_
  refine r_aload_n (pc := 50) (i := 0) d_Yard_copy_50 rfl rfl ?_
  refine r_getf (pc := 51) (ci := 10) (k := 3) (C := "CricketHay$Yard") (T := F_10) (N := 10) (v := .ref (t + 4)) (fun s => Std.k s (ltn (cm hn) (kl_Y ht)) ht) rfl (Nat.le_of_ble_eq_true rfl) rfl w_218 (fun s => vr rfl (Std.r s (ltn (cm hn) (kl_Y ht)) (rr_Y_3 ht))) d_Yard_copy_51 ?_
  refine r_iconst (pc := 54) (v := 0) d_Yard_copy_54 (by rfl) ?_
  refine r_bipush (pc := 55) (v := 6) d_Yard_copy_55 (by rfl) ?_
  refine r_acopy (pc := 57) (k := 6) (fun s => Std.k s (ltn (cm hn) (kj_Y_3 ha1)) (kk_Y_3 ha1)) (fun s => Std.k s (ltn (cm hn) (kj_Y_3 ht)) (kk_Y_3 ht)) rfl (Nat.le_of_ble_eq_true rfl) (Nat.le_of_ble_eq_true rfl) w_763 w_765 w_764 w_19 (Nat.le_of_ble_eq_true rfl) (by decide) (fun s => Std.sF s _ _) d_Yard_copy_57 ?_
  refine r_ltH (fun hq4 => ?_)
  refine r_aload_n (pc := 60) (i := 1) d_Yard_copy_60 rfl rfl ?_
  refine r_getf (pc := 61) (ci := 10) (k := 4) (C := "CricketHay$Yard") (T := F_10) (N := 10) (v := .ref (a1 + 5)) (fun s => Std.k s (ltn (cm hn) (kl_Y ha1)) ha1) rfl (Nat.le_of_ble_eq_true rfl) rfl w_221 (fun s => vr rfl (Std.r s (ltn (cm hn) (kl_Y ha1)) (rr_Y_4 ha1))) d_Yard_copy_61 ?_
  refine r_iconst (pc := 64) (v := 0) d_Yard_copy_64 (by rfl) ?_
  refine r_aload_n (pc := 65) (i := 0) d_Yard_copy_65 rfl rfl ?_
  refine r_getf (pc := 66) (ci := 10) (k := 4) (C := "CricketHay$Yard") (T := F_10) (N := 10) (v := .ref (t + 5)) (fun s => Std.k s (ltn (cm hn) (kl_Y ht)) ht) rfl (Nat.le_of_ble_eq_true rfl) rfl w_221 (fun s => vr rfl (Std.r s (ltn (cm hn) (kl_Y ht)) (rr_Y_4 ht))) d_Yard_copy_66 ?_
  refine r_iconst (pc := 69) (v := 0) d_Yard_copy_69 (by rfl) ?_
  refine r_bipush (pc := 70) (v := 6) d_Yard_copy_70 (by rfl) ?_
  refine r_acopy (pc := 72) (k := 6) (fun s => Std.k s (ltn (cm hn) (kj_Y_4 ha1)) (kk_Y_4 ha1)) (fun s => Std.k s (ltn (cm hn) (kj_Y_4 ht)) (kk_Y_4 ht)) rfl (Nat.le_of_ble_eq_true rfl) (Nat.le_of_ble_eq_true rfl) w_763 w_765 w_764 w_19 (Nat.le_of_ble_eq_true rfl) (by decide) (fun s => Std.sF s _ _) d_Yard_copy_72 ?_
  refine r_ltH (fun hq5 => ?_)
  refine r_aload_n (pc := 75) (i := 1) d_Yard_copy_75 rfl rfl ?_
  refine r_getf (pc := 76) (ci := 10) (k := 5) (C := "CricketHay$Yard") (T := F_10) (N := 10) (v := .ref (a1 + 6)) (fun s => Std.k s (ltn (cm hn) (kl_Y ha1)) ha1) rfl (Nat.le_of_ble_eq_true rfl) rfl w_224 (fun s => vr rfl (Std.r s (ltn (cm hn) (kl_Y ha1)) (rr_Y_5 ha1))) d_Yard_copy_76 ?_
  refine r_iconst (pc := 79) (v := 0) d_Yard_copy_79 (by rfl) ?_
  refine r_aload_n (pc := 80) (i := 0) d_Yard_copy_80 rfl rfl ?_
  refine r_getf (pc := 81) (ci := 10) (k := 5) (C := "CricketHay$Yard") (T := F_10) (N := 10) (v := .ref (t + 6)) (fun s => Std.k s (ltn (cm hn) (kl_Y ht)) ht) rfl (Nat.le_of_ble_eq_true rfl) rfl w_224 (fun s => vr rfl (Std.r s (ltn (cm hn) (kl_Y ht)) (rr_Y_5 ht))) d_Yard_copy_81 ?_
  refine r_iconst (pc := 84) (v := 0) d_Yard_copy_84 (by rfl) ?_
  refine r_bipush (pc := 85) (v := 6) d_Yard_copy_85 (by rfl) ?_
  refine r_acopy (pc := 87) (k := 6) (fun s => Std.k s (ltn (cm hn) (kj_Y_5 ha1)) (kk_Y_5 ha1)) (fun s => Std.k s (ltn (cm hn) (kj_Y_5 ht)) (kk_Y_5 ht)) rfl (Nat.le_of_ble_eq_true rfl) (Nat.le_of_ble_eq_true rfl) w_763 w_765 w_764 w_19 (Nat.le_of_ble_eq_true rfl) (by decide) (fun s => Std.sF s _ _) d_Yard_copy_87 ?_
  refine r_ltH (fun hq6 => ?_)
  refine r_aload_n (pc := 90) (i := 0) d_Yard_copy_90 rfl rfl ?_
  refine r_aload_n (pc := 91) (i := 1) d_Yard_copy_91 rfl rfl ?_
  refine r_getf (pc := 92) (ci := 10) (k := 6) (C := "CricketHay$Yard") (T := F_10) (N := 10) (v := .int (hI hq6 a1 6)) (fun s => Std.k s (ltn (cm hn) (kl_Y ha1)) ha1) rfl (Nat.le_of_ble_eq_true rfl) rfl w_227 (fun _ => rfl) d_Yard_copy_92 ?_
  refine r_putI (pc := 95) (ci := 10) (k := 6) (C := "CricketHay$Yard") (T := F_10) (N := 10) (fun s => Std.k s (ltn (cm hn) (kl_Y ht)) ht) rfl (Nat.le_of_ble_eq_true rfl) rfl rfl w_227 (fun _ _ => rfl) (fun _ => rfl) (fun _ => rfl) (fun s => Std.sI s _ _ _) d_Yard_copy_95 ?_
  refine r_ltH (fun hq7 => ?_)
  refine r_aload_n (pc := 98) (i := 0) d_Yard_copy_98 rfl rfl ?_
  refine r_aload_n (pc := 99) (i := 1) d_Yard_copy_99 rfl rfl ?_
  refine r_getf (pc := 100) (ci := 10) (k := 7) (C := "CricketHay$Yard") (T := F_10) (N := 10) (v := .int (hI hq7 a1 7)) (fun s => Std.k s (ltn (cm hn) (kl_Y ha1)) ha1) rfl (Nat.le_of_ble_eq_true rfl) rfl w_229 (fun _ => rfl) d_Yard_copy_100 ?_
  refine r_putI (pc := 103) (ci := 10) (k := 7) (C := "CricketHay$Yard") (T := F_10) (N := 10) (fun s => Std.k s (ltn (cm hn) (kl_Y ht)) ht) rfl (Nat.le_of_ble_eq_true rfl) rfl rfl w_229 (fun _ _ => rfl) (fun _ => rfl) (fun _ => rfl) (fun s => Std.sI s _ _ _) d_Yard_copy_103 ?_
  refine r_ltH (fun hq8 => ?_)
  refine r_aload_n (pc := 106) (i := 0) d_Yard_copy_106 rfl rfl ?_
  refine r_aload_n (pc := 107) (i := 1) d_Yard_copy_107 rfl rfl ?_
  refine r_getf (pc := 108) (ci := 10) (k := 8) (C := "CricketHay$Yard") (T := F_10) (N := 10) (v := .int (hI hq8 a1 8)) (fun s => Std.k s (ltn (cm hn) (kl_Y ha1)) ha1) rfl (Nat.le_of_ble_eq_true rfl) rfl w_233 (fun _ => rfl) d_Yard_copy_108 ?_
  refine r_putI (pc := 111) (ci := 10) (k := 8) (C := "CricketHay$Yard") (T := F_10) (N := 10) (fun s => Std.k s (ltn (cm hn) (kl_Y ht)) ht) rfl (Nat.le_of_ble_eq_true rfl) rfl rfl w_233 (fun _ _ => rfl) (fun _ => rfl) (fun _ => rfl) (fun s => Std.sI s _ _ _) d_Yard_copy_111 ?_
  refine r_ltH (fun hq9 => ?_)
  refine r_aload_n (pc := 114) (i := 0) d_Yard_copy_114 rfl rfl ?_
  refine r_aload_n (pc := 115) (i := 1) d_Yard_copy_115 rfl rfl ?_
  refine r_getf (pc := 116) (ci := 10) (k := 9) (C := "CricketHay$Yard") (T := F_10) (N := 10) (v := .int (hI hq9 a1 9)) (fun s => Std.k s (ltn (cm hn) (kl_Y ha1)) ha1) rfl (Nat.le_of_ble_eq_true rfl) rfl w_237 (fun _ => rfl) d_Yard_copy_116 ?_
  refine r_putI (pc := 119) (ci := 10) (k := 9) (C := "CricketHay$Yard") (T := F_10) (N := 10) (fun s => Std.k s (ltn (cm hn) (kl_Y ht)) ht) rfl (Nat.le_of_ble_eq_true rfl) rfl rfl w_237 (fun _ _ => rfl) (fun _ => rfl) (fun _ => rfl) (fun s => Std.sI s _ _ _) d_Yard_copy_119 ?_
  refine r_ltH (fun hq10 => ?_)
  exact r_vret (pc := 122) rfl d_Yard_copy_122

def f_Acts_keep_b13  (a1 : Nat)   (h : AH) : Option AH :=
  gx (hI h 53 1) 41 <|
  gd h 54 (ix (hI h 53 1)) 10 fun cq2 =>
  bV (f_Yard_copy cq2 a1 h) fun hq3 =>
  lt (sI hq3 53 1 ((hI hq3 53 1) + (1 : Int32))) fun hq4 =>
  lt (sI hq4 53 2 (0 : Int32)) fun hq5 =>
  some hq5
set_option maxHeartbeats 2000000 in
theorem o_Acts_keep_b13 {G : AE} {n : Nat} (hn : NN ≤ n)  {a1 : Nat} (ha1 : kdF a1 = .inr 10)  : ∀  (h : AH), AJ G n y_Acts_keep (3) φV 13 [some (.ref 53), some (.ref a1)] [] h (f_Acts_keep_b13 a1 h) := by
  intro  h
  rw [f_Acts_keep_b13]
  refine r_aload_n (pc := 13) (i := 0) d_Acts_keep_13 rfl rfl ?_
  refine r_getf (pc := 14) (ci := 0) (k := 0) (C := "CricketHay$Acts") (T := F_0) (N := 3) (v := .ref 54) (fun s => Std.k s (lc hn rfl) kq_53) rfl (Nat.le_of_ble_eq_true rfl) rfl w_283 (fun s => vr rfl (Std.r s (lc hn rfl) rq_53_0)) d_Acts_keep_14 ?_
  refine r_aload_n (pc := 17) (i := 0) d_Acts_keep_17 rfl rfl ?_
  refine r_getf (pc := 18) (ci := 0) (k := 1) (C := "CricketHay$Acts") (T := F_0) (N := 3) (v := .int (hI h 53 1)) (fun s => Std.k s (lc hn rfl) kq_53) rfl (Nat.le_of_ble_eq_true rfl) rfl w_284 (fun _ => rfl) d_Acts_keep_18 ?_
  refine r_gx (fun zq1 => ?_)
  refine r_gd (fun cq2 rcq2 kcq2 => ?_)
  refine r_aald (pc := 21) (n := 41) (i0 := (ix (hI h 53 1))) (fun s => Std.k s (lc hn rfl) kq_54) zq1 rfl rcq2 d_Acts_keep_21 ?_
  refine r_aload_n (pc := 22) (i := 1) d_Acts_keep_22 rfl rfl ?_
  refine r_cVv (pc := 23) (T := F_10) (N := 10) (st := []) (ok_Yard_copy hn cq2 kcq2 a1 ha1 h) (fun s => Std.k s (ltn (cm hn) (kl_Y kcq2)) kcq2) rfl w_762 w_5 w_759 w_760 w_761 hy_Yard_copy ⟨Nat.le_of_ble_eq_true rfl, Nat.le_of_ble_eq_true rfl⟩ ⟨Nat.le_of_ble_eq_true rfl, Nat.le_of_ble_eq_true rfl⟩ rfl (Nat.le_of_ble_eq_true rfl) d_Acts_keep_23 (fun hq3 => ?_)
  refine r_aload_n (pc := 26) (i := 0) d_Acts_keep_26 rfl rfl ?_
  refine r_dup (pc := 27) d_Acts_keep_27 rfl ?_
  refine r_getf (pc := 28) (ci := 0) (k := 1) (C := "CricketHay$Acts") (T := F_0) (N := 3) (v := .int (hI hq3 53 1)) (fun s => Std.k s (lc hn rfl) kq_53) rfl (Nat.le_of_ble_eq_true rfl) rfl w_284 (fun _ => rfl) d_Acts_keep_28 ?_
  refine r_iconst (pc := 31) (v := 1) d_Acts_keep_31 (by rfl) ?_
  refine r_iadd (pc := 32) d_Acts_keep_32 ?_
  refine r_putI (pc := 33) (ci := 0) (k := 1) (C := "CricketHay$Acts") (T := F_0) (N := 3) (fun s => Std.k s (lc hn rfl) kq_53) rfl (Nat.le_of_ble_eq_true rfl) rfl rfl w_284 (fun _ _ => rfl) (fun _ => rfl) (fun _ => rfl) (fun s => Std.sI s _ _ _) d_Acts_keep_33 ?_
  refine r_ltH (fun hq4 => ?_)
  refine r_aload_n (pc := 36) (i := 0) d_Acts_keep_36 rfl rfl ?_
  refine r_iconst (pc := 37) (v := 0) d_Acts_keep_37 (by rfl) ?_
  refine r_putI (pc := 38) (ci := 0) (k := 2) (C := "CricketHay$Acts") (T := F_0) (N := 3) (fun s => Std.k s (lc hn rfl) kq_53) rfl (Nat.le_of_ble_eq_true rfl) rfl rfl w_286 (fun _ _ => rfl) (fun _ => rfl) (fun _ => rfl) (fun s => Std.sI s _ _ _) d_Acts_keep_38 ?_
  refine r_ltH (fun hq5 => ?_)
  exact r_vret (pc := 41) rfl d_Acts_keep_41
def f_Acts_keep  (a1 : Nat) (h : AH) : Option AH :=
  if (hI h 53 1) < (40 : Int32) then
    f_Acts_keep_b13 a1 h
  else
    bV (f_Acts_dropOldest h) fun hq1 =>
    f_Acts_keep_b13 a1 hq1
set_option maxHeartbeats 2000000 in
theorem ok_Acts_keep {G : AE} {n : Nat} (hn : NN ≤ n)  (a1 : Nat) (ha1 : kdF a1 = .inr 10) (h : AH) : OK G n y_Acts_keep (3) φV [.ref 53, .ref a1] h (f_Acts_keep a1 h) := by
  refine ok_of (y := y_Acts_keep) (lv0 := [some (.ref 53), some (.ref a1)]) (by decide +kernel) (Nat.le_of_ble_eq_true rfl) ⟨rfl, ⟨rfl, trivial⟩⟩ ?_
  rw [f_Acts_keep]
  refine r_aload_n (pc := 0) (i := 0) d_Acts_keep_0 rfl rfl ?_
  refine r_getf (pc := 1) (ci := 0) (k := 1) (C := "CricketHay$Acts") (T := F_0) (N := 3) (v := .int (hI h 53 1)) (fun s => Std.k s (lc hn rfl) kq_53) rfl (Nat.le_of_ble_eq_true rfl) rfl w_284 (fun _ => rfl) d_Acts_keep_1 ?_
  refine r_bipush (pc := 4) (v := 40) d_Acts_keep_4 (by rfl) ?_
  refine r_icmp_lt (pc := 6) (tgt := 13) d_Acts_keep_6 (by rfl) ?_ ?_
  · exact r_wk (o_Acts_keep_b13 hn ha1 h) ⟨rfl, ⟨rfl, trivial⟩⟩
  · refine r_aload_n (pc := 9) (i := 0) d_Acts_keep_9 rfl rfl ?_
    refine r_cVv (pc := 10) (T := F_0) (N := 3) (st := []) (ok_Acts_dropOldest hn h) (fun s => Std.k s (lc hn rfl) kq_53) rfl w_758 w_7 w_755 w_757 ws_25 hy_Acts_dropOldest ⟨Nat.le_of_ble_eq_true rfl, Nat.le_of_ble_eq_true rfl⟩ ⟨Nat.le_of_ble_eq_true rfl, Nat.le_of_ble_eq_true rfl⟩ rfl (Nat.le_of_ble_eq_true rfl) d_Acts_keep_10 (fun hq1 => ?_)
    exact r_wk (o_Acts_keep_b13 hn ha1 hq1) ⟨rfl, ⟨rfl, trivial⟩⟩

def f_H_buy  (a1 : Int32) (a2 : Int32) (a3 : Int32) (h : AH) : Option (Int32 × AH) :=
  bI (f_H_areTwo a1 a2 h) fun rq1 hq2 =>
  if rq1 = 0 then
    some ((-1 : Int32), hq2)
  else
    if a3 < (1 : Int32) then
      some ((-1 : Int32), hq2)
    else
      gd hq2 0 1 7 fun cq3 =>
      if (hI hq2 cq3 14) < a3 then
        some ((-1 : Int32), hq2)
      else
        gx a2 6 <|
        if a3 ≤ (hI hq2 39 (ix a2)) then
          gd hq2 0 1 7 fun cq5 =>
          bV (f_Choir_tune cq5 37 hq2) fun hq6 =>
          bI (f_Choir_half a1 a2 hq6) fun rq7 hq8 =>
          lt (a3 * rq7) fun xq9 =>
          gx a1 6 <|
          if xq9 ≤ (hI hq8 38 (ix a1)) then
            bV (f_Acts_keep 37 hq8) fun hq11 =>
            gx a1 6 <|
            gx a1 6 <|
            lt (sI hq11 38 (ix a1) ((hI hq11 38 (ix a1)) - xq9)) fun hq14 =>
            gx a2 6 <|
            gx a2 6 <|
            lt (sI hq14 38 (ix a2) ((hI hq14 38 (ix a2)) + xq9)) fun hq17 =>
            gx a1 6 <|
            gx a1 6 <|
            lt (sI hq17 39 (ix a1) ((hI hq17 39 (ix a1)) + a3)) fun hq20 =>
            gx a2 6 <|
            gx a2 6 <|
            lt (sI hq20 39 (ix a2) ((hI hq20 39 (ix a2)) - a3)) fun hq23 =>
            some (xq9, hq23)
          else
            some ((-1 : Int32), hq8)
        else
          some ((-1 : Int32), hq2)
set_option maxHeartbeats 2000000 in
theorem ok_H_buy {G : AE} {n : Nat} (hn : NN ≤ n)  (a1 : Int32) (a2 : Int32) (a3 : Int32) (h : AH) : OK G n y_H_buy (6) φI [.ref 0, .int a1, .int a2, .int a3] h (f_H_buy a1 a2 a3 h) := by
  refine ok_of (y := y_H_buy) (lv0 := [some (.ref 0), some (.int a1), some (.int a2), some (.int a3), none]) (by decide +kernel) (Nat.le_of_ble_eq_true rfl) ⟨rfl, ⟨rfl, ⟨rfl, ⟨rfl, trivial⟩⟩⟩⟩ ?_
  rw [f_H_buy]
  refine r_aload_n (pc := 0) (i := 0) d_H_buy_0 rfl rfl ?_
  refine r_iload_n (pc := 1) (i := 1) d_H_buy_1 rfl rfl ?_
  refine r_iload_n (pc := 2) (i := 2) d_H_buy_2 rfl rfl ?_
  refine r_cVi (pc := 3) (T := F_11) (N := 13) (st := []) (ok_H_areTwo hn a1 a2 h) (fun s => Std.k s (lc hn rfl) kq_0) rfl w_722 w_1 w_719 w_721 ws_23 hy_H_areTwo ⟨Nat.le_of_ble_eq_true rfl, Nat.le_of_ble_eq_true rfl⟩ ⟨Nat.le_of_ble_eq_true rfl, Nat.le_of_ble_eq_true rfl⟩ rfl (Nat.le_of_ble_eq_true rfl) d_H_buy_3 (fun rq1 hq2 => ?_)
  refine r_if_eq (pc := 6) (tgt := 38) d_H_buy_6 (by rfl) ?_ ?_
  · refine r_iconst (pc := 38) (v := -1) d_H_buy_38 (by rfl) ?_
    exact r_iret (pc := 39) rfl d_H_buy_39
  · refine r_iload_n (pc := 9) (i := 3) d_H_buy_9 rfl rfl ?_
    refine r_iconst (pc := 10) (v := 1) d_H_buy_10 (by rfl) ?_
    refine r_icmp_lt (pc := 11) (tgt := 38) d_H_buy_11 (by rfl) ?_ ?_
    · refine r_iconst (pc := 38) (v := -1) d_H_buy_38 (by rfl) ?_
      exact r_iret (pc := 39) rfl d_H_buy_39
    · refine r_iload_n (pc := 14) (i := 3) d_H_buy_14 rfl rfl ?_
      refine r_aload_n (pc := 15) (i := 0) d_H_buy_15 rfl rfl ?_
      refine r_gd (fun cq3 rcq3 kcq3 => ?_)
      refine r_getf (pc := 16) (ci := 11) (k := 1) (C := "CricketHay") (T := F_11) (N := 13) (v := .ref cq3) (fun s => Std.k s (lc hn rfl) kq_0) rfl (Nat.le_of_ble_eq_true rfl) rfl w_423 (fun _ => vr rfl rcq3) d_H_buy_16 ?_
      refine r_getf (pc := 19) (ci := 7) (k := 14) (C := "CricketHay$Market") (T := F_7) (N := 16) (v := .int (hI hq2 cq3 14)) (fun s => Std.k s (ltn (cm hn) (kl_M kcq3)) kcq3) rfl (Nat.le_of_ble_eq_true rfl) rfl w_166 (fun _ => rfl) d_H_buy_19 ?_
      refine r_icmp_gt (pc := 22) (tgt := 38) d_H_buy_22 (by rfl) ?_ ?_
      · refine r_iconst (pc := 38) (v := -1) d_H_buy_38 (by rfl) ?_
        exact r_iret (pc := 39) rfl d_H_buy_39
      · refine r_iload_n (pc := 25) (i := 3) d_H_buy_25 rfl rfl ?_
        refine r_aload_n (pc := 26) (i := 0) d_H_buy_26 rfl rfl ?_
        refine r_getf (pc := 27) (ci := 11) (k := 3) (C := "CricketHay") (T := F_11) (N := 13) (v := .ref 37) (fun s => Std.k s (lc hn rfl) kq_0) rfl (Nat.le_of_ble_eq_true rfl) rfl w_425 (fun s => vr rfl (Std.r s (lc hn rfl) rq_0_3)) d_H_buy_27 ?_
        refine r_getf (pc := 30) (ci := 10) (k := 1) (C := "CricketHay$Yard") (T := F_10) (N := 10) (v := .ref 39) (fun s => Std.k s (lc hn rfl) kq_37) rfl (Nat.le_of_ble_eq_true rfl) rfl w_215 (fun s => vr rfl (Std.r s (lc hn rfl) rq_37_1)) d_H_buy_30 ?_
        refine r_iload_n (pc := 33) (i := 2) d_H_buy_33 rfl rfl ?_
        refine r_gx (fun zq4 => ?_)
        refine r_iald (pc := 34) (n := 6) (i0 := (ix a2)) (fun s => Std.k s (lc hn rfl) kq_39) zq4 rfl d_H_buy_34 ?_
        refine r_icmp_le (pc := 35) (tgt := 40) d_H_buy_35 (by rfl) ?_ ?_
        · refine r_aload_n (pc := 40) (i := 0) d_H_buy_40 rfl rfl ?_
          refine r_getf (pc := 41) (ci := 11) (k := 5) (C := "CricketHay") (T := F_11) (N := 13) (v := .ref 51) (fun s => Std.k s (lc hn rfl) kq_0) rfl (Nat.le_of_ble_eq_true rfl) rfl w_427 (fun s => vr rfl (Std.r s (lc hn rfl) rq_0_5)) d_H_buy_41 ?_
          refine r_aload_n (pc := 44) (i := 0) d_H_buy_44 rfl rfl ?_
          refine r_gd (fun cq5 rcq5 kcq5 => ?_)
          refine r_getf (pc := 45) (ci := 11) (k := 1) (C := "CricketHay") (T := F_11) (N := 13) (v := .ref cq5) (fun s => Std.k s (lc hn rfl) kq_0) rfl (Nat.le_of_ble_eq_true rfl) rfl w_423 (fun _ => vr rfl rcq5) d_H_buy_45 ?_
          refine r_aload_n (pc := 48) (i := 0) d_H_buy_48 rfl rfl ?_
          refine r_getf (pc := 49) (ci := 11) (k := 3) (C := "CricketHay") (T := F_11) (N := 13) (v := .ref 37) (fun s => Std.k s (lc hn rfl) kq_0) rfl (Nat.le_of_ble_eq_true rfl) rfl w_425 (fun s => vr rfl (Std.r s (lc hn rfl) rq_0_3)) d_H_buy_49 ?_
          refine r_cVv (pc := 52) (T := F_2) (N := 2) (st := []) (ok_Choir_tune hn cq5 kcq5 37 kq_37 hq2) (fun s => Std.k s (lc hn rfl) kq_51) rfl w_668 w_6 w_665 w_666 w_667 hy_Choir_tune ⟨Nat.le_of_ble_eq_true rfl, Nat.le_of_ble_eq_true rfl⟩ ⟨Nat.le_of_ble_eq_true rfl, Nat.le_of_ble_eq_true rfl⟩ rfl (Nat.le_of_ble_eq_true rfl) d_H_buy_52 (fun hq6 => ?_)
          refine r_iload_n (pc := 55) (i := 3) d_H_buy_55 rfl rfl ?_
          refine r_aload_n (pc := 56) (i := 0) d_H_buy_56 rfl rfl ?_
          refine r_getf (pc := 57) (ci := 11) (k := 5) (C := "CricketHay") (T := F_11) (N := 13) (v := .ref 51) (fun s => Std.k s (lc hn rfl) kq_0) rfl (Nat.le_of_ble_eq_true rfl) rfl w_427 (fun s => vr rfl (Std.r s (lc hn rfl) rq_0_5)) d_H_buy_57 ?_
          refine r_iload_n (pc := 60) (i := 1) d_H_buy_60 rfl rfl ?_
          refine r_iload_n (pc := 61) (i := 2) d_H_buy_61 rfl rfl ?_
          refine r_cVi (pc := 62) (T := F_2) (N := 2) (st := [.int a3]) (ok_Choir_half hn a1 a2 hq6) (fun s => Std.k s (lc hn rfl) kq_51) rfl w_726 w_6 w_723 w_724 w_725 hy_Choir_half ⟨Nat.le_of_ble_eq_true rfl, Nat.le_of_ble_eq_true rfl⟩ ⟨Nat.le_of_ble_eq_true rfl, Nat.le_of_ble_eq_true rfl⟩ rfl (Nat.le_of_ble_eq_true rfl) d_H_buy_62 (fun rq7 hq8 => ?_)
          refine r_imul (pc := 65) d_H_buy_65 ?_
          refine r_ltI (fun xq9 => ?_)
          refine r_istore (pc := 66) (lv1 := [some (.ref 0), some (.int a1), some (.int a2), some (.int a3), some (.int xq9)]) d_H_buy_66 (Nat.le_of_ble_eq_true rfl) rfl ?_
          refine r_iload (pc := 68) d_H_buy_68 rfl ?_
          refine r_aload_n (pc := 70) (i := 0) d_H_buy_70 rfl rfl ?_
          refine r_getf (pc := 71) (ci := 11) (k := 3) (C := "CricketHay") (T := F_11) (N := 13) (v := .ref 37) (fun s => Std.k s (lc hn rfl) kq_0) rfl (Nat.le_of_ble_eq_true rfl) rfl w_425 (fun s => vr rfl (Std.r s (lc hn rfl) rq_0_3)) d_H_buy_71 ?_
          refine r_getf (pc := 74) (ci := 10) (k := 0) (C := "CricketHay$Yard") (T := F_10) (N := 10) (v := .ref 38) (fun s => Std.k s (lc hn rfl) kq_37) rfl (Nat.le_of_ble_eq_true rfl) rfl w_212 (fun s => vr rfl (Std.r s (lc hn rfl) rq_37_0)) d_H_buy_74 ?_
          refine r_iload_n (pc := 77) (i := 1) d_H_buy_77 rfl rfl ?_
          refine r_gx (fun zq10 => ?_)
          refine r_iald (pc := 78) (n := 6) (i0 := (ix a1)) (fun s => Std.k s (lc hn rfl) kq_38) zq10 rfl d_H_buy_78 ?_
          refine r_icmp_le (pc := 79) (tgt := 84) d_H_buy_79 (by rfl) ?_ ?_
          · refine r_aload_n (pc := 84) (i := 0) d_H_buy_84 rfl rfl ?_
            refine r_getf (pc := 85) (ci := 11) (k := 6) (C := "CricketHay") (T := F_11) (N := 13) (v := .ref 53) (fun s => Std.k s (lc hn rfl) kq_0) rfl (Nat.le_of_ble_eq_true rfl) rfl w_428 (fun s => vr rfl (Std.r s (lc hn rfl) rq_0_6)) d_H_buy_85 ?_
            refine r_aload_n (pc := 88) (i := 0) d_H_buy_88 rfl rfl ?_
            refine r_getf (pc := 89) (ci := 11) (k := 3) (C := "CricketHay") (T := F_11) (N := 13) (v := .ref 37) (fun s => Std.k s (lc hn rfl) kq_0) rfl (Nat.le_of_ble_eq_true rfl) rfl w_425 (fun s => vr rfl (Std.r s (lc hn rfl) rq_0_3)) d_H_buy_89 ?_
            refine r_cVv (pc := 92) (T := F_0) (N := 3) (st := []) (ok_Acts_keep hn 37 kq_37 hq8) (fun s => Std.k s (lc hn rfl) kq_53) rfl w_754 w_7 w_751 w_752 w_753 hy_Acts_keep ⟨Nat.le_of_ble_eq_true rfl, Nat.le_of_ble_eq_true rfl⟩ ⟨Nat.le_of_ble_eq_true rfl, Nat.le_of_ble_eq_true rfl⟩ rfl (Nat.le_of_ble_eq_true rfl) d_H_buy_92 (fun hq11 => ?_)
            refine r_aload_n (pc := 95) (i := 0) d_H_buy_95 rfl rfl ?_
            refine r_getf (pc := 96) (ci := 11) (k := 3) (C := "CricketHay") (T := F_11) (N := 13) (v := .ref 37) (fun s => Std.k s (lc hn rfl) kq_0) rfl (Nat.le_of_ble_eq_true rfl) rfl w_425 (fun s => vr rfl (Std.r s (lc hn rfl) rq_0_3)) d_H_buy_96 ?_
            refine r_getf (pc := 99) (ci := 10) (k := 0) (C := "CricketHay$Yard") (T := F_10) (N := 10) (v := .ref 38) (fun s => Std.k s (lc hn rfl) kq_37) rfl (Nat.le_of_ble_eq_true rfl) rfl w_212 (fun s => vr rfl (Std.r s (lc hn rfl) rq_37_0)) d_H_buy_99 ?_
            refine r_iload_n (pc := 102) (i := 1) d_H_buy_102 rfl rfl ?_
            refine r_dup2 (pc := 103) d_H_buy_103 rfl rfl ?_
            refine r_gx (fun zq12 => ?_)
            refine r_iald (pc := 104) (n := 6) (i0 := (ix a1)) (fun s => Std.k s (lc hn rfl) kq_38) zq12 rfl d_H_buy_104 ?_
            refine r_iload (pc := 105) d_H_buy_105 rfl ?_
            refine r_isub (pc := 107) d_H_buy_107 ?_
            refine r_gx (fun zq13 => ?_)
            refine r_iast (pc := 108) (n := 6) (i0 := (ix a1)) (fun s => Std.k s (lc hn rfl) kq_38) zq13 rfl (fun s => Std.sI s _ _ _) d_H_buy_108 ?_
            refine r_ltH (fun hq14 => ?_)
            refine r_aload_n (pc := 109) (i := 0) d_H_buy_109 rfl rfl ?_
            refine r_getf (pc := 110) (ci := 11) (k := 3) (C := "CricketHay") (T := F_11) (N := 13) (v := .ref 37) (fun s => Std.k s (lc hn rfl) kq_0) rfl (Nat.le_of_ble_eq_true rfl) rfl w_425 (fun s => vr rfl (Std.r s (lc hn rfl) rq_0_3)) d_H_buy_110 ?_
            refine r_getf (pc := 113) (ci := 10) (k := 0) (C := "CricketHay$Yard") (T := F_10) (N := 10) (v := .ref 38) (fun s => Std.k s (lc hn rfl) kq_37) rfl (Nat.le_of_ble_eq_true rfl) rfl w_212 (fun s => vr rfl (Std.r s (lc hn rfl) rq_37_0)) d_H_buy_113 ?_
            refine r_iload_n (pc := 116) (i := 2) d_H_buy_116 rfl rfl ?_
            refine r_dup2 (pc := 117) d_H_buy_117 rfl rfl ?_
            refine r_gx (fun zq15 => ?_)
            refine r_iald (pc := 118) (n := 6) (i0 := (ix a2)) (fun s => Std.k s (lc hn rfl) kq_38) zq15 rfl d_H_buy_118 ?_
            refine r_iload (pc := 119) d_H_buy_119 rfl ?_
            refine r_iadd (pc := 121) d_H_buy_121 ?_
            refine r_gx (fun zq16 => ?_)
            refine r_iast (pc := 122) (n := 6) (i0 := (ix a2)) (fun s => Std.k s (lc hn rfl) kq_38) zq16 rfl (fun s => Std.sI s _ _ _) d_H_buy_122 ?_
            refine r_ltH (fun hq17 => ?_)
            refine r_aload_n (pc := 123) (i := 0) d_H_buy_123 rfl rfl ?_
            refine r_getf (pc := 124) (ci := 11) (k := 3) (C := "CricketHay") (T := F_11) (N := 13) (v := .ref 37) (fun s => Std.k s (lc hn rfl) kq_0) rfl (Nat.le_of_ble_eq_true rfl) rfl w_425 (fun s => vr rfl (Std.r s (lc hn rfl) rq_0_3)) d_H_buy_124 ?_
            refine r_getf (pc := 127) (ci := 10) (k := 1) (C := "CricketHay$Yard") (T := F_10) (N := 10) (v := .ref 39) (fun s => Std.k s (lc hn rfl) kq_37) rfl (Nat.le_of_ble_eq_true rfl) rfl w_215 (fun s => vr rfl (Std.r s (lc hn rfl) rq_37_1)) d_H_buy_127 ?_
            refine r_iload_n (pc := 130) (i := 1) d_H_buy_130 rfl rfl ?_
            refine r_dup2 (pc := 131) d_H_buy_131 rfl rfl ?_
            refine r_gx (fun zq18 => ?_)
            refine r_iald (pc := 132) (n := 6) (i0 := (ix a1)) (fun s => Std.k s (lc hn rfl) kq_39) zq18 rfl d_H_buy_132 ?_
            refine r_iload_n (pc := 133) (i := 3) d_H_buy_133 rfl rfl ?_
            refine r_iadd (pc := 134) d_H_buy_134 ?_
            refine r_gx (fun zq19 => ?_)
            refine r_iast (pc := 135) (n := 6) (i0 := (ix a1)) (fun s => Std.k s (lc hn rfl) kq_39) zq19 rfl (fun s => Std.sI s _ _ _) d_H_buy_135 ?_
            refine r_ltH (fun hq20 => ?_)
            refine r_aload_n (pc := 136) (i := 0) d_H_buy_136 rfl rfl ?_
            refine r_getf (pc := 137) (ci := 11) (k := 3) (C := "CricketHay") (T := F_11) (N := 13) (v := .ref 37) (fun s => Std.k s (lc hn rfl) kq_0) rfl (Nat.le_of_ble_eq_true rfl) rfl w_425 (fun s => vr rfl (Std.r s (lc hn rfl) rq_0_3)) d_H_buy_137 ?_
            refine r_getf (pc := 140) (ci := 10) (k := 1) (C := "CricketHay$Yard") (T := F_10) (N := 10) (v := .ref 39) (fun s => Std.k s (lc hn rfl) kq_37) rfl (Nat.le_of_ble_eq_true rfl) rfl w_215 (fun s => vr rfl (Std.r s (lc hn rfl) rq_37_1)) d_H_buy_140 ?_
            refine r_iload_n (pc := 143) (i := 2) d_H_buy_143 rfl rfl ?_
            refine r_dup2 (pc := 144) d_H_buy_144 rfl rfl ?_
            refine r_gx (fun zq21 => ?_)
            refine r_iald (pc := 145) (n := 6) (i0 := (ix a2)) (fun s => Std.k s (lc hn rfl) kq_39) zq21 rfl d_H_buy_145 ?_
            refine r_iload_n (pc := 146) (i := 3) d_H_buy_146 rfl rfl ?_
            refine r_isub (pc := 147) d_H_buy_147 ?_
            refine r_gx (fun zq22 => ?_)
            refine r_iast (pc := 148) (n := 6) (i0 := (ix a2)) (fun s => Std.k s (lc hn rfl) kq_39) zq22 rfl (fun s => Std.sI s _ _ _) d_H_buy_148 ?_
            refine r_ltH (fun hq23 => ?_)
            refine r_iload (pc := 149) d_H_buy_149 rfl ?_
            exact r_iret (pc := 151) rfl d_H_buy_151
          · refine r_iconst (pc := 82) (v := -1) d_H_buy_82 (by rfl) ?_
            exact r_iret (pc := 83) rfl d_H_buy_83
        · refine r_iconst (pc := 38) (v := -1) d_H_buy_38 (by rfl) ?_
          exact r_iret (pc := 39) rfl d_H_buy_39

def f_H_breathe  (a1 : Int32) (a2 : Int32) (h : AH) : Option (Int32 × AH) :=
  gd h 0 1 7 fun cq1 =>
  bI (f_Market_has cq1 a1 h) fun rq2 hq3 =>
  if rq2 = 0 then
    some ((-100 : Int32), hq3)
  else
    gx a1 6 <|
    if ¬ (hI hq3 43 (ix a1)) = 0 then
      some ((-100 : Int32), hq3)
    else
      if a2 < (-5 : Int32) then
        some ((-100 : Int32), hq3)
      else
        if (5 : Int32) < a2 then
          some ((-100 : Int32), hq3)
        else
          gx a1 6 <|
          if ¬ a2 = (hI hq3 42 (ix a1)) then
            bV (f_Acts_keep 37 hq3) fun hq6 =>
            gx a1 6 <|
            lt (hI hq6 42 (ix a1)) fun xq8 =>
            gx a1 6 <|
            lt (sI hq6 42 (ix a1) a2) fun hq10 =>
            some (xq8, hq10)
          else
            some ((-100 : Int32), hq3)
set_option maxHeartbeats 2000000 in
theorem ok_H_breathe {G : AE} {n : Nat} (hn : NN ≤ n)  (a1 : Int32) (a2 : Int32) (h : AH) : OK G n y_H_breathe (4) φI [.ref 0, .int a1, .int a2] h (f_H_breathe a1 a2 h) := by
  refine ok_of (y := y_H_breathe) (lv0 := [some (.ref 0), some (.int a1), some (.int a2), none]) (by decide +kernel) (Nat.le_of_ble_eq_true rfl) ⟨rfl, ⟨rfl, ⟨rfl, trivial⟩⟩⟩ ?_
  rw [f_H_breathe]
  refine r_aload_n (pc := 0) (i := 0) d_H_breathe_0 rfl rfl ?_
  refine r_gd (fun cq1 rcq1 kcq1 => ?_)
  refine r_getf (pc := 1) (ci := 11) (k := 1) (C := "CricketHay") (T := F_11) (N := 13) (v := .ref cq1) (fun s => Std.k s (lc hn rfl) kq_0) rfl (Nat.le_of_ble_eq_true rfl) rfl w_423 (fun _ => vr rfl rcq1) d_H_breathe_1 ?_
  refine r_iload_n (pc := 4) (i := 1) d_H_breathe_4 rfl rfl ?_
  refine r_cVi (pc := 5) (T := F_7) (N := 16) (st := []) (ok_Market_has hn cq1 kcq1 a1 h) (fun s => Std.k s (ltn (cm hn) (kl_M kcq1)) kcq1) rfl w_664 w_3 w_661 w_662 w_663 hy_Market_has ⟨Nat.le_of_ble_eq_true rfl, Nat.le_of_ble_eq_true rfl⟩ ⟨Nat.le_of_ble_eq_true rfl, Nat.le_of_ble_eq_true rfl⟩ rfl (Nat.le_of_ble_eq_true rfl) d_H_breathe_5 (fun rq2 hq3 => ?_)
  refine r_if_eq (pc := 8) (tgt := 47) d_H_breathe_8 (by rfl) ?_ ?_
  · refine r_bipush (pc := 47) (v := -100) d_H_breathe_47 (by rfl) ?_
    exact r_iret (pc := 49) rfl d_H_breathe_49
  · refine r_aload_n (pc := 11) (i := 0) d_H_breathe_11 rfl rfl ?_
    refine r_getf (pc := 12) (ci := 11) (k := 3) (C := "CricketHay") (T := F_11) (N := 13) (v := .ref 37) (fun s => Std.k s (lc hn rfl) kq_0) rfl (Nat.le_of_ble_eq_true rfl) rfl w_425 (fun s => vr rfl (Std.r s (lc hn rfl) rq_0_3)) d_H_breathe_12 ?_
    refine r_getf (pc := 15) (ci := 10) (k := 5) (C := "CricketHay$Yard") (T := F_10) (N := 10) (v := .ref 43) (fun s => Std.k s (lc hn rfl) kq_37) rfl (Nat.le_of_ble_eq_true rfl) rfl w_226 (fun s => vr rfl (Std.r s (lc hn rfl) rq_37_5)) d_H_breathe_15 ?_
    refine r_iload_n (pc := 18) (i := 1) d_H_breathe_18 rfl rfl ?_
    refine r_gx (fun zq4 => ?_)
    refine r_iald (pc := 19) (n := 6) (i0 := (ix a1)) (fun s => Std.k s (lc hn rfl) kq_43) zq4 rfl d_H_breathe_19 ?_
    refine r_if_ne (pc := 20) (tgt := 47) d_H_breathe_20 (by rfl) ?_ ?_
    · refine r_bipush (pc := 47) (v := -100) d_H_breathe_47 (by rfl) ?_
      exact r_iret (pc := 49) rfl d_H_breathe_49
    · refine r_iload_n (pc := 23) (i := 2) d_H_breathe_23 rfl rfl ?_
      refine r_bipush (pc := 24) (v := -5) d_H_breathe_24 (by rfl) ?_
      refine r_icmp_lt (pc := 26) (tgt := 47) d_H_breathe_26 (by rfl) ?_ ?_
      · refine r_bipush (pc := 47) (v := -100) d_H_breathe_47 (by rfl) ?_
        exact r_iret (pc := 49) rfl d_H_breathe_49
      · refine r_iload_n (pc := 29) (i := 2) d_H_breathe_29 rfl rfl ?_
        refine r_iconst (pc := 30) (v := 5) d_H_breathe_30 (by rfl) ?_
        refine r_icmp_gt (pc := 31) (tgt := 47) d_H_breathe_31 (by rfl) ?_ ?_
        · refine r_bipush (pc := 47) (v := -100) d_H_breathe_47 (by rfl) ?_
          exact r_iret (pc := 49) rfl d_H_breathe_49
        · refine r_iload_n (pc := 34) (i := 2) d_H_breathe_34 rfl rfl ?_
          refine r_aload_n (pc := 35) (i := 0) d_H_breathe_35 rfl rfl ?_
          refine r_getf (pc := 36) (ci := 11) (k := 3) (C := "CricketHay") (T := F_11) (N := 13) (v := .ref 37) (fun s => Std.k s (lc hn rfl) kq_0) rfl (Nat.le_of_ble_eq_true rfl) rfl w_425 (fun s => vr rfl (Std.r s (lc hn rfl) rq_0_3)) d_H_breathe_36 ?_
          refine r_getf (pc := 39) (ci := 10) (k := 4) (C := "CricketHay$Yard") (T := F_10) (N := 10) (v := .ref 42) (fun s => Std.k s (lc hn rfl) kq_37) rfl (Nat.le_of_ble_eq_true rfl) rfl w_223 (fun s => vr rfl (Std.r s (lc hn rfl) rq_37_4)) d_H_breathe_39 ?_
          refine r_iload_n (pc := 42) (i := 1) d_H_breathe_42 rfl rfl ?_
          refine r_gx (fun zq5 => ?_)
          refine r_iald (pc := 43) (n := 6) (i0 := (ix a1)) (fun s => Std.k s (lc hn rfl) kq_42) zq5 rfl d_H_breathe_43 ?_
          refine r_icmp_ne (pc := 44) (tgt := 50) d_H_breathe_44 (by rfl) ?_ ?_
          · refine r_aload_n (pc := 50) (i := 0) d_H_breathe_50 rfl rfl ?_
            refine r_getf (pc := 51) (ci := 11) (k := 6) (C := "CricketHay") (T := F_11) (N := 13) (v := .ref 53) (fun s => Std.k s (lc hn rfl) kq_0) rfl (Nat.le_of_ble_eq_true rfl) rfl w_428 (fun s => vr rfl (Std.r s (lc hn rfl) rq_0_6)) d_H_breathe_51 ?_
            refine r_aload_n (pc := 54) (i := 0) d_H_breathe_54 rfl rfl ?_
            refine r_getf (pc := 55) (ci := 11) (k := 3) (C := "CricketHay") (T := F_11) (N := 13) (v := .ref 37) (fun s => Std.k s (lc hn rfl) kq_0) rfl (Nat.le_of_ble_eq_true rfl) rfl w_425 (fun s => vr rfl (Std.r s (lc hn rfl) rq_0_3)) d_H_breathe_55 ?_
            refine r_cVv (pc := 58) (T := F_0) (N := 3) (st := []) (ok_Acts_keep hn 37 kq_37 hq3) (fun s => Std.k s (lc hn rfl) kq_53) rfl w_754 w_7 w_751 w_752 w_753 hy_Acts_keep ⟨Nat.le_of_ble_eq_true rfl, Nat.le_of_ble_eq_true rfl⟩ ⟨Nat.le_of_ble_eq_true rfl, Nat.le_of_ble_eq_true rfl⟩ rfl (Nat.le_of_ble_eq_true rfl) d_H_breathe_58 (fun hq6 => ?_)
            refine r_aload_n (pc := 61) (i := 0) d_H_breathe_61 rfl rfl ?_
            refine r_getf (pc := 62) (ci := 11) (k := 3) (C := "CricketHay") (T := F_11) (N := 13) (v := .ref 37) (fun s => Std.k s (lc hn rfl) kq_0) rfl (Nat.le_of_ble_eq_true rfl) rfl w_425 (fun s => vr rfl (Std.r s (lc hn rfl) rq_0_3)) d_H_breathe_62 ?_
            refine r_getf (pc := 65) (ci := 10) (k := 4) (C := "CricketHay$Yard") (T := F_10) (N := 10) (v := .ref 42) (fun s => Std.k s (lc hn rfl) kq_37) rfl (Nat.le_of_ble_eq_true rfl) rfl w_223 (fun s => vr rfl (Std.r s (lc hn rfl) rq_37_4)) d_H_breathe_65 ?_
            refine r_iload_n (pc := 68) (i := 1) d_H_breathe_68 rfl rfl ?_
            refine r_gx (fun zq7 => ?_)
            refine r_iald (pc := 69) (n := 6) (i0 := (ix a1)) (fun s => Std.k s (lc hn rfl) kq_42) zq7 rfl d_H_breathe_69 ?_
            refine r_ltI (fun xq8 => ?_)
            refine r_istore_n (pc := 70) (i := 3) (lv1 := [some (.ref 0), some (.int a1), some (.int a2), some (.int xq8)]) d_H_breathe_70 rfl (Nat.le_of_ble_eq_true rfl) rfl ?_
            refine r_aload_n (pc := 71) (i := 0) d_H_breathe_71 rfl rfl ?_
            refine r_getf (pc := 72) (ci := 11) (k := 3) (C := "CricketHay") (T := F_11) (N := 13) (v := .ref 37) (fun s => Std.k s (lc hn rfl) kq_0) rfl (Nat.le_of_ble_eq_true rfl) rfl w_425 (fun s => vr rfl (Std.r s (lc hn rfl) rq_0_3)) d_H_breathe_72 ?_
            refine r_getf (pc := 75) (ci := 10) (k := 4) (C := "CricketHay$Yard") (T := F_10) (N := 10) (v := .ref 42) (fun s => Std.k s (lc hn rfl) kq_37) rfl (Nat.le_of_ble_eq_true rfl) rfl w_223 (fun s => vr rfl (Std.r s (lc hn rfl) rq_37_4)) d_H_breathe_75 ?_
            refine r_iload_n (pc := 78) (i := 1) d_H_breathe_78 rfl rfl ?_
            refine r_iload_n (pc := 79) (i := 2) d_H_breathe_79 rfl rfl ?_
            refine r_gx (fun zq9 => ?_)
            refine r_iast (pc := 80) (n := 6) (i0 := (ix a1)) (fun s => Std.k s (lc hn rfl) kq_42) zq9 rfl (fun s => Std.sI s _ _ _) d_H_breathe_80 ?_
            refine r_ltH (fun hq10 => ?_)
            refine r_iload_n (pc := 81) (i := 3) d_H_breathe_81 rfl rfl ?_
            exact r_iret (pc := 82) rfl d_H_breathe_82
          · refine r_bipush (pc := 47) (v := -100) d_H_breathe_47 (by rfl) ?_
            exact r_iret (pc := 49) rfl d_H_breathe_49

def f_H_free  (a1 : Int32) (h : AH) : Option (Int32 × AH) :=
  gd h 0 1 7 fun cq1 =>
  bI (f_Market_has cq1 a1 h) fun rq2 hq3 =>
  if rq2 = 0 then
    some ((-1 : Int32), hq3)
  else
    gx a1 6 <|
    if (hI hq3 43 (ix a1)) = 0 then
      gd hq3 0 1 7 fun cq5 =>
      bV (f_Choir_tune cq5 37 hq3) fun hq6 =>
      bV (f_Acts_keep 37 hq6) fun hq7 =>
      gx a1 6 <|
      lt (sI hq7 43 (ix a1) (1 : Int32)) fun hq9 =>
      gx a1 6 <|
      some ((hI hq9 52 (ix a1)), hq9)
    else
      some ((-1 : Int32), hq3)
set_option maxHeartbeats 2000000 in
theorem ok_H_free {G : AE} {n : Nat} (hn : NN ≤ n)  (a1 : Int32) (h : AH) : OK G n y_H_free (6) φI [.ref 0, .int a1] h (f_H_free a1 h) := by
  refine ok_of (y := y_H_free) (lv0 := [some (.ref 0), some (.int a1)]) (by decide +kernel) (Nat.le_of_ble_eq_true rfl) ⟨rfl, ⟨rfl, trivial⟩⟩ ?_
  rw [f_H_free]
  refine r_aload_n (pc := 0) (i := 0) d_H_free_0 rfl rfl ?_
  refine r_gd (fun cq1 rcq1 kcq1 => ?_)
  refine r_getf (pc := 1) (ci := 11) (k := 1) (C := "CricketHay") (T := F_11) (N := 13) (v := .ref cq1) (fun s => Std.k s (lc hn rfl) kq_0) rfl (Nat.le_of_ble_eq_true rfl) rfl w_423 (fun _ => vr rfl rcq1) d_H_free_1 ?_
  refine r_iload_n (pc := 4) (i := 1) d_H_free_4 rfl rfl ?_
  refine r_cVi (pc := 5) (T := F_7) (N := 16) (st := []) (ok_Market_has hn cq1 kcq1 a1 h) (fun s => Std.k s (ltn (cm hn) (kl_M kcq1)) kcq1) rfl w_664 w_3 w_661 w_662 w_663 hy_Market_has ⟨Nat.le_of_ble_eq_true rfl, Nat.le_of_ble_eq_true rfl⟩ ⟨Nat.le_of_ble_eq_true rfl, Nat.le_of_ble_eq_true rfl⟩ rfl (Nat.le_of_ble_eq_true rfl) d_H_free_5 (fun rq2 hq3 => ?_)
  refine r_if_eq (pc := 8) (tgt := 23) d_H_free_8 (by rfl) ?_ ?_
  · refine r_iconst (pc := 23) (v := -1) d_H_free_23 (by rfl) ?_
    exact r_iret (pc := 24) rfl d_H_free_24
  · refine r_aload_n (pc := 11) (i := 0) d_H_free_11 rfl rfl ?_
    refine r_getf (pc := 12) (ci := 11) (k := 3) (C := "CricketHay") (T := F_11) (N := 13) (v := .ref 37) (fun s => Std.k s (lc hn rfl) kq_0) rfl (Nat.le_of_ble_eq_true rfl) rfl w_425 (fun s => vr rfl (Std.r s (lc hn rfl) rq_0_3)) d_H_free_12 ?_
    refine r_getf (pc := 15) (ci := 10) (k := 5) (C := "CricketHay$Yard") (T := F_10) (N := 10) (v := .ref 43) (fun s => Std.k s (lc hn rfl) kq_37) rfl (Nat.le_of_ble_eq_true rfl) rfl w_226 (fun s => vr rfl (Std.r s (lc hn rfl) rq_37_5)) d_H_free_15 ?_
    refine r_iload_n (pc := 18) (i := 1) d_H_free_18 rfl rfl ?_
    refine r_gx (fun zq4 => ?_)
    refine r_iald (pc := 19) (n := 6) (i0 := (ix a1)) (fun s => Std.k s (lc hn rfl) kq_43) zq4 rfl d_H_free_19 ?_
    refine r_if_eq (pc := 20) (tgt := 25) d_H_free_20 (by rfl) ?_ ?_
    · refine r_aload_n (pc := 25) (i := 0) d_H_free_25 rfl rfl ?_
      refine r_getf (pc := 26) (ci := 11) (k := 5) (C := "CricketHay") (T := F_11) (N := 13) (v := .ref 51) (fun s => Std.k s (lc hn rfl) kq_0) rfl (Nat.le_of_ble_eq_true rfl) rfl w_427 (fun s => vr rfl (Std.r s (lc hn rfl) rq_0_5)) d_H_free_26 ?_
      refine r_aload_n (pc := 29) (i := 0) d_H_free_29 rfl rfl ?_
      refine r_gd (fun cq5 rcq5 kcq5 => ?_)
      refine r_getf (pc := 30) (ci := 11) (k := 1) (C := "CricketHay") (T := F_11) (N := 13) (v := .ref cq5) (fun s => Std.k s (lc hn rfl) kq_0) rfl (Nat.le_of_ble_eq_true rfl) rfl w_423 (fun _ => vr rfl rcq5) d_H_free_30 ?_
      refine r_aload_n (pc := 33) (i := 0) d_H_free_33 rfl rfl ?_
      refine r_getf (pc := 34) (ci := 11) (k := 3) (C := "CricketHay") (T := F_11) (N := 13) (v := .ref 37) (fun s => Std.k s (lc hn rfl) kq_0) rfl (Nat.le_of_ble_eq_true rfl) rfl w_425 (fun s => vr rfl (Std.r s (lc hn rfl) rq_0_3)) d_H_free_34 ?_
      refine r_cVv (pc := 37) (T := F_2) (N := 2) (st := []) (ok_Choir_tune hn cq5 kcq5 37 kq_37 hq3) (fun s => Std.k s (lc hn rfl) kq_51) rfl w_668 w_6 w_665 w_666 w_667 hy_Choir_tune ⟨Nat.le_of_ble_eq_true rfl, Nat.le_of_ble_eq_true rfl⟩ ⟨Nat.le_of_ble_eq_true rfl, Nat.le_of_ble_eq_true rfl⟩ rfl (Nat.le_of_ble_eq_true rfl) d_H_free_37 (fun hq6 => ?_)
      refine r_aload_n (pc := 40) (i := 0) d_H_free_40 rfl rfl ?_
      refine r_getf (pc := 41) (ci := 11) (k := 6) (C := "CricketHay") (T := F_11) (N := 13) (v := .ref 53) (fun s => Std.k s (lc hn rfl) kq_0) rfl (Nat.le_of_ble_eq_true rfl) rfl w_428 (fun s => vr rfl (Std.r s (lc hn rfl) rq_0_6)) d_H_free_41 ?_
      refine r_aload_n (pc := 44) (i := 0) d_H_free_44 rfl rfl ?_
      refine r_getf (pc := 45) (ci := 11) (k := 3) (C := "CricketHay") (T := F_11) (N := 13) (v := .ref 37) (fun s => Std.k s (lc hn rfl) kq_0) rfl (Nat.le_of_ble_eq_true rfl) rfl w_425 (fun s => vr rfl (Std.r s (lc hn rfl) rq_0_3)) d_H_free_45 ?_
      refine r_cVv (pc := 48) (T := F_0) (N := 3) (st := []) (ok_Acts_keep hn 37 kq_37 hq6) (fun s => Std.k s (lc hn rfl) kq_53) rfl w_754 w_7 w_751 w_752 w_753 hy_Acts_keep ⟨Nat.le_of_ble_eq_true rfl, Nat.le_of_ble_eq_true rfl⟩ ⟨Nat.le_of_ble_eq_true rfl, Nat.le_of_ble_eq_true rfl⟩ rfl (Nat.le_of_ble_eq_true rfl) d_H_free_48 (fun hq7 => ?_)
      refine r_aload_n (pc := 51) (i := 0) d_H_free_51 rfl rfl ?_
      refine r_getf (pc := 52) (ci := 11) (k := 3) (C := "CricketHay") (T := F_11) (N := 13) (v := .ref 37) (fun s => Std.k s (lc hn rfl) kq_0) rfl (Nat.le_of_ble_eq_true rfl) rfl w_425 (fun s => vr rfl (Std.r s (lc hn rfl) rq_0_3)) d_H_free_52 ?_
      refine r_getf (pc := 55) (ci := 10) (k := 5) (C := "CricketHay$Yard") (T := F_10) (N := 10) (v := .ref 43) (fun s => Std.k s (lc hn rfl) kq_37) rfl (Nat.le_of_ble_eq_true rfl) rfl w_226 (fun s => vr rfl (Std.r s (lc hn rfl) rq_37_5)) d_H_free_55 ?_
      refine r_iload_n (pc := 58) (i := 1) d_H_free_58 rfl rfl ?_
      refine r_iconst (pc := 59) (v := 1) d_H_free_59 (by rfl) ?_
      refine r_gx (fun zq8 => ?_)
      refine r_iast (pc := 60) (n := 6) (i0 := (ix a1)) (fun s => Std.k s (lc hn rfl) kq_43) zq8 rfl (fun s => Std.sI s _ _ _) d_H_free_60 ?_
      refine r_ltH (fun hq9 => ?_)
      refine r_aload_n (pc := 61) (i := 0) d_H_free_61 rfl rfl ?_
      refine r_getf (pc := 62) (ci := 11) (k := 5) (C := "CricketHay") (T := F_11) (N := 13) (v := .ref 51) (fun s => Std.k s (lc hn rfl) kq_0) rfl (Nat.le_of_ble_eq_true rfl) rfl w_427 (fun s => vr rfl (Std.r s (lc hn rfl) rq_0_5)) d_H_free_62 ?_
      refine r_getf (pc := 65) (ci := 2) (k := 0) (C := "CricketHay$Choir") (T := F_2) (N := 2) (v := .ref 52) (fun s => Std.k s (lc hn rfl) kq_51) rfl (Nat.le_of_ble_eq_true rfl) rfl w_267 (fun s => vr rfl (Std.r s (lc hn rfl) rq_51_0)) d_H_free_65 ?_
      refine r_iload_n (pc := 68) (i := 1) d_H_free_68 rfl rfl ?_
      refine r_gx (fun zq10 => ?_)
      refine r_iald (pc := 69) (n := 6) (i0 := (ix a1)) (fun s => Std.k s (lc hn rfl) kq_52) zq10 rfl d_H_free_69 ?_
      exact r_iret (pc := 70) rfl d_H_free_70
    · refine r_iconst (pc := 23) (v := -1) d_H_free_23 (by rfl) ?_
      exact r_iret (pc := 24) rfl d_H_free_24

def f_JArrays_fill_l5  (a0 : Nat) (a1 : Int32)  : Nat → Int32 → Int32 → AH → Option AH
  | 0, _, _, _ => none
  | n + 1, x2, x3, h =>
    if x3 ≤ x2 then
      some h
    else
      gk a0 0 fun nq1 =>
      gx x2 nq1 <|
      lt (sI h a0 (ix x2) a1) fun hq3 =>
      lt (x2 + (1 : Int32)) fun xq4 =>
      f_JArrays_fill_l5 a0 a1 n xq4 x3 hq3
set_option maxHeartbeats 2000000 in
theorem o_JArrays_fill_l5 {G : AE} {n : Nat} (hn : NN ≤ n)  {a0 : Nat} {a1 : Int32}   : ∀ (n0 : Nat) (x2 : Int32) (x3 : Int32) (h : AH), AJ G n y_JArrays_fill (1) φV 5 [some (.ref a0), some (.int a1), some (.int x2), some (.int x3)] [] h (f_JArrays_fill_l5 a0 a1 n0 x2 x3 h) := by
  intro n0
  induction n0 with
  | zero => intros; exact r_none
  | succ n0 ih =>
    intro x2 x3 h
    rw [f_JArrays_fill_l5]
    refine r_iload_n (pc := 5) (i := 2) d_JArrays_fill_5 rfl rfl ?_
    refine r_iload_n (pc := 6) (i := 3) d_JArrays_fill_6 rfl rfl ?_
    refine r_icmp_ge (pc := 7) (tgt := 20) d_JArrays_fill_7 (by rfl) ?_ ?_
    · exact r_vret (pc := 20) rfl d_JArrays_fill_20
    · refine r_aload_n (pc := 10) (i := 0) d_JArrays_fill_10 rfl rfl ?_
      refine r_iload_n (pc := 11) (i := 2) d_JArrays_fill_11 rfl rfl ?_
      refine r_iload_n (pc := 12) (i := 1) d_JArrays_fill_12 rfl rfl ?_
      refine r_gk (fun nq1 knq1 => ?_)
      refine r_gx (fun zq2 => ?_)
      refine r_iast (pc := 13) (n := nq1) (i0 := (ix x2)) (fun s => Std.k s (Nat.lt_of_lt_of_le (kd_ar knq1 (by decide)) hn) knq1) zq2 rfl (fun s => Std.sI s _ _ _) d_JArrays_fill_13 ?_
      refine r_ltH (fun hq3 => ?_)
      refine r_ltE (fun xq4 exq4 => ?_)
      refine r_iinc (pc := 14) (v := xq4) (lv1 := [some (.ref a0), some (.int a1), some (.int xq4), some (.int x3)]) d_JArrays_fill_14 rfl exq4.symm (Nat.le_of_ble_eq_true rfl) rfl ?_
      refine r_goto (pc := 17) (tgt := 5) d_JArrays_fill_17 (by rfl) ?_
      exact r_wk (ih xq4 x3 hq3) ⟨rfl, ⟨rfl, ⟨rfl, ⟨rfl, trivial⟩⟩⟩⟩
def f_JArrays_fill  (a0 : Nat) (a1 : Int32) (h : AH) : Option AH :=
  gk a0 0 fun nq1 =>
  lt (nI nq1) fun xq2 =>
  f_JArrays_fill_l5 a0 a1 FU (0 : Int32) xq2 h
set_option maxHeartbeats 2000000 in
theorem ok_JArrays_fill {G : AE} {n : Nat} (hn : NN ≤ n)  (a0 : Nat) (a1 : Int32) (h : AH) : OK G n y_JArrays_fill (1) φV [.ref a0, .int a1] h (f_JArrays_fill a0 a1 h) := by
  refine ok_of (y := y_JArrays_fill) (lv0 := [some (.ref a0), some (.int a1), none, none]) (by decide +kernel) (Nat.le_of_ble_eq_true rfl) ⟨rfl, ⟨rfl, trivial⟩⟩ ?_
  rw [f_JArrays_fill]
  refine r_iconst (pc := 0) (v := 0) d_JArrays_fill_0 (by rfl) ?_
  refine r_istore_n (pc := 1) (i := 2) (lv1 := [some (.ref a0), some (.int a1), some (.int (0 : Int32)), none]) d_JArrays_fill_1 rfl (Nat.le_of_ble_eq_true rfl) rfl ?_
  refine r_aload_n (pc := 2) (i := 0) d_JArrays_fill_2 rfl rfl ?_
  refine r_gk (fun nq1 knq1 => ?_)
  refine r_alen (pc := 3) (n := nq1) (fun s => Std.k s (Nat.lt_of_lt_of_le (kd_ar knq1 (by decide)) hn) knq1) d_JArrays_fill_3 ?_
  refine r_ltI (fun xq2 => ?_)
  refine r_istore_n (pc := 4) (i := 3) (lv1 := [some (.ref a0), some (.int a1), some (.int (0 : Int32)), some (.int xq2)]) d_JArrays_fill_4 rfl (Nat.le_of_ble_eq_true rfl) rfl ?_
  exact r_wk (o_JArrays_fill_l5 hn FU (0 : Int32) xq2 h) ⟨rfl, ⟨rfl, ⟨rfl, ⟨rfl, trivial⟩⟩⟩⟩

def f_Yard_eat_l2  (t : Nat) (a1 : Nat)  : Nat → Int32 → AH → Option AH
  | 0, _, _ => none
  | n + 1, x2, h =>
    if (hI h a1 11) ≤ x2 then
      some h
    else
      gx x2 6 <|
      gx x2 6 <|
      lt (mn (hI h (t + 2) (ix x2)) (hI h (a1 + 8) (ix x2))) fun xq3 =>
      gx x2 6 <|
      gx x2 6 <|
      lt (sI h (t + 2) (ix x2) ((hI h (t + 2) (ix x2)) - xq3)) fun hq6 =>
      gx x2 6 <|
      gx x2 6 <|
      gx x2 6 <|
      lt (sI hq6 (t + 3) (ix x2) ((hI hq6 (t + 3) (ix x2)) + ((hI hq6 (a1 + 8) (ix x2)) - xq3))) fun hq10 =>
      gx x2 6 <|
      gx x2 6 <|
      lt (sI hq10 (t + 4) (ix x2) (mn (99 : Int32) ((hI hq10 (t + 4) (ix x2)) + (1 : Int32)))) fun hq13 =>
      lt (x2 + (1 : Int32)) fun xq14 =>
      f_Yard_eat_l2 t a1 n xq14 hq13
set_option maxHeartbeats 2000000 in
theorem o_Yard_eat_l2 {G : AE} {n : Nat} (hn : NN ≤ n)  {t : Nat} {a1 : Nat} (ht : kdF t = .inr 10) (ha1 : kdF a1 = .inr 7)  : ∀ (n0 : Nat) (x2 : Int32) (h : AH), AJ G n y_Yard_eat (2) φV 2 [some (.ref t), some (.ref a1), some (.int x2), none] [] h (f_Yard_eat_l2 t a1 n0 x2 h) := by
  intro n0
  induction n0 with
  | zero => intros; exact r_none
  | succ n0 ih =>
    intro x2 h
    rw [f_Yard_eat_l2]
    refine r_iload_n (pc := 2) (i := 2) d_Yard_eat_2 rfl rfl ?_
    refine r_aload_n (pc := 3) (i := 1) d_Yard_eat_3 rfl rfl ?_
    refine r_getf (pc := 4) (ci := 7) (k := 11) (C := "CricketHay$Market") (T := F_7) (N := 16) (v := .int (hI h a1 11)) (fun s => Std.k s (ltn (cm hn) (kl_M ha1)) ha1) rfl (Nat.le_of_ble_eq_true rfl) rfl w_156 (fun _ => rfl) d_Yard_eat_4 ?_
    refine r_icmp_ge (pc := 7) (tgt := 78) d_Yard_eat_7 (by rfl) ?_ ?_
    · exact r_vret (pc := 78) rfl d_Yard_eat_78
    · refine r_aload_n (pc := 10) (i := 0) d_Yard_eat_10 rfl rfl ?_
      refine r_getf (pc := 11) (ci := 10) (k := 1) (C := "CricketHay$Yard") (T := F_10) (N := 10) (v := .ref (t + 2)) (fun s => Std.k s (ltn (cm hn) (kl_Y ht)) ht) rfl (Nat.le_of_ble_eq_true rfl) rfl w_213 (fun s => vr rfl (Std.r s (ltn (cm hn) (kl_Y ht)) (rr_Y_1 ht))) d_Yard_eat_11 ?_
      refine r_iload_n (pc := 14) (i := 2) d_Yard_eat_14 rfl rfl ?_
      refine r_gx (fun zq1 => ?_)
      refine r_iald (pc := 15) (n := 6) (i0 := (ix x2)) (fun s => Std.k s (ltn (cm hn) (kj_Y_1 ht)) (kk_Y_1 ht)) zq1 rfl d_Yard_eat_15 ?_
      refine r_aload_n (pc := 16) (i := 1) d_Yard_eat_16 rfl rfl ?_
      refine r_getf (pc := 17) (ci := 7) (k := 7) (C := "CricketHay$Market") (T := F_7) (N := 16) (v := .ref (a1 + 8)) (fun s => Std.k s (ltn (cm hn) (kl_M ha1)) ha1) rfl (Nat.le_of_ble_eq_true rfl) rfl w_141 (fun s => vr rfl (Std.r s (ltn (cm hn) (kl_M ha1)) (rr_M_7 ha1))) d_Yard_eat_17 ?_
      refine r_iload_n (pc := 20) (i := 2) d_Yard_eat_20 rfl rfl ?_
      refine r_gx (fun zq2 => ?_)
      refine r_iald (pc := 21) (n := 6) (i0 := (ix x2)) (fun s => Std.k s (ltn (cm hn) (kj_M_7 ha1)) (kk_M_7 ha1)) zq2 rfl d_Yard_eat_21 ?_
      refine r_mmin (pc := 22) w_787 w_695 w_18 w_696 (Nat.le_of_ble_eq_true rfl) (Nat.le_of_ble_eq_true rfl) ⟨Nat.le_of_ble_eq_true rfl, Nat.le_of_ble_eq_true rfl⟩ d_Yard_eat_22 ?_
      refine r_ltI (fun xq3 => ?_)
      refine r_istore_n (pc := 25) (i := 3) (lv1 := [some (.ref t), some (.ref a1), some (.int x2), some (.int xq3)]) d_Yard_eat_25 rfl (Nat.le_of_ble_eq_true rfl) rfl ?_
      refine r_aload_n (pc := 26) (i := 0) d_Yard_eat_26 rfl rfl ?_
      refine r_getf (pc := 27) (ci := 10) (k := 1) (C := "CricketHay$Yard") (T := F_10) (N := 10) (v := .ref (t + 2)) (fun s => Std.k s (ltn (cm hn) (kl_Y ht)) ht) rfl (Nat.le_of_ble_eq_true rfl) rfl w_213 (fun s => vr rfl (Std.r s (ltn (cm hn) (kl_Y ht)) (rr_Y_1 ht))) d_Yard_eat_27 ?_
      refine r_iload_n (pc := 30) (i := 2) d_Yard_eat_30 rfl rfl ?_
      refine r_dup2 (pc := 31) d_Yard_eat_31 rfl rfl ?_
      refine r_gx (fun zq4 => ?_)
      refine r_iald (pc := 32) (n := 6) (i0 := (ix x2)) (fun s => Std.k s (ltn (cm hn) (kj_Y_1 ht)) (kk_Y_1 ht)) zq4 rfl d_Yard_eat_32 ?_
      refine r_iload_n (pc := 33) (i := 3) d_Yard_eat_33 rfl rfl ?_
      refine r_isub (pc := 34) d_Yard_eat_34 ?_
      refine r_gx (fun zq5 => ?_)
      refine r_iast (pc := 35) (n := 6) (i0 := (ix x2)) (fun s => Std.k s (ltn (cm hn) (kj_Y_1 ht)) (kk_Y_1 ht)) zq5 rfl (fun s => Std.sI s _ _ _) d_Yard_eat_35 ?_
      refine r_ltH (fun hq6 => ?_)
      refine r_aload_n (pc := 36) (i := 0) d_Yard_eat_36 rfl rfl ?_
      refine r_getf (pc := 37) (ci := 10) (k := 2) (C := "CricketHay$Yard") (T := F_10) (N := 10) (v := .ref (t + 3)) (fun s => Std.k s (ltn (cm hn) (kl_Y ht)) ht) rfl (Nat.le_of_ble_eq_true rfl) rfl w_216 (fun s => vr rfl (Std.r s (ltn (cm hn) (kl_Y ht)) (rr_Y_2 ht))) d_Yard_eat_37 ?_
      refine r_iload_n (pc := 40) (i := 2) d_Yard_eat_40 rfl rfl ?_
      refine r_dup2 (pc := 41) d_Yard_eat_41 rfl rfl ?_
      refine r_gx (fun zq7 => ?_)
      refine r_iald (pc := 42) (n := 6) (i0 := (ix x2)) (fun s => Std.k s (ltn (cm hn) (kj_Y_2 ht)) (kk_Y_2 ht)) zq7 rfl d_Yard_eat_42 ?_
      refine r_aload_n (pc := 43) (i := 1) d_Yard_eat_43 rfl rfl ?_
      refine r_getf (pc := 44) (ci := 7) (k := 7) (C := "CricketHay$Market") (T := F_7) (N := 16) (v := .ref (a1 + 8)) (fun s => Std.k s (ltn (cm hn) (kl_M ha1)) ha1) rfl (Nat.le_of_ble_eq_true rfl) rfl w_141 (fun s => vr rfl (Std.r s (ltn (cm hn) (kl_M ha1)) (rr_M_7 ha1))) d_Yard_eat_44 ?_
      refine r_iload_n (pc := 47) (i := 2) d_Yard_eat_47 rfl rfl ?_
      refine r_gx (fun zq8 => ?_)
      refine r_iald (pc := 48) (n := 6) (i0 := (ix x2)) (fun s => Std.k s (ltn (cm hn) (kj_M_7 ha1)) (kk_M_7 ha1)) zq8 rfl d_Yard_eat_48 ?_
      refine r_iload_n (pc := 49) (i := 3) d_Yard_eat_49 rfl rfl ?_
      refine r_isub (pc := 50) d_Yard_eat_50 ?_
      refine r_iadd (pc := 51) d_Yard_eat_51 ?_
      refine r_gx (fun zq9 => ?_)
      refine r_iast (pc := 52) (n := 6) (i0 := (ix x2)) (fun s => Std.k s (ltn (cm hn) (kj_Y_2 ht)) (kk_Y_2 ht)) zq9 rfl (fun s => Std.sI s _ _ _) d_Yard_eat_52 ?_
      refine r_ltH (fun hq10 => ?_)
      refine r_aload_n (pc := 53) (i := 0) d_Yard_eat_53 rfl rfl ?_
      refine r_getf (pc := 54) (ci := 10) (k := 3) (C := "CricketHay$Yard") (T := F_10) (N := 10) (v := .ref (t + 4)) (fun s => Std.k s (ltn (cm hn) (kl_Y ht)) ht) rfl (Nat.le_of_ble_eq_true rfl) rfl w_218 (fun s => vr rfl (Std.r s (ltn (cm hn) (kl_Y ht)) (rr_Y_3 ht))) d_Yard_eat_54 ?_
      refine r_iload_n (pc := 57) (i := 2) d_Yard_eat_57 rfl rfl ?_
      refine r_bipush (pc := 58) (v := 99) d_Yard_eat_58 (by rfl) ?_
      refine r_aload_n (pc := 60) (i := 0) d_Yard_eat_60 rfl rfl ?_
      refine r_getf (pc := 61) (ci := 10) (k := 3) (C := "CricketHay$Yard") (T := F_10) (N := 10) (v := .ref (t + 4)) (fun s => Std.k s (ltn (cm hn) (kl_Y ht)) ht) rfl (Nat.le_of_ble_eq_true rfl) rfl w_218 (fun s => vr rfl (Std.r s (ltn (cm hn) (kl_Y ht)) (rr_Y_3 ht))) d_Yard_eat_61 ?_
      refine r_iload_n (pc := 64) (i := 2) d_Yard_eat_64 rfl rfl ?_
      refine r_gx (fun zq11 => ?_)
      refine r_iald (pc := 65) (n := 6) (i0 := (ix x2)) (fun s => Std.k s (ltn (cm hn) (kj_Y_3 ht)) (kk_Y_3 ht)) zq11 rfl d_Yard_eat_65 ?_
      refine r_iconst (pc := 66) (v := 1) d_Yard_eat_66 (by rfl) ?_
      refine r_iadd (pc := 67) d_Yard_eat_67 ?_
      refine r_mmin (pc := 68) w_787 w_695 w_18 w_696 (Nat.le_of_ble_eq_true rfl) (Nat.le_of_ble_eq_true rfl) ⟨Nat.le_of_ble_eq_true rfl, Nat.le_of_ble_eq_true rfl⟩ d_Yard_eat_68 ?_
      refine r_gx (fun zq12 => ?_)
      refine r_iast (pc := 71) (n := 6) (i0 := (ix x2)) (fun s => Std.k s (ltn (cm hn) (kj_Y_3 ht)) (kk_Y_3 ht)) zq12 rfl (fun s => Std.sI s _ _ _) d_Yard_eat_71 ?_
      refine r_ltH (fun hq13 => ?_)
      refine r_ltE (fun xq14 exq14 => ?_)
      refine r_iinc (pc := 72) (v := xq14) (lv1 := [some (.ref t), some (.ref a1), some (.int xq14), some (.int xq3)]) d_Yard_eat_72 rfl exq14.symm (Nat.le_of_ble_eq_true rfl) rfl ?_
      refine r_goto (pc := 75) (tgt := 2) d_Yard_eat_75 (by rfl) ?_
      exact r_wk (ih xq14 hq13) ⟨rfl, ⟨rfl, ⟨rfl, trivial⟩⟩⟩
def f_Yard_eat  (t : Nat) (a1 : Nat) (h : AH) : Option AH :=
  f_Yard_eat_l2 t a1 FU (0 : Int32) h
set_option maxHeartbeats 2000000 in
theorem ok_Yard_eat {G : AE} {n : Nat} (hn : NN ≤ n)  (t : Nat) (ht : kdF t = .inr 10) (a1 : Nat) (ha1 : kdF a1 = .inr 7) (h : AH) : OK G n y_Yard_eat (2) φV [.ref t, .ref a1] h (f_Yard_eat t a1 h) := by
  refine ok_of (y := y_Yard_eat) (lv0 := [some (.ref t), some (.ref a1), none, none]) (by decide +kernel) (Nat.le_of_ble_eq_true rfl) ⟨rfl, ⟨rfl, trivial⟩⟩ ?_
  rw [f_Yard_eat]
  refine r_iconst (pc := 0) (v := 0) d_Yard_eat_0 (by rfl) ?_
  refine r_istore_n (pc := 1) (i := 2) (lv1 := [some (.ref t), some (.ref a1), some (.int (0 : Int32)), none]) d_Yard_eat_1 rfl (Nat.le_of_ble_eq_true rfl) rfl ?_
  exact r_wk (o_Yard_eat_l2 hn ht ha1 FU (0 : Int32) h) ⟨rfl, ⟨rfl, ⟨rfl, trivial⟩⟩⟩

def f_Yard_pass2_b36  (t : Nat) (a1 : Nat) (a2 : Int32)   (h : AH) : Option AH :=
  bV (f_JArrays_fill (t + 5) (0 : Int32) h) fun hq1 =>
  lt (sI hq1 t 7 ((hI hq1 t 7) + (1 : Int32))) fun hq2 =>
  if (hI hq2 t 7) ≤ (23 : Int32) then
    some hq2
  else
    lt (sI hq2 t 7 (0 : Int32)) fun hq3 =>
    lt (sI hq3 t 8 ((hI hq3 t 8) + (1 : Int32))) fun hq4 =>
    bV (f_Yard_eat t a1 hq4) fun hq5 =>
    some hq5
set_option maxHeartbeats 2000000 in
theorem o_Yard_pass2_b36 {G : AE} {n : Nat} (hn : NN ≤ n)  {t : Nat} {a1 : Nat} {a2 : Int32} (ht : kdF t = .inr 10) (ha1 : kdF a1 = .inr 7)  : ∀  (h : AH), AJ G n y_Yard_pass2 (3) φV 36 [some (.ref t), some (.ref a1), none] [] h (f_Yard_pass2_b36 t a1 a2 h) := by
  intro  h
  rw [f_Yard_pass2_b36]
  refine r_aload_n (pc := 36) (i := 0) d_Yard_pass2_36 rfl rfl ?_
  refine r_getf (pc := 37) (ci := 10) (k := 4) (C := "CricketHay$Yard") (T := F_10) (N := 10) (v := .ref (t + 5)) (fun s => Std.k s (ltn (cm hn) (kl_Y ht)) ht) rfl (Nat.le_of_ble_eq_true rfl) rfl w_221 (fun s => vr rfl (Std.r s (ltn (cm hn) (kl_Y ht)) (rr_Y_4 ht))) d_Yard_pass2_37 ?_
  refine r_iconst (pc := 40) (v := 0) d_Yard_pass2_40 (by rfl) ?_
  refine r_cSv (pc := 41) (st := []) (ok_JArrays_fill hn (t + 5) (0 : Int32) h) w_790 w_20 w_788 w_789 hy_JArrays_fill ⟨Nat.le_of_ble_eq_true rfl, Nat.le_of_ble_eq_true rfl⟩ ⟨Nat.le_of_ble_eq_true rfl, Nat.le_of_ble_eq_true rfl⟩ rfl (Nat.le_of_ble_eq_true rfl) d_Yard_pass2_41 (fun hq1 => ?_)
  refine r_aload_n (pc := 44) (i := 0) d_Yard_pass2_44 rfl rfl ?_
  refine r_dup (pc := 45) d_Yard_pass2_45 rfl ?_
  refine r_getf (pc := 46) (ci := 10) (k := 7) (C := "CricketHay$Yard") (T := F_10) (N := 10) (v := .int (hI hq1 t 7)) (fun s => Std.k s (ltn (cm hn) (kl_Y ht)) ht) rfl (Nat.le_of_ble_eq_true rfl) rfl w_229 (fun _ => rfl) d_Yard_pass2_46 ?_
  refine r_iconst (pc := 49) (v := 1) d_Yard_pass2_49 (by rfl) ?_
  refine r_iadd (pc := 50) d_Yard_pass2_50 ?_
  refine r_putI (pc := 51) (ci := 10) (k := 7) (C := "CricketHay$Yard") (T := F_10) (N := 10) (fun s => Std.k s (ltn (cm hn) (kl_Y ht)) ht) rfl (Nat.le_of_ble_eq_true rfl) rfl rfl w_229 (fun _ _ => rfl) (fun _ => rfl) (fun _ => rfl) (fun s => Std.sI s _ _ _) d_Yard_pass2_51 ?_
  refine r_ltH (fun hq2 => ?_)
  refine r_aload_n (pc := 54) (i := 0) d_Yard_pass2_54 rfl rfl ?_
  refine r_getf (pc := 55) (ci := 10) (k := 7) (C := "CricketHay$Yard") (T := F_10) (N := 10) (v := .int (hI hq2 t 7)) (fun s => Std.k s (ltn (cm hn) (kl_Y ht)) ht) rfl (Nat.le_of_ble_eq_true rfl) rfl w_229 (fun _ => rfl) d_Yard_pass2_55 ?_
  refine r_bipush (pc := 58) (v := 23) d_Yard_pass2_58 (by rfl) ?_
  refine r_icmp_le (pc := 60) (tgt := 83) d_Yard_pass2_60 (by rfl) ?_ ?_
  · exact r_vret (pc := 83) rfl d_Yard_pass2_83
  · refine r_aload_n (pc := 63) (i := 0) d_Yard_pass2_63 rfl rfl ?_
    refine r_iconst (pc := 64) (v := 0) d_Yard_pass2_64 (by rfl) ?_
    refine r_putI (pc := 65) (ci := 10) (k := 7) (C := "CricketHay$Yard") (T := F_10) (N := 10) (fun s => Std.k s (ltn (cm hn) (kl_Y ht)) ht) rfl (Nat.le_of_ble_eq_true rfl) rfl rfl w_229 (fun _ _ => rfl) (fun _ => rfl) (fun _ => rfl) (fun s => Std.sI s _ _ _) d_Yard_pass2_65 ?_
    refine r_ltH (fun hq3 => ?_)
    refine r_aload_n (pc := 68) (i := 0) d_Yard_pass2_68 rfl rfl ?_
    refine r_dup (pc := 69) d_Yard_pass2_69 rfl ?_
    refine r_getf (pc := 70) (ci := 10) (k := 8) (C := "CricketHay$Yard") (T := F_10) (N := 10) (v := .int (hI hq3 t 8)) (fun s => Std.k s (ltn (cm hn) (kl_Y ht)) ht) rfl (Nat.le_of_ble_eq_true rfl) rfl w_233 (fun _ => rfl) d_Yard_pass2_70 ?_
    refine r_iconst (pc := 73) (v := 1) d_Yard_pass2_73 (by rfl) ?_
    refine r_iadd (pc := 74) d_Yard_pass2_74 ?_
    refine r_putI (pc := 75) (ci := 10) (k := 8) (C := "CricketHay$Yard") (T := F_10) (N := 10) (fun s => Std.k s (ltn (cm hn) (kl_Y ht)) ht) rfl (Nat.le_of_ble_eq_true rfl) rfl rfl w_233 (fun _ _ => rfl) (fun _ => rfl) (fun _ => rfl) (fun s => Std.sI s _ _ _) d_Yard_pass2_75 ?_
    refine r_ltH (fun hq4 => ?_)
    refine r_aload_n (pc := 78) (i := 0) d_Yard_pass2_78 rfl rfl ?_
    refine r_aload_n (pc := 79) (i := 1) d_Yard_pass2_79 rfl rfl ?_
    refine r_cVv (pc := 80) (T := F_10) (N := 10) (st := []) (ok_Yard_eat hn t ht a1 ha1 hq4) (fun s => Std.k s (ltn (cm hn) (kl_Y ht)) ht) rfl w_794 w_5 w_791 w_793 ws_26 hy_Yard_eat ⟨Nat.le_of_ble_eq_true rfl, Nat.le_of_ble_eq_true rfl⟩ ⟨Nat.le_of_ble_eq_true rfl, Nat.le_of_ble_eq_true rfl⟩ rfl (Nat.le_of_ble_eq_true rfl) d_Yard_pass2_80 (fun hq5 => ?_)
    exact r_vret (pc := 83) rfl d_Yard_pass2_83
def f_Yard_pass2  (t : Nat) (a1 : Nat) (a2 : Int32) (h : AH) : Option AH :=
  lt (sI h t 6 (mx (0 : Int32) ((hI h t 6) - (1 : Int32)))) fun hq1 =>
  if a2 = 0 then
    f_Yard_pass2_b36 t a1 a2 hq1
  else
    lt (sI hq1 t 6 (mn (40 : Int32) ((hI hq1 t 6) + (hI hq1 a1 13)))) fun hq2 =>
    f_Yard_pass2_b36 t a1 a2 hq2
set_option maxHeartbeats 2000000 in
theorem ok_Yard_pass2 {G : AE} {n : Nat} (hn : NN ≤ n)  (t : Nat) (ht : kdF t = .inr 10) (a1 : Nat) (ha1 : kdF a1 = .inr 7) (a2 : Int32) (h : AH) : OK G n y_Yard_pass2 (3) φV [.ref t, .ref a1, .int a2] h (f_Yard_pass2 t a1 a2 h) := by
  refine ok_of (y := y_Yard_pass2) (lv0 := [some (.ref t), some (.ref a1), some (.int a2)]) (by decide +kernel) (Nat.le_of_ble_eq_true rfl) ⟨rfl, ⟨rfl, ⟨rfl, trivial⟩⟩⟩ ?_
  rw [f_Yard_pass2]
  refine r_aload_n (pc := 0) (i := 0) d_Yard_pass2_0 rfl rfl ?_
  refine r_iconst (pc := 1) (v := 0) d_Yard_pass2_1 (by rfl) ?_
  refine r_aload_n (pc := 2) (i := 0) d_Yard_pass2_2 rfl rfl ?_
  refine r_getf (pc := 3) (ci := 10) (k := 6) (C := "CricketHay$Yard") (T := F_10) (N := 10) (v := .int (hI h t 6)) (fun s => Std.k s (ltn (cm hn) (kl_Y ht)) ht) rfl (Nat.le_of_ble_eq_true rfl) rfl w_227 (fun _ => rfl) d_Yard_pass2_3 ?_
  refine r_iconst (pc := 6) (v := 1) d_Yard_pass2_6 (by rfl) ?_
  refine r_isub (pc := 7) d_Yard_pass2_7 ?_
  refine r_mmax (pc := 8) w_786 w_698 w_18 w_699 (Nat.le_of_ble_eq_true rfl) (Nat.le_of_ble_eq_true rfl) ⟨Nat.le_of_ble_eq_true rfl, Nat.le_of_ble_eq_true rfl⟩ d_Yard_pass2_8 ?_
  refine r_putI (pc := 11) (ci := 10) (k := 6) (C := "CricketHay$Yard") (T := F_10) (N := 10) (fun s => Std.k s (ltn (cm hn) (kl_Y ht)) ht) rfl (Nat.le_of_ble_eq_true rfl) rfl rfl w_227 (fun _ _ => rfl) (fun _ => rfl) (fun _ => rfl) (fun s => Std.sI s _ _ _) d_Yard_pass2_11 ?_
  refine r_ltH (fun hq1 => ?_)
  refine r_iload_n (pc := 14) (i := 2) d_Yard_pass2_14 rfl rfl ?_
  refine r_if_eq (pc := 15) (tgt := 36) d_Yard_pass2_15 (by rfl) ?_ ?_
  · exact r_wk (o_Yard_pass2_b36 hn ht ha1 hq1) ⟨rfl, ⟨rfl, trivial⟩⟩
  · refine r_aload_n (pc := 18) (i := 0) d_Yard_pass2_18 rfl rfl ?_
    refine r_bipush (pc := 19) (v := 40) d_Yard_pass2_19 (by rfl) ?_
    refine r_aload_n (pc := 21) (i := 0) d_Yard_pass2_21 rfl rfl ?_
    refine r_getf (pc := 22) (ci := 10) (k := 6) (C := "CricketHay$Yard") (T := F_10) (N := 10) (v := .int (hI hq1 t 6)) (fun s => Std.k s (ltn (cm hn) (kl_Y ht)) ht) rfl (Nat.le_of_ble_eq_true rfl) rfl w_227 (fun _ => rfl) d_Yard_pass2_22 ?_
    refine r_aload_n (pc := 25) (i := 1) d_Yard_pass2_25 rfl rfl ?_
    refine r_getf (pc := 26) (ci := 7) (k := 13) (C := "CricketHay$Market") (T := F_7) (N := 16) (v := .int (hI hq1 a1 13)) (fun s => Std.k s (ltn (cm hn) (kl_M ha1)) ha1) rfl (Nat.le_of_ble_eq_true rfl) rfl w_163 (fun _ => rfl) d_Yard_pass2_26 ?_
    refine r_iadd (pc := 29) d_Yard_pass2_29 ?_
    refine r_mmin (pc := 30) w_787 w_695 w_18 w_696 (Nat.le_of_ble_eq_true rfl) (Nat.le_of_ble_eq_true rfl) ⟨Nat.le_of_ble_eq_true rfl, Nat.le_of_ble_eq_true rfl⟩ d_Yard_pass2_30 ?_
    refine r_putI (pc := 33) (ci := 10) (k := 6) (C := "CricketHay$Yard") (T := F_10) (N := 10) (fun s => Std.k s (ltn (cm hn) (kl_Y ht)) ht) rfl (Nat.le_of_ble_eq_true rfl) rfl rfl w_227 (fun _ _ => rfl) (fun _ => rfl) (fun _ => rfl) (fun s => Std.sI s _ _ _) d_Yard_pass2_33 ?_
    refine r_ltH (fun hq2 => ?_)
    exact r_wk (o_Yard_pass2_b36 hn ht ha1 hq2) ⟨rfl, ⟨rfl, trivial⟩⟩

def f_Yard_pass1_b40  (t : Nat) (a1 : Nat)  (v2 : Int32) (h : AH) : Option AH :=
  bV (f_Yard_pass2 t a1 v2 h) fun hq1 =>
  some hq1
set_option maxHeartbeats 2000000 in
theorem o_Yard_pass1_b40 {G : AE} {n : Nat} (hn : NN ≤ n)  {t : Nat} {a1 : Nat} (ht : kdF t = .inr 10) (ha1 : kdF a1 = .inr 7)  : ∀ (v2 : Int32) (h : AH), AJ G n y_Yard_pass1 (4) φV 40 [none, none] [.int v2, .ref a1, .ref t] h (f_Yard_pass1_b40 t a1 v2 h) := by
  intro v2 h
  rw [f_Yard_pass1_b40]
  refine r_cVv (pc := 40) (T := F_10) (N := 10) (st := []) (ok_Yard_pass2 hn t ht a1 ha1 v2 h) (fun s => Std.k s (ltn (cm hn) (kl_Y ht)) ht) rfl w_785 w_5 w_782 w_783 w_784 hy_Yard_pass2 ⟨Nat.le_of_ble_eq_true rfl, Nat.le_of_ble_eq_true rfl⟩ ⟨Nat.le_of_ble_eq_true rfl, Nat.le_of_ble_eq_true rfl⟩ rfl (Nat.le_of_ble_eq_true rfl) d_Yard_pass1_40 (fun hq1 => ?_)
  exact r_vret (pc := 43) rfl d_Yard_pass1_43
def f_Yard_pass1  (t : Nat) (a1 : Nat) (h : AH) : Option AH :=
  lt (sI h t 9 ((((hI h t 9) * (137 : Int32)) + (71 : Int32)) - (((hI h t 9) * (137 : Int32)) + (71 : Int32)) / (1000 : Int32) * (1000 : Int32))) fun hq1 =>
  if (hI hq1 a1 12) ≤ ((hI hq1 t 9) - (hI hq1 t 9) / (100 : Int32) * (100 : Int32)) then
    f_Yard_pass1_b40 t a1 (0 : Int32) hq1
  else
    f_Yard_pass1_b40 t a1 (1 : Int32) hq1
set_option maxHeartbeats 2000000 in
theorem ok_Yard_pass1 {G : AE} {n : Nat} (hn : NN ≤ n)  (t : Nat) (ht : kdF t = .inr 10) (a1 : Nat) (ha1 : kdF a1 = .inr 7) (h : AH) : OK G n y_Yard_pass1 (4) φV [.ref t, .ref a1] h (f_Yard_pass1 t a1 h) := by
  refine ok_of (y := y_Yard_pass1) (lv0 := [some (.ref t), some (.ref a1)]) (by decide +kernel) (Nat.le_of_ble_eq_true rfl) ⟨rfl, ⟨rfl, trivial⟩⟩ ?_
  rw [f_Yard_pass1]
  refine r_aload_n (pc := 0) (i := 0) d_Yard_pass1_0 rfl rfl ?_
  refine r_aload_n (pc := 1) (i := 0) d_Yard_pass1_1 rfl rfl ?_
  refine r_getf (pc := 2) (ci := 10) (k := 9) (C := "CricketHay$Yard") (T := F_10) (N := 10) (v := .int (hI h t 9)) (fun s => Std.k s (ltn (cm hn) (kl_Y ht)) ht) rfl (Nat.le_of_ble_eq_true rfl) rfl w_237 (fun _ => rfl) d_Yard_pass1_2 ?_
  refine r_sipush (pc := 5) (v := 137) d_Yard_pass1_5 (by rfl) ?_
  refine r_imul (pc := 8) d_Yard_pass1_8 ?_
  refine r_bipush (pc := 9) (v := 71) d_Yard_pass1_9 (by rfl) ?_
  refine r_iadd (pc := 11) d_Yard_pass1_11 ?_
  refine r_sipush (pc := 12) (v := 1000) d_Yard_pass1_12 (by rfl) ?_
  refine r_iremC (pc := 15) (by decide) d_Yard_pass1_15 ?_
  refine r_putI (pc := 16) (ci := 10) (k := 9) (C := "CricketHay$Yard") (T := F_10) (N := 10) (fun s => Std.k s (ltn (cm hn) (kl_Y ht)) ht) rfl (Nat.le_of_ble_eq_true rfl) rfl rfl w_237 (fun _ _ => rfl) (fun _ => rfl) (fun _ => rfl) (fun s => Std.sI s _ _ _) d_Yard_pass1_16 ?_
  refine r_ltH (fun hq1 => ?_)
  refine r_aload_n (pc := 19) (i := 0) d_Yard_pass1_19 rfl rfl ?_
  refine r_aload_n (pc := 20) (i := 1) d_Yard_pass1_20 rfl rfl ?_
  refine r_aload_n (pc := 21) (i := 0) d_Yard_pass1_21 rfl rfl ?_
  refine r_getf (pc := 22) (ci := 10) (k := 9) (C := "CricketHay$Yard") (T := F_10) (N := 10) (v := .int (hI hq1 t 9)) (fun s => Std.k s (ltn (cm hn) (kl_Y ht)) ht) rfl (Nat.le_of_ble_eq_true rfl) rfl w_237 (fun _ => rfl) d_Yard_pass1_22 ?_
  refine r_bipush (pc := 25) (v := 100) d_Yard_pass1_25 (by rfl) ?_
  refine r_iremC (pc := 27) (by decide) d_Yard_pass1_27 ?_
  refine r_aload_n (pc := 28) (i := 1) d_Yard_pass1_28 rfl rfl ?_
  refine r_getf (pc := 29) (ci := 7) (k := 12) (C := "CricketHay$Market") (T := F_7) (N := 16) (v := .int (hI hq1 a1 12)) (fun s => Std.k s (ltn (cm hn) (kl_M ha1)) ha1) rfl (Nat.le_of_ble_eq_true rfl) rfl w_159 (fun _ => rfl) d_Yard_pass1_29 ?_
  refine r_icmp_ge (pc := 32) (tgt := 39) d_Yard_pass1_32 (by rfl) ?_ ?_
  · refine r_iconst (pc := 39) (v := 0) d_Yard_pass1_39 (by rfl) ?_
    exact r_wk (o_Yard_pass1_b40 hn ht ha1 (0 : Int32) hq1) trivial
  · refine r_iconst (pc := 35) (v := 1) d_Yard_pass1_35 (by rfl) ?_
    refine r_goto (pc := 36) (tgt := 40) d_Yard_pass1_36 (by rfl) ?_
    exact r_wk (o_Yard_pass1_b40 hn ht ha1 (1 : Int32) hq1) trivial

def f_H_hour_b27     (h : AH) : Option (Int32 × AH) :=
  bV (f_Acts_keep 37 h) fun hq1 =>
  gd hq1 0 1 7 fun cq2 =>
  bV (f_Yard_pass1 37 cq2 hq1) fun hq3 =>
  gd hq3 0 1 7 fun cq4 =>
  bI (f_Yard_warmth 37 cq4 hq3) fun rq5 hq6 =>
  some (rq5, hq6)
set_option maxHeartbeats 2000000 in
theorem o_H_hour_b27 {G : AE} {n : Nat} (hn : NN ≤ n)     : ∀  (h : AH), AJ G n y_H_hour (5) φI 27 [some (.ref 0)] [] h (f_H_hour_b27 h) := by
  intro  h
  rw [f_H_hour_b27]
  refine r_aload_n (pc := 27) (i := 0) d_H_hour_27 rfl rfl ?_
  refine r_getf (pc := 28) (ci := 11) (k := 6) (C := "CricketHay") (T := F_11) (N := 13) (v := .ref 53) (fun s => Std.k s (lc hn rfl) kq_0) rfl (Nat.le_of_ble_eq_true rfl) rfl w_428 (fun s => vr rfl (Std.r s (lc hn rfl) rq_0_6)) d_H_hour_28 ?_
  refine r_aload_n (pc := 31) (i := 0) d_H_hour_31 rfl rfl ?_
  refine r_getf (pc := 32) (ci := 11) (k := 3) (C := "CricketHay") (T := F_11) (N := 13) (v := .ref 37) (fun s => Std.k s (lc hn rfl) kq_0) rfl (Nat.le_of_ble_eq_true rfl) rfl w_425 (fun s => vr rfl (Std.r s (lc hn rfl) rq_0_3)) d_H_hour_32 ?_
  refine r_cVv (pc := 35) (T := F_0) (N := 3) (st := []) (ok_Acts_keep hn 37 kq_37 h) (fun s => Std.k s (lc hn rfl) kq_53) rfl w_754 w_7 w_751 w_752 w_753 hy_Acts_keep ⟨Nat.le_of_ble_eq_true rfl, Nat.le_of_ble_eq_true rfl⟩ ⟨Nat.le_of_ble_eq_true rfl, Nat.le_of_ble_eq_true rfl⟩ rfl (Nat.le_of_ble_eq_true rfl) d_H_hour_35 (fun hq1 => ?_)
  refine r_aload_n (pc := 38) (i := 0) d_H_hour_38 rfl rfl ?_
  refine r_getf (pc := 39) (ci := 11) (k := 3) (C := "CricketHay") (T := F_11) (N := 13) (v := .ref 37) (fun s => Std.k s (lc hn rfl) kq_0) rfl (Nat.le_of_ble_eq_true rfl) rfl w_425 (fun s => vr rfl (Std.r s (lc hn rfl) rq_0_3)) d_H_hour_39 ?_
  refine r_aload_n (pc := 42) (i := 0) d_H_hour_42 rfl rfl ?_
  refine r_gd (fun cq2 rcq2 kcq2 => ?_)
  refine r_getf (pc := 43) (ci := 11) (k := 1) (C := "CricketHay") (T := F_11) (N := 13) (v := .ref cq2) (fun s => Std.k s (lc hn rfl) kq_0) rfl (Nat.le_of_ble_eq_true rfl) rfl w_423 (fun _ => vr rfl rcq2) d_H_hour_43 ?_
  refine r_cVv (pc := 46) (T := F_10) (N := 10) (st := []) (ok_Yard_pass1 hn 37 kq_37 cq2 kcq2 hq1) (fun s => Std.k s (lc hn rfl) kq_37) rfl w_781 w_5 w_778 w_779 w_780 hy_Yard_pass1 ⟨Nat.le_of_ble_eq_true rfl, Nat.le_of_ble_eq_true rfl⟩ ⟨Nat.le_of_ble_eq_true rfl, Nat.le_of_ble_eq_true rfl⟩ rfl (Nat.le_of_ble_eq_true rfl) d_H_hour_46 (fun hq3 => ?_)
  refine r_aload_n (pc := 49) (i := 0) d_H_hour_49 rfl rfl ?_
  refine r_getf (pc := 50) (ci := 11) (k := 3) (C := "CricketHay") (T := F_11) (N := 13) (v := .ref 37) (fun s => Std.k s (lc hn rfl) kq_0) rfl (Nat.le_of_ble_eq_true rfl) rfl w_425 (fun s => vr rfl (Std.r s (lc hn rfl) rq_0_3)) d_H_hour_50 ?_
  refine r_aload_n (pc := 53) (i := 0) d_H_hour_53 rfl rfl ?_
  refine r_gd (fun cq4 rcq4 kcq4 => ?_)
  refine r_getf (pc := 54) (ci := 11) (k := 1) (C := "CricketHay") (T := F_11) (N := 13) (v := .ref cq4) (fun s => Std.k s (lc hn rfl) kq_0) rfl (Nat.le_of_ble_eq_true rfl) rfl w_423 (fun _ => vr rfl rcq4) d_H_hour_54 ?_
  refine r_cVi (pc := 57) (T := F_10) (N := 10) (st := []) (ok_Yard_warmth hn 37 kq_37 cq4 kcq4 hq3) (fun s => Std.k s (lc hn rfl) kq_37) rfl w_672 w_5 w_714 w_670 w_671 hy_Yard_warmth ⟨Nat.le_of_ble_eq_true rfl, Nat.le_of_ble_eq_true rfl⟩ ⟨Nat.le_of_ble_eq_true rfl, Nat.le_of_ble_eq_true rfl⟩ rfl (Nat.le_of_ble_eq_true rfl) d_H_hour_57 (fun rq5 hq6 => ?_)
  exact r_iret (pc := 60) rfl d_H_hour_60
def f_H_hour   (h : AH) : Option (Int32 × AH) :=
  if (hI h 37 7) < (23 : Int32) then
    f_H_hour_b27 h
  else
    if (hI h 37 8) < (999 : Int32) then
      f_H_hour_b27 h
    else
      some ((-1 : Int32), h)
set_option maxHeartbeats 2000000 in
theorem ok_H_hour {G : AE} {n : Nat} (hn : NN ≤ n)   (h : AH) : OK G n y_H_hour (5) φI [.ref 0] h (f_H_hour h) := by
  refine ok_of (y := y_H_hour) (lv0 := [some (.ref 0)]) (by decide +kernel) (Nat.le_of_ble_eq_true rfl) ⟨rfl, trivial⟩ ?_
  rw [f_H_hour]
  refine r_aload_n (pc := 0) (i := 0) d_H_hour_0 rfl rfl ?_
  refine r_getf (pc := 1) (ci := 11) (k := 3) (C := "CricketHay") (T := F_11) (N := 13) (v := .ref 37) (fun s => Std.k s (lc hn rfl) kq_0) rfl (Nat.le_of_ble_eq_true rfl) rfl w_425 (fun s => vr rfl (Std.r s (lc hn rfl) rq_0_3)) d_H_hour_1 ?_
  refine r_getf (pc := 4) (ci := 10) (k := 7) (C := "CricketHay$Yard") (T := F_10) (N := 10) (v := .int (hI h 37 7)) (fun s => Std.k s (lc hn rfl) kq_37) rfl (Nat.le_of_ble_eq_true rfl) rfl w_232 (fun _ => rfl) d_H_hour_4 ?_
  refine r_bipush (pc := 7) (v := 23) d_H_hour_7 (by rfl) ?_
  refine r_icmp_lt (pc := 9) (tgt := 27) d_H_hour_9 (by rfl) ?_ ?_
  · exact r_wk (o_H_hour_b27 hn h) ⟨rfl, trivial⟩
  · refine r_aload_n (pc := 12) (i := 0) d_H_hour_12 rfl rfl ?_
    refine r_getf (pc := 13) (ci := 11) (k := 3) (C := "CricketHay") (T := F_11) (N := 13) (v := .ref 37) (fun s => Std.k s (lc hn rfl) kq_0) rfl (Nat.le_of_ble_eq_true rfl) rfl w_425 (fun s => vr rfl (Std.r s (lc hn rfl) rq_0_3)) d_H_hour_13 ?_
    refine r_getf (pc := 16) (ci := 10) (k := 8) (C := "CricketHay$Yard") (T := F_10) (N := 10) (v := .int (hI h 37 8)) (fun s => Std.k s (lc hn rfl) kq_37) rfl (Nat.le_of_ble_eq_true rfl) rfl w_236 (fun _ => rfl) d_H_hour_16 ?_
    refine r_sipush (pc := 19) (v := 999) d_H_hour_19 (by rfl) ?_
    refine r_icmp_lt (pc := 22) (tgt := 27) d_H_hour_22 (by rfl) ?_ ?_
    · exact r_wk (o_H_hour_b27 hn h) ⟨rfl, trivial⟩
    · refine r_iconst (pc := 25) (v := -1) d_H_hour_25 (by rfl) ?_
      exact r_iret (pc := 26) rfl d_H_hour_26

def f_Acts_takeBack  (a1 : Nat) (h : AH) : Option (Int32 × AH) :=
  if 0 < (hI h 53 1) then
    gx (hI h 53 1) 41 <|
    gd h 54 (ix (hI h 53 1)) 10 fun cq2 =>
    bV (f_Yard_copy cq2 a1 h) fun hq3 =>
    lt (sI hq3 53 1 ((hI hq3 53 1) - (1 : Int32))) fun hq4 =>
    lt (sI hq4 53 2 ((hI hq4 53 2) + (1 : Int32))) fun hq5 =>
    gx (hI hq5 53 1) 41 <|
    gd hq5 54 (ix (hI hq5 53 1)) 10 fun cq7 =>
    bV (f_Yard_copy a1 cq7 hq5) fun hq8 =>
    some ((1 : Int32), hq8)
  else
    some ((0 : Int32), h)
set_option maxHeartbeats 2000000 in
theorem ok_Acts_takeBack {G : AE} {n : Nat} (hn : NN ≤ n)  (a1 : Nat) (ha1 : kdF a1 = .inr 10) (h : AH) : OK G n y_Acts_takeBack (3) φI [.ref 53, .ref a1] h (f_Acts_takeBack a1 h) := by
  refine ok_of (y := y_Acts_takeBack) (lv0 := [some (.ref 53), some (.ref a1)]) (by decide +kernel) (Nat.le_of_ble_eq_true rfl) ⟨rfl, ⟨rfl, trivial⟩⟩ ?_
  rw [f_Acts_takeBack]
  refine r_aload_n (pc := 0) (i := 0) d_Acts_takeBack_0 rfl rfl ?_
  refine r_getf (pc := 1) (ci := 0) (k := 1) (C := "CricketHay$Acts") (T := F_0) (N := 3) (v := .int (hI h 53 1)) (fun s => Std.k s (lc hn rfl) kq_53) rfl (Nat.le_of_ble_eq_true rfl) rfl w_284 (fun _ => rfl) d_Acts_takeBack_1 ?_
  refine r_if_gt (pc := 4) (tgt := 9) d_Acts_takeBack_4 (by rfl) ?_ ?_
  · refine r_aload_n (pc := 9) (i := 0) d_Acts_takeBack_9 rfl rfl ?_
    refine r_getf (pc := 10) (ci := 0) (k := 0) (C := "CricketHay$Acts") (T := F_0) (N := 3) (v := .ref 54) (fun s => Std.k s (lc hn rfl) kq_53) rfl (Nat.le_of_ble_eq_true rfl) rfl w_283 (fun s => vr rfl (Std.r s (lc hn rfl) rq_53_0)) d_Acts_takeBack_10 ?_
    refine r_aload_n (pc := 13) (i := 0) d_Acts_takeBack_13 rfl rfl ?_
    refine r_getf (pc := 14) (ci := 0) (k := 1) (C := "CricketHay$Acts") (T := F_0) (N := 3) (v := .int (hI h 53 1)) (fun s => Std.k s (lc hn rfl) kq_53) rfl (Nat.le_of_ble_eq_true rfl) rfl w_284 (fun _ => rfl) d_Acts_takeBack_14 ?_
    refine r_gx (fun zq1 => ?_)
    refine r_gd (fun cq2 rcq2 kcq2 => ?_)
    refine r_aald (pc := 17) (n := 41) (i0 := (ix (hI h 53 1))) (fun s => Std.k s (lc hn rfl) kq_54) zq1 rfl rcq2 d_Acts_takeBack_17 ?_
    refine r_aload_n (pc := 18) (i := 1) d_Acts_takeBack_18 rfl rfl ?_
    refine r_cVv (pc := 19) (T := F_10) (N := 10) (st := []) (ok_Yard_copy hn cq2 kcq2 a1 ha1 h) (fun s => Std.k s (ltn (cm hn) (kl_Y kcq2)) kcq2) rfl w_762 w_5 w_759 w_760 w_761 hy_Yard_copy ⟨Nat.le_of_ble_eq_true rfl, Nat.le_of_ble_eq_true rfl⟩ ⟨Nat.le_of_ble_eq_true rfl, Nat.le_of_ble_eq_true rfl⟩ rfl (Nat.le_of_ble_eq_true rfl) d_Acts_takeBack_19 (fun hq3 => ?_)
    refine r_aload_n (pc := 22) (i := 0) d_Acts_takeBack_22 rfl rfl ?_
    refine r_dup (pc := 23) d_Acts_takeBack_23 rfl ?_
    refine r_getf (pc := 24) (ci := 0) (k := 1) (C := "CricketHay$Acts") (T := F_0) (N := 3) (v := .int (hI hq3 53 1)) (fun s => Std.k s (lc hn rfl) kq_53) rfl (Nat.le_of_ble_eq_true rfl) rfl w_284 (fun _ => rfl) d_Acts_takeBack_24 ?_
    refine r_iconst (pc := 27) (v := 1) d_Acts_takeBack_27 (by rfl) ?_
    refine r_isub (pc := 28) d_Acts_takeBack_28 ?_
    refine r_putI (pc := 29) (ci := 0) (k := 1) (C := "CricketHay$Acts") (T := F_0) (N := 3) (fun s => Std.k s (lc hn rfl) kq_53) rfl (Nat.le_of_ble_eq_true rfl) rfl rfl w_284 (fun _ _ => rfl) (fun _ => rfl) (fun _ => rfl) (fun s => Std.sI s _ _ _) d_Acts_takeBack_29 ?_
    refine r_ltH (fun hq4 => ?_)
    refine r_aload_n (pc := 32) (i := 0) d_Acts_takeBack_32 rfl rfl ?_
    refine r_dup (pc := 33) d_Acts_takeBack_33 rfl ?_
    refine r_getf (pc := 34) (ci := 0) (k := 2) (C := "CricketHay$Acts") (T := F_0) (N := 3) (v := .int (hI hq4 53 2)) (fun s => Std.k s (lc hn rfl) kq_53) rfl (Nat.le_of_ble_eq_true rfl) rfl w_286 (fun _ => rfl) d_Acts_takeBack_34 ?_
    refine r_iconst (pc := 37) (v := 1) d_Acts_takeBack_37 (by rfl) ?_
    refine r_iadd (pc := 38) d_Acts_takeBack_38 ?_
    refine r_putI (pc := 39) (ci := 0) (k := 2) (C := "CricketHay$Acts") (T := F_0) (N := 3) (fun s => Std.k s (lc hn rfl) kq_53) rfl (Nat.le_of_ble_eq_true rfl) rfl rfl w_286 (fun _ _ => rfl) (fun _ => rfl) (fun _ => rfl) (fun s => Std.sI s _ _ _) d_Acts_takeBack_39 ?_
    refine r_ltH (fun hq5 => ?_)
    refine r_aload_n (pc := 42) (i := 1) d_Acts_takeBack_42 rfl rfl ?_
    refine r_aload_n (pc := 43) (i := 0) d_Acts_takeBack_43 rfl rfl ?_
    refine r_getf (pc := 44) (ci := 0) (k := 0) (C := "CricketHay$Acts") (T := F_0) (N := 3) (v := .ref 54) (fun s => Std.k s (lc hn rfl) kq_53) rfl (Nat.le_of_ble_eq_true rfl) rfl w_283 (fun s => vr rfl (Std.r s (lc hn rfl) rq_53_0)) d_Acts_takeBack_44 ?_
    refine r_aload_n (pc := 47) (i := 0) d_Acts_takeBack_47 rfl rfl ?_
    refine r_getf (pc := 48) (ci := 0) (k := 1) (C := "CricketHay$Acts") (T := F_0) (N := 3) (v := .int (hI hq5 53 1)) (fun s => Std.k s (lc hn rfl) kq_53) rfl (Nat.le_of_ble_eq_true rfl) rfl w_284 (fun _ => rfl) d_Acts_takeBack_48 ?_
    refine r_gx (fun zq6 => ?_)
    refine r_gd (fun cq7 rcq7 kcq7 => ?_)
    refine r_aald (pc := 51) (n := 41) (i0 := (ix (hI hq5 53 1))) (fun s => Std.k s (lc hn rfl) kq_54) zq6 rfl rcq7 d_Acts_takeBack_51 ?_
    refine r_cVv (pc := 52) (T := F_10) (N := 10) (st := []) (ok_Yard_copy hn a1 ha1 cq7 kcq7 hq5) (fun s => Std.k s (ltn (cm hn) (kl_Y ha1)) ha1) rfl w_762 w_5 w_759 w_760 w_761 hy_Yard_copy ⟨Nat.le_of_ble_eq_true rfl, Nat.le_of_ble_eq_true rfl⟩ ⟨Nat.le_of_ble_eq_true rfl, Nat.le_of_ble_eq_true rfl⟩ rfl (Nat.le_of_ble_eq_true rfl) d_Acts_takeBack_52 (fun hq8 => ?_)
    refine r_iconst (pc := 55) (v := 1) d_Acts_takeBack_55 (by rfl) ?_
    exact r_zret (pc := 56) rfl rfl d_Acts_takeBack_56
  · refine r_iconst (pc := 7) (v := 0) d_Acts_takeBack_7 (by rfl) ?_
    exact r_zret (pc := 8) rfl rfl d_Acts_takeBack_8

def f_H_undo   (h : AH) : Option (Int32 × AH) :=
  bI (f_Acts_takeBack 37 h) fun rq1 hq2 =>
  gb rq1 <|
  some (rq1, hq2)
set_option maxHeartbeats 2000000 in
theorem ok_H_undo {G : AE} {n : Nat} (hn : NN ≤ n)   (h : AH) : OK G n y_H_undo (4) φI [.ref 0] h (f_H_undo h) := by
  refine ok_of (y := y_H_undo) (lv0 := [some (.ref 0)]) (by decide +kernel) (Nat.le_of_ble_eq_true rfl) ⟨rfl, trivial⟩ ?_
  rw [f_H_undo]
  refine r_aload_n (pc := 0) (i := 0) d_H_undo_0 rfl rfl ?_
  refine r_getf (pc := 1) (ci := 11) (k := 6) (C := "CricketHay") (T := F_11) (N := 13) (v := .ref 53) (fun s => Std.k s (lc hn rfl) kq_0) rfl (Nat.le_of_ble_eq_true rfl) rfl w_428 (fun s => vr rfl (Std.r s (lc hn rfl) rq_0_6)) d_H_undo_1 ?_
  refine r_aload_n (pc := 4) (i := 0) d_H_undo_4 rfl rfl ?_
  refine r_getf (pc := 5) (ci := 11) (k := 3) (C := "CricketHay") (T := F_11) (N := 13) (v := .ref 37) (fun s => Std.k s (lc hn rfl) kq_0) rfl (Nat.le_of_ble_eq_true rfl) rfl w_425 (fun s => vr rfl (Std.r s (lc hn rfl) rq_0_3)) d_H_undo_5 ?_
  refine r_cVi (pc := 8) (T := F_0) (N := 3) (st := []) (ok_Acts_takeBack hn 37 kq_37 h) (fun s => Std.k s (lc hn rfl) kq_53) rfl w_802 w_7 w_799 w_800 w_801 hy_Acts_takeBack ⟨Nat.le_of_ble_eq_true rfl, Nat.le_of_ble_eq_true rfl⟩ ⟨Nat.le_of_ble_eq_true rfl, Nat.le_of_ble_eq_true rfl⟩ rfl (Nat.le_of_ble_eq_true rfl) d_H_undo_8 (fun rq1 hq2 => ?_)
  refine r_gb (fun zq3 => ?_)
  exact r_zret (pc := 11) rfl zq3 d_H_undo_11

def f_Acts_doAgain  (a1 : Nat) (h : AH) : Option (Int32 × AH) :=
  if 0 < (hI h 53 2) then
    lt (sI h 53 1 ((hI h 53 1) + (1 : Int32))) fun hq1 =>
    lt (sI hq1 53 2 ((hI hq1 53 2) - (1 : Int32))) fun hq2 =>
    gx (hI hq2 53 1) 41 <|
    gd hq2 54 (ix (hI hq2 53 1)) 10 fun cq4 =>
    bV (f_Yard_copy a1 cq4 hq2) fun hq5 =>
    some ((1 : Int32), hq5)
  else
    some ((0 : Int32), h)
set_option maxHeartbeats 2000000 in
theorem ok_Acts_doAgain {G : AE} {n : Nat} (hn : NN ≤ n)  (a1 : Nat) (ha1 : kdF a1 = .inr 10) (h : AH) : OK G n y_Acts_doAgain (3) φI [.ref 53, .ref a1] h (f_Acts_doAgain a1 h) := by
  refine ok_of (y := y_Acts_doAgain) (lv0 := [some (.ref 53), some (.ref a1)]) (by decide +kernel) (Nat.le_of_ble_eq_true rfl) ⟨rfl, ⟨rfl, trivial⟩⟩ ?_
  rw [f_Acts_doAgain]
  refine r_aload_n (pc := 0) (i := 0) d_Acts_doAgain_0 rfl rfl ?_
  refine r_getf (pc := 1) (ci := 0) (k := 2) (C := "CricketHay$Acts") (T := F_0) (N := 3) (v := .int (hI h 53 2)) (fun s => Std.k s (lc hn rfl) kq_53) rfl (Nat.le_of_ble_eq_true rfl) rfl w_286 (fun _ => rfl) d_Acts_doAgain_1 ?_
  refine r_if_gt (pc := 4) (tgt := 9) d_Acts_doAgain_4 (by rfl) ?_ ?_
  · refine r_aload_n (pc := 9) (i := 0) d_Acts_doAgain_9 rfl rfl ?_
    refine r_dup (pc := 10) d_Acts_doAgain_10 rfl ?_
    refine r_getf (pc := 11) (ci := 0) (k := 1) (C := "CricketHay$Acts") (T := F_0) (N := 3) (v := .int (hI h 53 1)) (fun s => Std.k s (lc hn rfl) kq_53) rfl (Nat.le_of_ble_eq_true rfl) rfl w_284 (fun _ => rfl) d_Acts_doAgain_11 ?_
    refine r_iconst (pc := 14) (v := 1) d_Acts_doAgain_14 (by rfl) ?_
    refine r_iadd (pc := 15) d_Acts_doAgain_15 ?_
    refine r_putI (pc := 16) (ci := 0) (k := 1) (C := "CricketHay$Acts") (T := F_0) (N := 3) (fun s => Std.k s (lc hn rfl) kq_53) rfl (Nat.le_of_ble_eq_true rfl) rfl rfl w_284 (fun _ _ => rfl) (fun _ => rfl) (fun _ => rfl) (fun s => Std.sI s _ _ _) d_Acts_doAgain_16 ?_
    refine r_ltH (fun hq1 => ?_)
    refine r_aload_n (pc := 19) (i := 0) d_Acts_doAgain_19 rfl rfl ?_
    refine r_dup (pc := 20) d_Acts_doAgain_20 rfl ?_
    refine r_getf (pc := 21) (ci := 0) (k := 2) (C := "CricketHay$Acts") (T := F_0) (N := 3) (v := .int (hI hq1 53 2)) (fun s => Std.k s (lc hn rfl) kq_53) rfl (Nat.le_of_ble_eq_true rfl) rfl w_286 (fun _ => rfl) d_Acts_doAgain_21 ?_
    refine r_iconst (pc := 24) (v := 1) d_Acts_doAgain_24 (by rfl) ?_
    refine r_isub (pc := 25) d_Acts_doAgain_25 ?_
    refine r_putI (pc := 26) (ci := 0) (k := 2) (C := "CricketHay$Acts") (T := F_0) (N := 3) (fun s => Std.k s (lc hn rfl) kq_53) rfl (Nat.le_of_ble_eq_true rfl) rfl rfl w_286 (fun _ _ => rfl) (fun _ => rfl) (fun _ => rfl) (fun s => Std.sI s _ _ _) d_Acts_doAgain_26 ?_
    refine r_ltH (fun hq2 => ?_)
    refine r_aload_n (pc := 29) (i := 1) d_Acts_doAgain_29 rfl rfl ?_
    refine r_aload_n (pc := 30) (i := 0) d_Acts_doAgain_30 rfl rfl ?_
    refine r_getf (pc := 31) (ci := 0) (k := 0) (C := "CricketHay$Acts") (T := F_0) (N := 3) (v := .ref 54) (fun s => Std.k s (lc hn rfl) kq_53) rfl (Nat.le_of_ble_eq_true rfl) rfl w_283 (fun s => vr rfl (Std.r s (lc hn rfl) rq_53_0)) d_Acts_doAgain_31 ?_
    refine r_aload_n (pc := 34) (i := 0) d_Acts_doAgain_34 rfl rfl ?_
    refine r_getf (pc := 35) (ci := 0) (k := 1) (C := "CricketHay$Acts") (T := F_0) (N := 3) (v := .int (hI hq2 53 1)) (fun s => Std.k s (lc hn rfl) kq_53) rfl (Nat.le_of_ble_eq_true rfl) rfl w_284 (fun _ => rfl) d_Acts_doAgain_35 ?_
    refine r_gx (fun zq3 => ?_)
    refine r_gd (fun cq4 rcq4 kcq4 => ?_)
    refine r_aald (pc := 38) (n := 41) (i0 := (ix (hI hq2 53 1))) (fun s => Std.k s (lc hn rfl) kq_54) zq3 rfl rcq4 d_Acts_doAgain_38 ?_
    refine r_cVv (pc := 39) (T := F_10) (N := 10) (st := []) (ok_Yard_copy hn a1 ha1 cq4 kcq4 hq2) (fun s => Std.k s (ltn (cm hn) (kl_Y ha1)) ha1) rfl w_762 w_5 w_759 w_760 w_761 hy_Yard_copy ⟨Nat.le_of_ble_eq_true rfl, Nat.le_of_ble_eq_true rfl⟩ ⟨Nat.le_of_ble_eq_true rfl, Nat.le_of_ble_eq_true rfl⟩ rfl (Nat.le_of_ble_eq_true rfl) d_Acts_doAgain_39 (fun hq5 => ?_)
    refine r_iconst (pc := 42) (v := 1) d_Acts_doAgain_42 (by rfl) ?_
    exact r_zret (pc := 43) rfl rfl d_Acts_doAgain_43
  · refine r_iconst (pc := 7) (v := 0) d_Acts_doAgain_7 (by rfl) ?_
    exact r_zret (pc := 8) rfl rfl d_Acts_doAgain_8

def f_H_redo   (h : AH) : Option (Int32 × AH) :=
  bI (f_Acts_doAgain 37 h) fun rq1 hq2 =>
  gb rq1 <|
  some (rq1, hq2)
set_option maxHeartbeats 2000000 in
theorem ok_H_redo {G : AE} {n : Nat} (hn : NN ≤ n)   (h : AH) : OK G n y_H_redo (4) φI [.ref 0] h (f_H_redo h) := by
  refine ok_of (y := y_H_redo) (lv0 := [some (.ref 0)]) (by decide +kernel) (Nat.le_of_ble_eq_true rfl) ⟨rfl, trivial⟩ ?_
  rw [f_H_redo]
  refine r_aload_n (pc := 0) (i := 0) d_H_redo_0 rfl rfl ?_
  refine r_getf (pc := 1) (ci := 11) (k := 6) (C := "CricketHay") (T := F_11) (N := 13) (v := .ref 53) (fun s => Std.k s (lc hn rfl) kq_0) rfl (Nat.le_of_ble_eq_true rfl) rfl w_428 (fun s => vr rfl (Std.r s (lc hn rfl) rq_0_6)) d_H_redo_1 ?_
  refine r_aload_n (pc := 4) (i := 0) d_H_redo_4 rfl rfl ?_
  refine r_getf (pc := 5) (ci := 11) (k := 3) (C := "CricketHay") (T := F_11) (N := 13) (v := .ref 37) (fun s => Std.k s (lc hn rfl) kq_0) rfl (Nat.le_of_ble_eq_true rfl) rfl w_425 (fun s => vr rfl (Std.r s (lc hn rfl) rq_0_3)) d_H_redo_5 ?_
  refine r_cVi (pc := 8) (T := F_0) (N := 3) (st := []) (ok_Acts_doAgain hn 37 kq_37 h) (fun s => Std.k s (lc hn rfl) kq_53) rfl w_810 w_7 w_807 w_808 w_809 hy_Acts_doAgain ⟨Nat.le_of_ble_eq_true rfl, Nat.le_of_ble_eq_true rfl⟩ ⟨Nat.le_of_ble_eq_true rfl, Nat.le_of_ble_eq_true rfl⟩ rfl (Nat.le_of_ble_eq_true rfl) d_H_redo_8 (fun rq1 hq2 => ?_)
  refine r_gb (fun zq3 => ?_)
  exact r_zret (pc := 11) rfl zq3 d_H_redo_11

def f_H_within  (a0 : Int32) (a1 : Int32) (a2 : Int32) (h : AH) : Option (Int32 × AH) :=
  if a0 < a1 then
    some ((0 : Int32), h)
  else
    if a2 < a0 then
      some ((0 : Int32), h)
    else
      some ((1 : Int32), h)
set_option maxHeartbeats 2000000 in
theorem ok_H_within {G : AE} {n : Nat} (hn : NN ≤ n)  (a0 : Int32) (a1 : Int32) (a2 : Int32) (h : AH) : OK G n y_H_within (1) φI [.int a0, .int a1, .int a2] h (f_H_within a0 a1 a2 h) := by
  refine ok_of (y := y_H_within) (lv0 := [some (.int a0), some (.int a1), some (.int a2)]) (by decide +kernel) (Nat.le_of_ble_eq_true rfl) ⟨rfl, ⟨rfl, ⟨rfl, trivial⟩⟩⟩ ?_
  rw [f_H_within]
  refine r_iload_n (pc := 0) (i := 0) d_H_within_0 rfl rfl ?_
  refine r_iload_n (pc := 1) (i := 1) d_H_within_1 rfl rfl ?_
  refine r_icmp_lt (pc := 2) (tgt := 14) d_H_within_2 (by rfl) ?_ ?_
  · refine r_iconst (pc := 14) (v := 0) d_H_within_14 (by rfl) ?_
    exact r_zret (pc := 15) rfl rfl d_H_within_15
  · refine r_iload_n (pc := 5) (i := 0) d_H_within_5 rfl rfl ?_
    refine r_iload_n (pc := 6) (i := 2) d_H_within_6 rfl rfl ?_
    refine r_icmp_gt (pc := 7) (tgt := 14) d_H_within_7 (by rfl) ?_ ?_
    · refine r_iconst (pc := 14) (v := 0) d_H_within_14 (by rfl) ?_
      exact r_zret (pc := 15) rfl rfl d_H_within_15
    · refine r_iconst (pc := 10) (v := 1) d_H_within_10 (by rfl) ?_
      refine r_goto (pc := 11) (tgt := 15) d_H_within_11 (by rfl) ?_
      exact r_zret (pc := 15) rfl rfl d_H_within_15

def f_H_lookAhead_l13  (a1 : Int32)  : Nat → Int32 → AH → Option AH
  | 0, _, _ => none
  | n + 1, x2, h =>
    if a1 ≤ x2 then
      some h
    else
      gd h 0 1 7 fun cq1 =>
      bV (f_Yard_pass1 44 cq1 h) fun hq2 =>
      lt (x2 + (1 : Int32)) fun xq3 =>
      f_H_lookAhead_l13 a1 n xq3 hq2
set_option maxHeartbeats 2000000 in
theorem o_H_lookAhead_l13 {G : AE} {n : Nat} (hn : NN ≤ n)  {a1 : Int32}   : ∀ (n0 : Nat) (x2 : Int32) (h : AH), AJ G n y_H_lookAhead (5) φV 13 [some (.ref 0), some (.int a1), some (.int x2)] [] h (f_H_lookAhead_l13 a1 n0 x2 h) := by
  intro n0
  induction n0 with
  | zero => intros; exact r_none
  | succ n0 ih =>
    intro x2 h
    rw [f_H_lookAhead_l13]
    refine r_iload_n (pc := 13) (i := 2) d_H_lookAhead_13 rfl rfl ?_
    refine r_iload_n (pc := 14) (i := 1) d_H_lookAhead_14 rfl rfl ?_
    refine r_icmp_ge (pc := 15) (tgt := 35) d_H_lookAhead_15 (by rfl) ?_ ?_
    · exact r_vret (pc := 35) rfl d_H_lookAhead_35
    · refine r_aload_n (pc := 18) (i := 0) d_H_lookAhead_18 rfl rfl ?_
      refine r_getf (pc := 19) (ci := 11) (k := 4) (C := "CricketHay") (T := F_11) (N := 13) (v := .ref 44) (fun s => Std.k s (lc hn rfl) kq_0) rfl (Nat.le_of_ble_eq_true rfl) rfl w_426 (fun s => vr rfl (Std.r s (lc hn rfl) rq_0_4)) d_H_lookAhead_19 ?_
      refine r_aload_n (pc := 22) (i := 0) d_H_lookAhead_22 rfl rfl ?_
      refine r_gd (fun cq1 rcq1 kcq1 => ?_)
      refine r_getf (pc := 23) (ci := 11) (k := 1) (C := "CricketHay") (T := F_11) (N := 13) (v := .ref cq1) (fun s => Std.k s (lc hn rfl) kq_0) rfl (Nat.le_of_ble_eq_true rfl) rfl w_423 (fun _ => vr rfl rcq1) d_H_lookAhead_23 ?_
      refine r_cVv (pc := 26) (T := F_10) (N := 10) (st := []) (ok_Yard_pass1 hn 44 kq_44 cq1 kcq1 h) (fun s => Std.k s (lc hn rfl) kq_44) rfl w_781 w_5 w_778 w_779 w_780 hy_Yard_pass1 ⟨Nat.le_of_ble_eq_true rfl, Nat.le_of_ble_eq_true rfl⟩ ⟨Nat.le_of_ble_eq_true rfl, Nat.le_of_ble_eq_true rfl⟩ rfl (Nat.le_of_ble_eq_true rfl) d_H_lookAhead_26 (fun hq2 => ?_)
      refine r_ltE (fun xq3 exq3 => ?_)
      refine r_iinc (pc := 29) (v := xq3) (lv1 := [some (.ref 0), some (.int a1), some (.int xq3)]) d_H_lookAhead_29 rfl exq3.symm (Nat.le_of_ble_eq_true rfl) rfl ?_
      refine r_goto (pc := 32) (tgt := 13) d_H_lookAhead_32 (by rfl) ?_
      exact r_wk (ih xq3 hq2) ⟨rfl, ⟨rfl, ⟨rfl, trivial⟩⟩⟩
def f_H_lookAhead  (a1 : Int32) (h : AH) : Option AH :=
  bV (f_Yard_copy 44 37 h) fun hq1 =>
  f_H_lookAhead_l13 a1 FU (0 : Int32) hq1
set_option maxHeartbeats 2000000 in
theorem ok_H_lookAhead {G : AE} {n : Nat} (hn : NN ≤ n)  (a1 : Int32) (h : AH) : OK G n y_H_lookAhead (5) φV [.ref 0, .int a1] h (f_H_lookAhead a1 h) := by
  refine ok_of (y := y_H_lookAhead) (lv0 := [some (.ref 0), some (.int a1), none]) (by decide +kernel) (Nat.le_of_ble_eq_true rfl) ⟨rfl, ⟨rfl, trivial⟩⟩ ?_
  rw [f_H_lookAhead]
  refine r_aload_n (pc := 0) (i := 0) d_H_lookAhead_0 rfl rfl ?_
  refine r_getf (pc := 1) (ci := 11) (k := 4) (C := "CricketHay") (T := F_11) (N := 13) (v := .ref 44) (fun s => Std.k s (lc hn rfl) kq_0) rfl (Nat.le_of_ble_eq_true rfl) rfl w_426 (fun s => vr rfl (Std.r s (lc hn rfl) rq_0_4)) d_H_lookAhead_1 ?_
  refine r_aload_n (pc := 4) (i := 0) d_H_lookAhead_4 rfl rfl ?_
  refine r_getf (pc := 5) (ci := 11) (k := 3) (C := "CricketHay") (T := F_11) (N := 13) (v := .ref 37) (fun s => Std.k s (lc hn rfl) kq_0) rfl (Nat.le_of_ble_eq_true rfl) rfl w_425 (fun s => vr rfl (Std.r s (lc hn rfl) rq_0_3)) d_H_lookAhead_5 ?_
  refine r_cVv (pc := 8) (T := F_10) (N := 10) (st := []) (ok_Yard_copy hn 44 kq_44 37 kq_37 h) (fun s => Std.k s (lc hn rfl) kq_44) rfl w_762 w_5 w_822 w_760 w_761 hy_Yard_copy ⟨Nat.le_of_ble_eq_true rfl, Nat.le_of_ble_eq_true rfl⟩ ⟨Nat.le_of_ble_eq_true rfl, Nat.le_of_ble_eq_true rfl⟩ rfl (Nat.le_of_ble_eq_true rfl) d_H_lookAhead_8 (fun hq1 => ?_)
  refine r_iconst (pc := 11) (v := 0) d_H_lookAhead_11 (by rfl) ?_
  refine r_istore_n (pc := 12) (i := 2) (lv1 := [some (.ref 0), some (.int a1), some (.int (0 : Int32))]) d_H_lookAhead_12 rfl (Nat.le_of_ble_eq_true rfl) rfl ?_
  exact r_wk (o_H_lookAhead_l13 hn FU (0 : Int32) hq1) ⟨rfl, ⟨rfl, ⟨rfl, trivial⟩⟩⟩
