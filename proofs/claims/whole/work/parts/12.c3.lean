theorem w_11 : Cond.initialized "CricketHay$Clearing" ∈ lw_good := q_t 11 (by decide +kernel) rfl
theorem w_139 : Cond.fieldLink "CricketHay$Clearing" 50 "CricketHay$Market" "needs" "[I" ∈ lw_good := q_t 139 (by decide +kernel) rfl
theorem w_154 : Cond.fieldLink "CricketHay$Clearing" 40 "CricketHay$Market" "dealers" "I" ∈ lw_good := q_t 154 (by decide +kernel) rfl
theorem w_161 : Cond.fieldLink "CricketHay" 366 "CricketHay$Market" "chance" "I" ∈ lw_good := q_t 161 (by decide +kernel) rfl
theorem w_211 : Cond.fieldLink "CricketHay$Clearing" 67 "CricketHay$Yard" "gold" "[I" ∈ lw_good := q_t 211 (by decide +kernel) rfl
theorem w_214 : Cond.fieldLink "CricketHay$Clearing" 45 "CricketHay$Yard" "loads" "[I" ∈ lw_good := q_t 214 (by decide +kernel) rfl
theorem w_375 : Cond.fieldLink "CricketHay$Clearing" 9 "CricketHay$Clearing" "over" "[I" ∈ lw_good := q_t 375 (by decide +kernel) rfl
theorem w_376 : Cond.fieldLink "CricketHay$Clearing" 15 "CricketHay$Clearing" "from" "[I" ∈ lw_good := q_t 376 (by decide +kernel) rfl
theorem w_377 : Cond.fieldLink "CricketHay$Clearing" 18 "CricketHay$Clearing" "best" "[I" ∈ lw_good := q_t 377 (by decide +kernel) rfl
theorem w_378 : Cond.fieldLink "CricketHay" 245 "CricketHay$Clearing" "best" "[I" ∈ lw_good := q_t 378 (by decide +kernel) rfl
theorem w_379 : Cond.fieldLink "CricketHay$Clearing" 28 "CricketHay$Clearing" "market" "LCricketHay$Market;" ∈ lw_good := q_t 379 (by decide +kernel) rfl
theorem w_380 : Cond.fieldLink "CricketHay$Clearing" 32 "CricketHay$Clearing" "yard" "LCricketHay$Yard;" ∈ lw_good := q_t 380 (by decide +kernel) rfl
theorem w_381 : Cond.fieldLink "CricketHay$Clearing" 36 "CricketHay$Clearing" "choir" "LCricketHay$Choir;" ∈ lw_good := q_t 381 (by decide +kernel) rfl
theorem w_382 : Cond.fieldLink "CricketHay$Clearing" 21 "CricketHay$Clearing" "mostSold" "I" ∈ lw_good := q_t 382 (by decide +kernel) rfl
theorem w_383 : Cond.fieldLink "CricketHay" 248 "CricketHay$Clearing" "mostSold" "I" ∈ lw_good := q_t 383 (by decide +kernel) rfl
theorem w_384 : Cond.fieldLink "CricketHay$Clearing" 25 "CricketHay$Clearing" "leastPaid" "I" ∈ lw_good := q_t 384 (by decide +kernel) rfl
theorem w_385 : Cond.fieldLink "CricketHay" 251 "CricketHay$Clearing" "leastPaid" "I" ∈ lw_good := q_t 385 (by decide +kernel) rfl
theorem w_409 : Cond.fieldLink "CricketHay$Lie" 9 "CricketHay$Lie" "values" "[I" ∈ lw_good := q_t 409 (by decide +kernel) rfl
theorem w_410 : Cond.fieldLink "CricketHay" 235 "CricketHay$Lie" "values" "[I" ∈ lw_good := q_t 410 (by decide +kernel) rfl
theorem w_432 : Cond.fieldLink "CricketHay" 74 "CricketHay" "clearing" "LCricketHay$Clearing;" ∈ lw_good := q_t 432 (by decide +kernel) rfl
theorem w_434 : Cond.fieldLink "CricketHay" 85 "CricketHay" "row" "[I" ∈ lw_good := q_t 434 (by decide +kernel) rfl
theorem w_815 : Cond.methodLink "CricketHay" 208 ⟨"CricketHay", "within", "(III)Z"⟩ ∈ lw_good := q_t 815 (by decide +kernel) rfl
theorem w_816 : Cond.static ⟨"CricketHay", "within", "(III)Z"⟩ ∈ lw_good := q_t 816 (by decide +kernel) rfl
theorem w_817 : Cond.code ⟨"CricketHay", "within", "(III)Z"⟩ prog_1_method_43_code 3 (some .boolean) ∈ lw_good := q_t 817 (by decide +kernel) rfl
theorem w_818 : Cond.methodLink "CricketHay" 212 ⟨"CricketHay", "lookAhead", "(I)V"⟩ ∈ lw_good := q_t 818 (by decide +kernel) rfl
theorem w_820 : Cond.instanceMethod ⟨"CricketHay", "lookAhead", "(I)V"⟩ ∈ lw_good := q_t 820 (by decide +kernel) rfl
theorem w_821 : Cond.code ⟨"CricketHay", "lookAhead", "(I)V"⟩ prog_1_method_47_code 3 none ∈ lw_good := q_t 821 (by decide +kernel) rfl
theorem w_827 : Cond.methodLink "CricketHay" 215 ⟨"CricketHay", "bestHour", "(IIII)I"⟩ ∈ lw_good := q_t 827 (by decide +kernel) rfl
theorem w_829 : Cond.instanceMethod ⟨"CricketHay", "bestHour", "(IIII)I"⟩ ∈ lw_good := q_t 829 (by decide +kernel) rfl
theorem w_830 : Cond.code ⟨"CricketHay", "bestHour", "(IIII)I"⟩ prog_1_method_48_code 9 (some .int) ∈ lw_good := q_t 830 (by decide +kernel) rfl
theorem w_839 : Cond.methodLink "CricketHay" 219 ⟨"CricketHay", "hearPrices", "(III)V"⟩ ∈ lw_good := q_t 839 (by decide +kernel) rfl
theorem w_841 : Cond.instanceMethod ⟨"CricketHay", "hearPrices", "(III)V"⟩ ∈ lw_good := q_t 841 (by decide +kernel) rfl
theorem w_842 : Cond.code ⟨"CricketHay", "hearPrices", "(III)V"⟩ prog_1_method_49_code 5 none ∈ lw_good := q_t 842 (by decide +kernel) rfl
theorem w_843 : Cond.methodLink "CricketHay" 223 ⟨"CricketHay$Lie", "add", "(I)V"⟩ ∈ lw_good := q_t 843 (by decide +kernel) rfl
theorem w_844 : Cond.instanceMethod ⟨"CricketHay$Lie", "add", "(I)V"⟩ ∈ lw_good := q_t 844 (by decide +kernel) rfl
theorem w_845 : Cond.selects "CricketHay$Lie" ⟨"CricketHay$Lie", "add", "(I)V"⟩ ⟨"CricketHay$Lie", "add", "(I)V"⟩ ∈ lw_good := q_t 845 (by decide +kernel) rfl
theorem w_846 : Cond.code ⟨"CricketHay$Lie", "add", "(I)V"⟩ prog_8_method_3_code 2 none ∈ lw_good := q_t 846 (by decide +kernel) rfl
theorem w_847 : Cond.methodLink "CricketHay" 226 ⟨"CricketHay", "cheapestUnused", "(I)I"⟩ ∈ lw_good := q_t 847 (by decide +kernel) rfl
theorem w_849 : Cond.instanceMethod ⟨"CricketHay", "cheapestUnused", "(I)I"⟩ ∈ lw_good := q_t 849 (by decide +kernel) rfl
theorem w_850 : Cond.code ⟨"CricketHay", "cheapestUnused", "(I)I"⟩ prog_1_method_50_code 4 (some .int) ∈ lw_good := q_t 850 (by decide +kernel) rfl
theorem w_851 : Cond.methodLink "CricketHay" 351 ⟨"java/lang/Math", "max", "(II)I"⟩ ∈ lw_good := q_t 851 (by decide +kernel) rfl
theorem w_852 : Cond.methodLink "CricketHay" 230 ⟨"java/lang/Math", "min", "(II)I"⟩ ∈ lw_good := q_t 852 (by decide +kernel) rfl
theorem w_857 : Cond.methodLink "CricketHay" 238 ⟨"CricketHay", "canDeal", "(III)Z"⟩ ∈ lw_good := q_t 857 (by decide +kernel) rfl
theorem w_859 : Cond.instanceMethod ⟨"CricketHay", "canDeal", "(III)Z"⟩ ∈ lw_good := q_t 859 (by decide +kernel) rfl
theorem w_860 : Cond.code ⟨"CricketHay", "canDeal", "(III)Z"⟩ prog_1_method_46_code 4 (some .boolean) ∈ lw_good := q_t 860 (by decide +kernel) rfl
theorem w_865 : Cond.methodLink "CricketHay" 241 ⟨"CricketHay$Clearing", "settle", "(LCricketHay$Market;LCricketHay$Yard;LCricketHay$Choir;)V"⟩ ∈ lw_good := q_t 865 (by decide +kernel) rfl
theorem w_866 : Cond.instanceMethod ⟨"CricketHay$Clearing", "settle", "(LCricketHay$Market;LCricketHay$Yard;LCricketHay$Choir;)V"⟩ ∈ lw_good := q_t 866 (by decide +kernel) rfl
theorem w_867 : Cond.selects "CricketHay$Clearing" ⟨"CricketHay$Clearing", "settle", "(LCricketHay$Market;LCricketHay$Yard;LCricketHay$Choir;)V"⟩ ⟨"CricketHay$Clearing", "settle", "(LCricketHay$Market;LCricketHay$Yard;LCricketHay$Choir;)V"⟩ ∈ lw_good := q_t 867 (by decide +kernel) rfl
theorem w_868 : Cond.code ⟨"CricketHay$Clearing", "settle", "(LCricketHay$Market;LCricketHay$Yard;LCricketHay$Choir;)V"⟩ prog_5_method_2_code 5 none ∈ lw_good := q_t 868 (by decide +kernel) rfl
theorem w_869 : Cond.methodLink "CricketHay$Clearing" 53 ⟨"CricketHay$Clearing", "choose", "(III)V"⟩ ∈ lw_good := q_t 869 (by decide +kernel) rfl
theorem w_871 : Cond.instanceMethod ⟨"CricketHay$Clearing", "choose", "(III)V"⟩ ∈ lw_good := q_t 871 (by decide +kernel) rfl
theorem w_872 : Cond.code ⟨"CricketHay$Clearing", "choose", "(III)V"⟩ prog_5_method_3_code 6 none ∈ lw_good := q_t 872 (by decide +kernel) rfl
theorem w_873 : Cond.methodLink "CricketHay$Clearing" 57 ⟨"CricketHay$Clearing", "compare", "(II)V"⟩ ∈ lw_good := q_t 873 (by decide +kernel) rfl
theorem w_875 : Cond.instanceMethod ⟨"CricketHay$Clearing", "compare", "(II)V"⟩ ∈ lw_good := q_t 875 (by decide +kernel) rfl
theorem w_876 : Cond.code ⟨"CricketHay$Clearing", "compare", "(II)V"⟩ prog_5_method_4_code 3 none ∈ lw_good := q_t 876 (by decide +kernel) rfl
theorem w_877 : Cond.methodLink "CricketHay$Clearing" 70 ⟨"java/lang/System", "arraycopy", "(Ljava/lang/Object;ILjava/lang/Object;II)V"⟩ ∈ lw_good := q_t 877 (by decide +kernel) rfl
theorem w_878 : Cond.methodLink "CricketHay$Clearing" 61 ⟨"CricketHay$Choir", "half", "(II)I"⟩ ∈ lw_good := q_t 878 (by decide +kernel) rfl
theorem w_883 : Cond.constant "CricketHay" 254 (-1000000) ∈ lw_good := q_t 883 (by decide +kernel) rfl
theorem w_884 : Cond.methodLink "CricketHay" 255 ⟨"CricketHay$Choir", "allPrices", "(I)I"⟩ ∈ lw_good := q_t 884 (by decide +kernel) rfl
theorem w_885 : Cond.instanceMethod ⟨"CricketHay$Choir", "allPrices", "(I)I"⟩ ∈ lw_good := q_t 885 (by decide +kernel) rfl
theorem w_886 : Cond.selects "CricketHay$Choir" ⟨"CricketHay$Choir", "allPrices", "(I)I"⟩ ⟨"CricketHay$Choir", "allPrices", "(I)I"⟩ ∈ lw_good := q_t 886 (by decide +kernel) rfl
theorem w_887 : Cond.code ⟨"CricketHay$Choir", "allPrices", "(I)I"⟩ prog_4_method_5_code 5 (some .int) ∈ lw_good := q_t 887 (by decide +kernel) rfl
theorem w_888 : Cond.methodLink "CricketHay$Choir" 58 ⟨"CricketHay$Choir", "byLaw", "(III)I"⟩ ∈ lw_good := q_t 888 (by decide +kernel) rfl
theorem w_890 : Cond.instanceMethod ⟨"CricketHay$Choir", "byLaw", "(III)I"⟩ ∈ lw_good := q_t 890 (by decide +kernel) rfl
theorem w_891 : Cond.code ⟨"CricketHay$Choir", "byLaw", "(III)I"⟩ prog_4_method_6_code 4 (some .int) ∈ lw_good := q_t 891 (by decide +kernel) rfl
theorem w_892 : Cond.methodLink "CricketHay$Choir" 62 ⟨"java/lang/Math", "max", "(II)I"⟩ ∈ lw_good := q_t 892 (by decide +kernel) rfl
theorem w_893 : Cond.methodLink "CricketHay$Choir" 68 ⟨"java/lang/Math", "min", "(II)I"⟩ ∈ lw_good := q_t 893 (by decide +kernel) rfl
theorem w_894 : Cond.methodLink "CricketHay$Choir" 71 ⟨"CricketHay$Choir", "half", "(II)I"⟩ ∈ lw_good := q_t 894 (by decide +kernel) rfl
theorem w_907 : Cond.methodLink "CricketHay" 261 ⟨"CricketHay", "weight", "(II)I"⟩ ∈ lw_good := q_t 907 (by decide +kernel) rfl
theorem w_909 : Cond.instanceMethod ⟨"CricketHay", "weight", "(II)I"⟩ ∈ lw_good := q_t 909 (by decide +kernel) rfl
theorem w_910 : Cond.code ⟨"CricketHay", "weight", "(II)I"⟩ prog_1_method_57_code 5 (some .int) ∈ lw_good := q_t 910 (by decide +kernel) rfl
theorem w_911 : Cond.methodLink "CricketHay" 264 ⟨"CricketHay", "priceBehind", "(IIII)I"⟩ ∈ lw_good := q_t 911 (by decide +kernel) rfl
theorem w_913 : Cond.instanceMethod ⟨"CricketHay", "priceBehind", "(IIII)I"⟩ ∈ lw_good := q_t 913 (by decide +kernel) rfl
theorem w_914 : Cond.code ⟨"CricketHay", "priceBehind", "(IIII)I"⟩ prog_1_method_56_code 6 (some .int) ∈ lw_good := q_t 914 (by decide +kernel) rfl
theorem w_915 : Cond.methodLink "CricketHay" 363 ⟨"CricketHay$Yard", "pass", "(LCricketHay$Market;Z)V"⟩ ∈ lw_good := q_t 915 (by decide +kernel) rfl
theorem w_916 : Cond.methodLink "CricketHay" 267 ⟨"CricketHay", "partOf", "(III)I"⟩ ∈ lw_good := q_t 916 (by decide +kernel) rfl
theorem w_917 : Cond.static ⟨"CricketHay", "partOf", "(III)I"⟩ ∈ lw_good := q_t 917 (by decide +kernel) rfl
theorem w_918 : Cond.code ⟨"CricketHay", "partOf", "(III)I"⟩ prog_1_method_58_code 5 (some .int) ∈ lw_good := q_t 918 (by decide +kernel) rfl
theorem w_919 : Cond.methodLink "CricketHay" 369 ⟨"CricketHay", "commonDivisor", "(II)I"⟩ ∈ lw_good := q_t 919 (by decide +kernel) rfl
theorem w_920 : Cond.static ⟨"CricketHay", "commonDivisor", "(II)I"⟩ ∈ lw_good := q_t 920 (by decide +kernel) rfl
theorem w_921 : Cond.code ⟨"CricketHay", "commonDivisor", "(II)I"⟩ prog_1_method_59_code 6 (some .int) ∈ lw_good := q_t 921 (by decide +kernel) rfl
theorem w_926 : Cond.methodLink "CricketHay" 271 ⟨"CricketHay", "hearBreaths", "(III)V"⟩ ∈ lw_good := q_t 926 (by decide +kernel) rfl
theorem w_928 : Cond.instanceMethod ⟨"CricketHay", "hearBreaths", "(III)V"⟩ ∈ lw_good := q_t 928 (by decide +kernel) rfl
theorem w_929 : Cond.code ⟨"CricketHay", "hearBreaths", "(III)V"⟩ prog_1_method_51_code 6 none ∈ lw_good := q_t 929 (by decide +kernel) rfl
theorem w_930 : Cond.methodLink "CricketHay" 274 ⟨"CricketHay", "buyerStays", "(II)Z"⟩ ∈ lw_good := q_t 930 (by decide +kernel) rfl
theorem w_932 : Cond.instanceMethod ⟨"CricketHay", "buyerStays", "(II)Z"⟩ ∈ lw_good := q_t 932 (by decide +kernel) rfl
theorem w_933 : Cond.code ⟨"CricketHay", "buyerStays", "(II)Z"⟩ prog_1_method_54_code 4 (some .boolean) ∈ lw_good := q_t 933 (by decide +kernel) rfl
theorem w_934 : Cond.methodLink "CricketHay" 357 ⟨"CricketHay", "buyerHas", "(II)I"⟩ ∈ lw_good := q_t 934 (by decide +kernel) rfl
theorem w_936 : Cond.instanceMethod ⟨"CricketHay", "buyerHas", "(II)I"⟩ ∈ lw_good := q_t 936 (by decide +kernel) rfl
theorem w_937 : Cond.code ⟨"CricketHay", "buyerHas", "(II)I"⟩ prog_1_method_52_code 3 (some .int) ∈ lw_good := q_t 937 (by decide +kernel) rfl
theorem w_938 : Cond.methodLink "CricketHay" 354 ⟨"java/lang/Math", "abs", "(I)I"⟩ ∈ lw_good := q_t 938 (by decide +kernel) rfl
theorem w_939 : Cond.static ⟨"java/lang/Math", "abs", "(I)I"⟩ ∈ lw_good := q_t 939 (by decide +kernel) rfl
theorem w_940 : Cond.code ⟨"java/lang/Math", "abs", "(I)I"⟩ prog_16_method_59_code 1 (some .int) ∈ lw_good := q_t 940 (by decide +kernel) rfl
theorem w_941 : Cond.methodLink "CricketHay" 277 ⟨"CricketHay", "sellerStays", "(II)Z"⟩ ∈ lw_good := q_t 941 (by decide +kernel) rfl
theorem w_943 : Cond.instanceMethod ⟨"CricketHay", "sellerStays", "(II)Z"⟩ ∈ lw_good := q_t 943 (by decide +kernel) rfl
theorem w_944 : Cond.code ⟨"CricketHay", "sellerStays", "(II)Z"⟩ prog_1_method_55_code 4 (some .boolean) ∈ lw_good := q_t 944 (by decide +kernel) rfl
theorem w_945 : Cond.methodLink "CricketHay" 360 ⟨"CricketHay", "sellerHas", "(II)I"⟩ ∈ lw_good := q_t 945 (by decide +kernel) rfl
theorem w_947 : Cond.instanceMethod ⟨"CricketHay", "sellerHas", "(II)I"⟩ ∈ lw_good := q_t 947 (by decide +kernel) rfl
theorem w_948 : Cond.code ⟨"CricketHay", "sellerHas", "(II)I"⟩ prog_1_method_53_code 3 (some .int) ∈ lw_good := q_t 948 (by decide +kernel) rfl
theorem ws_27 : Cond.selects "CricketHay" ⟨"CricketHay", "lookAhead", "(I)V"⟩ ⟨"CricketHay", "lookAhead", "(I)V"⟩ ∈ lw_good := q_s 27 (by decide +kernel) rfl
theorem ws_28 : Cond.selects "CricketHay" ⟨"CricketHay", "bestHour", "(IIII)I"⟩ ⟨"CricketHay", "bestHour", "(IIII)I"⟩ ∈ lw_good := q_s 28 (by decide +kernel) rfl
theorem ws_29 : Cond.selects "CricketHay" ⟨"CricketHay", "hearPrices", "(III)V"⟩ ⟨"CricketHay", "hearPrices", "(III)V"⟩ ∈ lw_good := q_s 29 (by decide +kernel) rfl
theorem ws_30 : Cond.selects "CricketHay" ⟨"CricketHay", "cheapestUnused", "(I)I"⟩ ⟨"CricketHay", "cheapestUnused", "(I)I"⟩ ∈ lw_good := q_s 30 (by decide +kernel) rfl
theorem ws_31 : Cond.selects "CricketHay" ⟨"CricketHay", "canDeal", "(III)Z"⟩ ⟨"CricketHay", "canDeal", "(III)Z"⟩ ∈ lw_good := q_s 31 (by decide +kernel) rfl
theorem ws_32 : Cond.selects "CricketHay$Clearing" ⟨"CricketHay$Clearing", "choose", "(III)V"⟩ ⟨"CricketHay$Clearing", "choose", "(III)V"⟩ ∈ lw_good := q_s 32 (by decide +kernel) rfl
theorem ws_33 : Cond.selects "CricketHay$Clearing" ⟨"CricketHay$Clearing", "compare", "(II)V"⟩ ⟨"CricketHay$Clearing", "compare", "(II)V"⟩ ∈ lw_good := q_s 33 (by decide +kernel) rfl
theorem ws_34 : Cond.selects "CricketHay$Choir" ⟨"CricketHay$Choir", "byLaw", "(III)I"⟩ ⟨"CricketHay$Choir", "byLaw", "(III)I"⟩ ∈ lw_good := q_s 34 (by decide +kernel) rfl
theorem ws_35 : Cond.selects "CricketHay" ⟨"CricketHay", "weight", "(II)I"⟩ ⟨"CricketHay", "weight", "(II)I"⟩ ∈ lw_good := q_s 35 (by decide +kernel) rfl
theorem ws_36 : Cond.selects "CricketHay" ⟨"CricketHay", "priceBehind", "(IIII)I"⟩ ⟨"CricketHay", "priceBehind", "(IIII)I"⟩ ∈ lw_good := q_s 36 (by decide +kernel) rfl
theorem ws_37 : Cond.selects "CricketHay" ⟨"CricketHay", "hearBreaths", "(III)V"⟩ ⟨"CricketHay", "hearBreaths", "(III)V"⟩ ∈ lw_good := q_s 37 (by decide +kernel) rfl
theorem ws_38 : Cond.selects "CricketHay" ⟨"CricketHay", "buyerStays", "(II)Z"⟩ ⟨"CricketHay", "buyerStays", "(II)Z"⟩ ∈ lw_good := q_s 38 (by decide +kernel) rfl
theorem ws_39 : Cond.selects "CricketHay" ⟨"CricketHay", "buyerHas", "(II)I"⟩ ⟨"CricketHay", "buyerHas", "(II)I"⟩ ∈ lw_good := q_s 39 (by decide +kernel) rfl
theorem ws_40 : Cond.selects "CricketHay" ⟨"CricketHay", "sellerStays", "(II)Z"⟩ ⟨"CricketHay", "sellerStays", "(II)Z"⟩ ∈ lw_good := q_s 40 (by decide +kernel) rfl
theorem ws_41 : Cond.selects "CricketHay" ⟨"CricketHay", "sellerHas", "(II)I"⟩ ⟨"CricketHay", "sellerHas", "(II)I"⟩ ∈ lw_good := q_s 41 (by decide +kernel) rfl
abbrev y_H_will : MI := (⟨"CricketHay", "will", "(III)I"⟩, prog_1_method_18_code, 4, (some .int))
theorem hy_H_will : y_H_will.1.cls ≠ "java/lang/invoke/MethodHandle" ∧ y_H_will.1.cls ≠ "java/lang/invoke/VarHandle" ∧ (parseMethodDescriptor y_H_will.1.desc).map (fun d => d.parameters.length) = some 3 := by decide +kernel
theorem d_H_will_0 : decode y_H_will.2.1 0 = .ok (.aload_n 0, 1) := by decide +kernel
theorem d_H_will_1 : decode y_H_will.2.1 1 = .ok (.iload_n 1, 1) := by decide +kernel
theorem d_H_will_2 : decode y_H_will.2.1 2 = .ok (.iload_n 2, 1) := by decide +kernel
theorem d_H_will_3 : decode y_H_will.2.1 3 = .ok (.invokevirtual 170, 3) := by decide +kernel
theorem d_H_will_6 : decode y_H_will.2.1 6 = .ok (.ifCond .eq 13, 3) := by decide +kernel
theorem d_H_will_9 : decode y_H_will.2.1 9 = .ok (.iload_n 3, 1) := by decide +kernel
theorem d_H_will_10 : decode y_H_will.2.1 10 = .ok (.iconst 0, 1) := by decide +kernel
theorem d_H_will_11 : decode y_H_will.2.1 11 = .ok (.bipush 60, 2) := by decide +kernel
theorem d_H_will_13 : decode y_H_will.2.1 13 = .ok (.invokestatic 208, 3) := by decide +kernel
theorem d_H_will_16 : decode y_H_will.2.1 16 = .ok (.ifCond .ne 5, 3) := by decide +kernel
theorem d_H_will_19 : decode y_H_will.2.1 19 = .ok (.iconst (-1), 1) := by decide +kernel
theorem d_H_will_20 : decode y_H_will.2.1 20 = .ok (.ireturn, 1) := by decide +kernel
theorem d_H_will_21 : decode y_H_will.2.1 21 = .ok (.aload_n 0, 1) := by decide +kernel
theorem d_H_will_22 : decode y_H_will.2.1 22 = .ok (.iload_n 3, 1) := by decide +kernel
theorem d_H_will_23 : decode y_H_will.2.1 23 = .ok (.invokevirtual 212, 3) := by decide +kernel
theorem d_H_will_26 : decode y_H_will.2.1 26 = .ok (.aload_n 0, 1) := by decide +kernel
theorem d_H_will_27 : decode y_H_will.2.1 27 = .ok (.getfield 39, 3) := by decide +kernel
theorem d_H_will_30 : decode y_H_will.2.1 30 = .ok (.aload_n 0, 1) := by decide +kernel
theorem d_H_will_31 : decode y_H_will.2.1 31 = .ok (.getfield 19, 3) := by decide +kernel
theorem d_H_will_34 : decode y_H_will.2.1 34 = .ok (.aload_n 0, 1) := by decide +kernel
theorem d_H_will_35 : decode y_H_will.2.1 35 = .ok (.getfield 33, 3) := by decide +kernel
theorem d_H_will_38 : decode y_H_will.2.1 38 = .ok (.invokevirtual 155, 3) := by decide +kernel
theorem d_H_will_41 : decode y_H_will.2.1 41 = .ok (.aload_n 0, 1) := by decide +kernel
theorem d_H_will_42 : decode y_H_will.2.1 42 = .ok (.getfield 39, 3) := by decide +kernel
theorem d_H_will_45 : decode y_H_will.2.1 45 = .ok (.iload_n 1, 1) := by decide +kernel
theorem d_H_will_46 : decode y_H_will.2.1 46 = .ok (.iload_n 2, 1) := by decide +kernel
theorem d_H_will_47 : decode y_H_will.2.1 47 = .ok (.invokevirtual 174, 3) := by decide +kernel
theorem d_H_will_50 : decode y_H_will.2.1 50 = .ok (.ireturn, 1) := by decide +kernel

abbrev y_H_bestHour : MI := (⟨"CricketHay", "bestHour", "(IIII)I"⟩, prog_1_method_48_code, 9, (some .int))
theorem hy_H_bestHour : y_H_bestHour.1.cls ≠ "java/lang/invoke/MethodHandle" ∧ y_H_bestHour.1.cls ≠ "java/lang/invoke/VarHandle" ∧ (parseMethodDescriptor y_H_bestHour.1.desc).map (fun d => d.parameters.length) = some 4 := by decide +kernel
theorem d_H_bestHour_0 : decode y_H_bestHour.2.1 0 = .ok (.aload_n 0, 1) := by decide +kernel
theorem d_H_bestHour_1 : decode y_H_bestHour.2.1 1 = .ok (.iload_n 1, 1) := by decide +kernel
theorem d_H_bestHour_2 : decode y_H_bestHour.2.1 2 = .ok (.iload_n 2, 1) := by decide +kernel
theorem d_H_bestHour_3 : decode y_H_bestHour.2.1 3 = .ok (.invokevirtual 170, 3) := by decide +kernel
theorem d_H_bestHour_6 : decode y_H_bestHour.2.1 6 = .ok (.ifCond .eq 13, 3) := by decide +kernel
theorem d_H_bestHour_9 : decode y_H_bestHour.2.1 9 = .ok (.iload_n 3, 1) := by decide +kernel
theorem d_H_bestHour_10 : decode y_H_bestHour.2.1 10 = .ok (.iconst 0, 1) := by decide +kernel
theorem d_H_bestHour_11 : decode y_H_bestHour.2.1 11 = .ok (.bipush 60, 2) := by decide +kernel
theorem d_H_bestHour_13 : decode y_H_bestHour.2.1 13 = .ok (.invokestatic 208, 3) := by decide +kernel
theorem d_H_bestHour_16 : decode y_H_bestHour.2.1 16 = .ok (.ifCond .ne 5, 3) := by decide +kernel
theorem d_H_bestHour_19 : decode y_H_bestHour.2.1 19 = .ok (.iconst (-1), 1) := by decide +kernel
theorem d_H_bestHour_20 : decode y_H_bestHour.2.1 20 = .ok (.ireturn, 1) := by decide +kernel
theorem d_H_bestHour_21 : decode y_H_bestHour.2.1 21 = .ok (.aload_n 0, 1) := by decide +kernel
theorem d_H_bestHour_22 : decode y_H_bestHour.2.1 22 = .ok (.getfield 33, 3) := by decide +kernel
theorem d_H_bestHour_25 : decode y_H_bestHour.2.1 25 = .ok (.aload_n 0, 1) := by decide +kernel
theorem d_H_bestHour_26 : decode y_H_bestHour.2.1 26 = .ok (.getfield 29, 3) := by decide +kernel
theorem d_H_bestHour_29 : decode y_H_bestHour.2.1 29 = .ok (.invokevirtual 258, 3) := by decide +kernel
theorem d_H_bestHour_32 : decode y_H_bestHour.2.1 32 = .ok (.iconst 0, 1) := by decide +kernel
theorem d_H_bestHour_33 : decode y_H_bestHour.2.1 33 = .ok (.istore 5, 2) := by decide +kernel
theorem d_H_bestHour_35 : decode y_H_bestHour.2.1 35 = .ok (.iconst 0, 1) := by decide +kernel
theorem d_H_bestHour_36 : decode y_H_bestHour.2.1 36 = .ok (.istore 6, 2) := by decide +kernel
theorem d_H_bestHour_38 : decode y_H_bestHour.2.1 38 = .ok (.iconst 0, 1) := by decide +kernel
theorem d_H_bestHour_39 : decode y_H_bestHour.2.1 39 = .ok (.istore 7, 2) := by decide +kernel
theorem d_H_bestHour_41 : decode y_H_bestHour.2.1 41 = .ok (.iload 7, 2) := by decide +kernel
theorem d_H_bestHour_43 : decode y_H_bestHour.2.1 43 = .ok (.iload_n 3, 1) := by decide +kernel
theorem d_H_bestHour_44 : decode y_H_bestHour.2.1 44 = .ok (.if_icmp .gt 69, 3) := by decide +kernel
theorem d_H_bestHour_47 : decode y_H_bestHour.2.1 47 = .ok (.aload_n 0, 1) := by decide +kernel
theorem d_H_bestHour_48 : decode y_H_bestHour.2.1 48 = .ok (.getfield 39, 3) := by decide +kernel
theorem d_H_bestHour_51 : decode y_H_bestHour.2.1 51 = .ok (.aload_n 0, 1) := by decide +kernel
theorem d_H_bestHour_52 : decode y_H_bestHour.2.1 52 = .ok (.getfield 19, 3) := by decide +kernel
theorem d_H_bestHour_55 : decode y_H_bestHour.2.1 55 = .ok (.aload_n 0, 1) := by decide +kernel
theorem d_H_bestHour_56 : decode y_H_bestHour.2.1 56 = .ok (.getfield 33, 3) := by decide +kernel
theorem d_H_bestHour_59 : decode y_H_bestHour.2.1 59 = .ok (.invokevirtual 155, 3) := by decide +kernel
theorem d_H_bestHour_62 : decode y_H_bestHour.2.1 62 = .ok (.iload 4, 2) := by decide +kernel
theorem d_H_bestHour_64 : decode y_H_bestHour.2.1 64 = .ok (.aload_n 0, 1) := by decide +kernel
theorem d_H_bestHour_65 : decode y_H_bestHour.2.1 65 = .ok (.getfield 39, 3) := by decide +kernel
theorem d_H_bestHour_68 : decode y_H_bestHour.2.1 68 = .ok (.iload_n 1, 1) := by decide +kernel
theorem d_H_bestHour_69 : decode y_H_bestHour.2.1 69 = .ok (.iload_n 2, 1) := by decide +kernel
theorem d_H_bestHour_70 : decode y_H_bestHour.2.1 70 = .ok (.invokevirtual 174, 3) := by decide +kernel
theorem d_H_bestHour_73 : decode y_H_bestHour.2.1 73 = .ok (.imul, 1) := by decide +kernel
theorem d_H_bestHour_74 : decode y_H_bestHour.2.1 74 = .ok (.istore 8, 2) := by decide +kernel
theorem d_H_bestHour_76 : decode y_H_bestHour.2.1 76 = .ok (.iload 7, 2) := by decide +kernel
theorem d_H_bestHour_78 : decode y_H_bestHour.2.1 78 = .ok (.ifCond .eq 10, 3) := by decide +kernel
theorem d_H_bestHour_81 : decode y_H_bestHour.2.1 81 = .ok (.iload 8, 2) := by decide +kernel
theorem d_H_bestHour_83 : decode y_H_bestHour.2.1 83 = .ok (.iload 6, 2) := by decide +kernel
theorem d_H_bestHour_85 : decode y_H_bestHour.2.1 85 = .ok (.if_icmp .ge 11, 3) := by decide +kernel
theorem d_H_bestHour_88 : decode y_H_bestHour.2.1 88 = .ok (.iload 8, 2) := by decide +kernel
theorem d_H_bestHour_90 : decode y_H_bestHour.2.1 90 = .ok (.istore 6, 2) := by decide +kernel
theorem d_H_bestHour_92 : decode y_H_bestHour.2.1 92 = .ok (.iload 7, 2) := by decide +kernel
theorem d_H_bestHour_94 : decode y_H_bestHour.2.1 94 = .ok (.istore 5, 2) := by decide +kernel
theorem d_H_bestHour_96 : decode y_H_bestHour.2.1 96 = .ok (.aload_n 0, 1) := by decide +kernel
theorem d_H_bestHour_97 : decode y_H_bestHour.2.1 97 = .ok (.getfield 33, 3) := by decide +kernel
theorem d_H_bestHour_100 : decode y_H_bestHour.2.1 100 = .ok (.aload_n 0, 1) := by decide +kernel
theorem d_H_bestHour_101 : decode y_H_bestHour.2.1 101 = .ok (.getfield 19, 3) := by decide +kernel
theorem d_H_bestHour_104 : decode y_H_bestHour.2.1 104 = .ok (.invokevirtual 198, 3) := by decide +kernel
theorem d_H_bestHour_107 : decode y_H_bestHour.2.1 107 = .ok (.iinc 7 1, 3) := by decide +kernel
theorem d_H_bestHour_110 : decode y_H_bestHour.2.1 110 = .ok (.goto (-69), 3) := by decide +kernel
theorem d_H_bestHour_113 : decode y_H_bestHour.2.1 113 = .ok (.iload 5, 2) := by decide +kernel
theorem d_H_bestHour_115 : decode y_H_bestHour.2.1 115 = .ok (.ireturn, 1) := by decide +kernel

abbrev y_H_low : MI := (⟨"CricketHay", "low", "(III)I"⟩, prog_1_method_19_code, 4, (some .int))
theorem hy_H_low : y_H_low.1.cls ≠ "java/lang/invoke/MethodHandle" ∧ y_H_low.1.cls ≠ "java/lang/invoke/VarHandle" ∧ (parseMethodDescriptor y_H_low.1.desc).map (fun d => d.parameters.length) = some 3 := by decide +kernel
theorem d_H_low_0 : decode y_H_low.2.1 0 = .ok (.aload_n 0, 1) := by decide +kernel
theorem d_H_low_1 : decode y_H_low.2.1 1 = .ok (.iload_n 1, 1) := by decide +kernel
theorem d_H_low_2 : decode y_H_low.2.1 2 = .ok (.iload_n 2, 1) := by decide +kernel
theorem d_H_low_3 : decode y_H_low.2.1 3 = .ok (.iload_n 3, 1) := by decide +kernel
theorem d_H_low_4 : decode y_H_low.2.1 4 = .ok (.iconst 1, 1) := by decide +kernel
theorem d_H_low_5 : decode y_H_low.2.1 5 = .ok (.invokevirtual 215, 3) := by decide +kernel
theorem d_H_low_8 : decode y_H_low.2.1 8 = .ok (.ireturn, 1) := by decide +kernel

abbrev y_H_high : MI := (⟨"CricketHay", "high", "(III)I"⟩, prog_1_method_20_code, 4, (some .int))
theorem hy_H_high : y_H_high.1.cls ≠ "java/lang/invoke/MethodHandle" ∧ y_H_high.1.cls ≠ "java/lang/invoke/VarHandle" ∧ (parseMethodDescriptor y_H_high.1.desc).map (fun d => d.parameters.length) = some 3 := by decide +kernel
theorem d_H_high_0 : decode y_H_high.2.1 0 = .ok (.aload_n 0, 1) := by decide +kernel
theorem d_H_high_1 : decode y_H_high.2.1 1 = .ok (.iload_n 1, 1) := by decide +kernel
theorem d_H_high_2 : decode y_H_high.2.1 2 = .ok (.iload_n 2, 1) := by decide +kernel
theorem d_H_high_3 : decode y_H_high.2.1 3 = .ok (.iload_n 3, 1) := by decide +kernel
theorem d_H_high_4 : decode y_H_high.2.1 4 = .ok (.iconst (-1), 1) := by decide +kernel
theorem d_H_high_5 : decode y_H_high.2.1 5 = .ok (.invokevirtual 215, 3) := by decide +kernel
theorem d_H_high_8 : decode y_H_high.2.1 8 = .ok (.ireturn, 1) := by decide +kernel

abbrev y_H_hearPrices : MI := (⟨"CricketHay", "hearPrices", "(III)V"⟩, prog_1_method_49_code, 5, none)
theorem hy_H_hearPrices : y_H_hearPrices.1.cls ≠ "java/lang/invoke/MethodHandle" ∧ y_H_hearPrices.1.cls ≠ "java/lang/invoke/VarHandle" ∧ (parseMethodDescriptor y_H_hearPrices.1.desc).map (fun d => d.parameters.length) = some 3 := by decide +kernel
theorem d_H_hearPrices_0 : decode y_H_hearPrices.2.1 0 = .ok (.aload_n 0, 1) := by decide +kernel
theorem d_H_hearPrices_1 : decode y_H_hearPrices.2.1 1 = .ok (.getfield 33, 3) := by decide +kernel
theorem d_H_hearPrices_4 : decode y_H_hearPrices.2.1 4 = .ok (.aload_n 0, 1) := by decide +kernel
theorem d_H_hearPrices_5 : decode y_H_hearPrices.2.1 5 = .ok (.getfield 29, 3) := by decide +kernel
theorem d_H_hearPrices_8 : decode y_H_hearPrices.2.1 8 = .ok (.invokevirtual 258, 3) := by decide +kernel
theorem d_H_hearPrices_11 : decode y_H_hearPrices.2.1 11 = .ok (.iconst 0, 1) := by decide +kernel
theorem d_H_hearPrices_12 : decode y_H_hearPrices.2.1 12 = .ok (.istore 4, 2) := by decide +kernel
theorem d_H_hearPrices_14 : decode y_H_hearPrices.2.1 14 = .ok (.iload 4, 2) := by decide +kernel
theorem d_H_hearPrices_16 : decode y_H_hearPrices.2.1 16 = .ok (.iload_n 3, 1) := by decide +kernel
theorem d_H_hearPrices_17 : decode y_H_hearPrices.2.1 17 = .ok (.if_icmp .ge 51, 3) := by decide +kernel
theorem d_H_hearPrices_20 : decode y_H_hearPrices.2.1 20 = .ok (.aload_n 0, 1) := by decide +kernel
theorem d_H_hearPrices_21 : decode y_H_hearPrices.2.1 21 = .ok (.getfield 39, 3) := by decide +kernel
theorem d_H_hearPrices_24 : decode y_H_hearPrices.2.1 24 = .ok (.aload_n 0, 1) := by decide +kernel
theorem d_H_hearPrices_25 : decode y_H_hearPrices.2.1 25 = .ok (.getfield 19, 3) := by decide +kernel
theorem d_H_hearPrices_28 : decode y_H_hearPrices.2.1 28 = .ok (.aload_n 0, 1) := by decide +kernel
theorem d_H_hearPrices_29 : decode y_H_hearPrices.2.1 29 = .ok (.getfield 33, 3) := by decide +kernel
theorem d_H_hearPrices_32 : decode y_H_hearPrices.2.1 32 = .ok (.invokevirtual 155, 3) := by decide +kernel
theorem d_H_hearPrices_35 : decode y_H_hearPrices.2.1 35 = .ok (.aload_n 0, 1) := by decide +kernel
theorem d_H_hearPrices_36 : decode y_H_hearPrices.2.1 36 = .ok (.getfield 85, 3) := by decide +kernel
theorem d_H_hearPrices_39 : decode y_H_hearPrices.2.1 39 = .ok (.iload 4, 2) := by decide +kernel
theorem d_H_hearPrices_41 : decode y_H_hearPrices.2.1 41 = .ok (.aload_n 0, 1) := by decide +kernel
theorem d_H_hearPrices_42 : decode y_H_hearPrices.2.1 42 = .ok (.getfield 39, 3) := by decide +kernel
theorem d_H_hearPrices_45 : decode y_H_hearPrices.2.1 45 = .ok (.iload_n 1, 1) := by decide +kernel
theorem d_H_hearPrices_46 : decode y_H_hearPrices.2.1 46 = .ok (.iload_n 2, 1) := by decide +kernel
theorem d_H_hearPrices_47 : decode y_H_hearPrices.2.1 47 = .ok (.invokevirtual 174, 3) := by decide +kernel
theorem d_H_hearPrices_50 : decode y_H_hearPrices.2.1 50 = .ok (.iastore, 1) := by decide +kernel
theorem d_H_hearPrices_51 : decode y_H_hearPrices.2.1 51 = .ok (.aload_n 0, 1) := by decide +kernel
theorem d_H_hearPrices_52 : decode y_H_hearPrices.2.1 52 = .ok (.getfield 33, 3) := by decide +kernel
theorem d_H_hearPrices_55 : decode y_H_hearPrices.2.1 55 = .ok (.aload_n 0, 1) := by decide +kernel
theorem d_H_hearPrices_56 : decode y_H_hearPrices.2.1 56 = .ok (.getfield 19, 3) := by decide +kernel
theorem d_H_hearPrices_59 : decode y_H_hearPrices.2.1 59 = .ok (.invokevirtual 198, 3) := by decide +kernel
theorem d_H_hearPrices_62 : decode y_H_hearPrices.2.1 62 = .ok (.iinc 4 1, 3) := by decide +kernel
theorem d_H_hearPrices_65 : decode y_H_hearPrices.2.1 65 = .ok (.goto (-51), 3) := by decide +kernel
theorem d_H_hearPrices_68 : decode y_H_hearPrices.2.1 68 = .ok (.return_, 1) := by decide +kernel

abbrev y_Lie_add : MI := (⟨"CricketHay$Lie", "add", "(I)V"⟩, prog_8_method_3_code, 2, none)
theorem hy_Lie_add : y_Lie_add.1.cls ≠ "java/lang/invoke/MethodHandle" ∧ y_Lie_add.1.cls ≠ "java/lang/invoke/VarHandle" ∧ (parseMethodDescriptor y_Lie_add.1.desc).map (fun d => d.parameters.length) = some 1 := by decide +kernel
theorem d_Lie_add_0 : decode y_Lie_add.2.1 0 = .ok (.aload_n 0, 1) := by decide +kernel
theorem d_Lie_add_1 : decode y_Lie_add.2.1 1 = .ok (.getfield 15, 3) := by decide +kernel
theorem d_Lie_add_4 : decode y_Lie_add.2.1 4 = .ok (.aload_n 0, 1) := by decide +kernel
theorem d_Lie_add_5 : decode y_Lie_add.2.1 5 = .ok (.getfield 9, 3) := by decide +kernel
theorem d_Lie_add_8 : decode y_Lie_add.2.1 8 = .ok (.arraylength, 1) := by decide +kernel
theorem d_Lie_add_9 : decode y_Lie_add.2.1 9 = .ok (.if_icmp .ge 23, 3) := by decide +kernel
theorem d_Lie_add_12 : decode y_Lie_add.2.1 12 = .ok (.aload_n 0, 1) := by decide +kernel
theorem d_Lie_add_13 : decode y_Lie_add.2.1 13 = .ok (.getfield 9, 3) := by decide +kernel
theorem d_Lie_add_16 : decode y_Lie_add.2.1 16 = .ok (.aload_n 0, 1) := by decide +kernel
theorem d_Lie_add_17 : decode y_Lie_add.2.1 17 = .ok (.getfield 15, 3) := by decide +kernel
theorem d_Lie_add_20 : decode y_Lie_add.2.1 20 = .ok (.iload_n 1, 1) := by decide +kernel
theorem d_Lie_add_21 : decode y_Lie_add.2.1 21 = .ok (.iastore, 1) := by decide +kernel
theorem d_Lie_add_22 : decode y_Lie_add.2.1 22 = .ok (.aload_n 0, 1) := by decide +kernel
theorem d_Lie_add_23 : decode y_Lie_add.2.1 23 = .ok (.dup, 1) := by decide +kernel
theorem d_Lie_add_24 : decode y_Lie_add.2.1 24 = .ok (.getfield 15, 3) := by decide +kernel
theorem d_Lie_add_27 : decode y_Lie_add.2.1 27 = .ok (.iconst 1, 1) := by decide +kernel
theorem d_Lie_add_28 : decode y_Lie_add.2.1 28 = .ok (.iadd, 1) := by decide +kernel
theorem d_Lie_add_29 : decode y_Lie_add.2.1 29 = .ok (.putfield 15, 3) := by decide +kernel
theorem d_Lie_add_32 : decode y_Lie_add.2.1 32 = .ok (.return_, 1) := by decide +kernel

abbrev y_H_cheapestUnused : MI := (⟨"CricketHay", "cheapestUnused", "(I)I"⟩, prog_1_method_50_code, 4, (some .int))
theorem hy_H_cheapestUnused : y_H_cheapestUnused.1.cls ≠ "java/lang/invoke/MethodHandle" ∧ y_H_cheapestUnused.1.cls ≠ "java/lang/invoke/VarHandle" ∧ (parseMethodDescriptor y_H_cheapestUnused.1.desc).map (fun d => d.parameters.length) = some 1 := by decide +kernel
theorem d_H_cheapestUnused_0 : decode y_H_cheapestUnused.2.1 0 = .ok (.iconst (-1), 1) := by decide +kernel
theorem d_H_cheapestUnused_1 : decode y_H_cheapestUnused.2.1 1 = .ok (.istore_n 2, 1) := by decide +kernel
theorem d_H_cheapestUnused_2 : decode y_H_cheapestUnused.2.1 2 = .ok (.iconst 0, 1) := by decide +kernel
theorem d_H_cheapestUnused_3 : decode y_H_cheapestUnused.2.1 3 = .ok (.istore_n 3, 1) := by decide +kernel
theorem d_H_cheapestUnused_4 : decode y_H_cheapestUnused.2.1 4 = .ok (.iload_n 3, 1) := by decide +kernel
theorem d_H_cheapestUnused_5 : decode y_H_cheapestUnused.2.1 5 = .ok (.iload_n 1, 1) := by decide +kernel
theorem d_H_cheapestUnused_6 : decode y_H_cheapestUnused.2.1 6 = .ok (.if_icmp .ge 43, 3) := by decide +kernel
theorem d_H_cheapestUnused_9 : decode y_H_cheapestUnused.2.1 9 = .ok (.aload_n 0, 1) := by decide +kernel
theorem d_H_cheapestUnused_10 : decode y_H_cheapestUnused.2.1 10 = .ok (.getfield 81, 3) := by decide +kernel
theorem d_H_cheapestUnused_13 : decode y_H_cheapestUnused.2.1 13 = .ok (.getfield 235, 3) := by decide +kernel
theorem d_H_cheapestUnused_16 : decode y_H_cheapestUnused.2.1 16 = .ok (.iload_n 3, 1) := by decide +kernel
theorem d_H_cheapestUnused_17 : decode y_H_cheapestUnused.2.1 17 = .ok (.iaload, 1) := by decide +kernel
theorem d_H_cheapestUnused_18 : decode y_H_cheapestUnused.2.1 18 = .ok (.ifCond .ne 25, 3) := by decide +kernel
theorem d_H_cheapestUnused_21 : decode y_H_cheapestUnused.2.1 21 = .ok (.iload_n 2, 1) := by decide +kernel
theorem d_H_cheapestUnused_22 : decode y_H_cheapestUnused.2.1 22 = .ok (.iconst (-1), 1) := by decide +kernel
theorem d_H_cheapestUnused_23 : decode y_H_cheapestUnused.2.1 23 = .ok (.if_icmp .eq 18, 3) := by decide +kernel
theorem d_H_cheapestUnused_26 : decode y_H_cheapestUnused.2.1 26 = .ok (.aload_n 0, 1) := by decide +kernel
theorem d_H_cheapestUnused_27 : decode y_H_cheapestUnused.2.1 27 = .ok (.getfield 85, 3) := by decide +kernel
theorem d_H_cheapestUnused_30 : decode y_H_cheapestUnused.2.1 30 = .ok (.iload_n 3, 1) := by decide +kernel
theorem d_H_cheapestUnused_31 : decode y_H_cheapestUnused.2.1 31 = .ok (.iaload, 1) := by decide +kernel
theorem d_H_cheapestUnused_32 : decode y_H_cheapestUnused.2.1 32 = .ok (.aload_n 0, 1) := by decide +kernel
theorem d_H_cheapestUnused_33 : decode y_H_cheapestUnused.2.1 33 = .ok (.getfield 85, 3) := by decide +kernel
theorem d_H_cheapestUnused_36 : decode y_H_cheapestUnused.2.1 36 = .ok (.iload_n 2, 1) := by decide +kernel
theorem d_H_cheapestUnused_37 : decode y_H_cheapestUnused.2.1 37 = .ok (.iaload, 1) := by decide +kernel
theorem d_H_cheapestUnused_38 : decode y_H_cheapestUnused.2.1 38 = .ok (.if_icmp .ge 5, 3) := by decide +kernel
theorem d_H_cheapestUnused_41 : decode y_H_cheapestUnused.2.1 41 = .ok (.iload_n 3, 1) := by decide +kernel
theorem d_H_cheapestUnused_42 : decode y_H_cheapestUnused.2.1 42 = .ok (.istore_n 2, 1) := by decide +kernel
theorem d_H_cheapestUnused_43 : decode y_H_cheapestUnused.2.1 43 = .ok (.iinc 3 1, 3) := by decide +kernel
theorem d_H_cheapestUnused_46 : decode y_H_cheapestUnused.2.1 46 = .ok (.goto (-42), 3) := by decide +kernel
theorem d_H_cheapestUnused_49 : decode y_H_cheapestUnused.2.1 49 = .ok (.iload_n 2, 1) := by decide +kernel
theorem d_H_cheapestUnused_50 : decode y_H_cheapestUnused.2.1 50 = .ok (.iconst 0, 1) := by decide +kernel
theorem d_H_cheapestUnused_51 : decode y_H_cheapestUnused.2.1 51 = .ok (.invokestatic 351, 3) := by decide +kernel
theorem d_H_cheapestUnused_54 : decode y_H_cheapestUnused.2.1 54 = .ok (.ireturn, 1) := by decide +kernel

abbrev y_H_plan : MI := (⟨"CricketHay", "plan", "(IIII)I"⟩, prog_1_method_21_code, 10, (some .int))
theorem hy_H_plan : y_H_plan.1.cls ≠ "java/lang/invoke/MethodHandle" ∧ y_H_plan.1.cls ≠ "java/lang/invoke/VarHandle" ∧ (parseMethodDescriptor y_H_plan.1.desc).map (fun d => d.parameters.length) = some 4 := by decide +kernel
theorem d_H_plan_0 : decode y_H_plan.2.1 0 = .ok (.aload_n 0, 1) := by decide +kernel
theorem d_H_plan_1 : decode y_H_plan.2.1 1 = .ok (.getfield 81, 3) := by decide +kernel
theorem d_H_plan_4 : decode y_H_plan.2.1 4 = .ok (.invokevirtual 112, 3) := by decide +kernel
theorem d_H_plan_7 : decode y_H_plan.2.1 7 = .ok (.aload_n 0, 1) := by decide +kernel
theorem d_H_plan_8 : decode y_H_plan.2.1 8 = .ok (.iload_n 1, 1) := by decide +kernel
theorem d_H_plan_9 : decode y_H_plan.2.1 9 = .ok (.iload_n 2, 1) := by decide +kernel
theorem d_H_plan_10 : decode y_H_plan.2.1 10 = .ok (.invokevirtual 170, 3) := by decide +kernel
theorem d_H_plan_13 : decode y_H_plan.2.1 13 = .ok (.ifCond .eq 38, 3) := by decide +kernel
theorem d_H_plan_16 : decode y_H_plan.2.1 16 = .ok (.iload_n 3, 1) := by decide +kernel
theorem d_H_plan_17 : decode y_H_plan.2.1 17 = .ok (.iconst 1, 1) := by decide +kernel
theorem d_H_plan_18 : decode y_H_plan.2.1 18 = .ok (.bipush 20, 2) := by decide +kernel
theorem d_H_plan_20 : decode y_H_plan.2.1 20 = .ok (.invokestatic 208, 3) := by decide +kernel
theorem d_H_plan_23 : decode y_H_plan.2.1 23 = .ok (.ifCond .eq 28, 3) := by decide +kernel
theorem d_H_plan_26 : decode y_H_plan.2.1 26 = .ok (.iload 4, 2) := by decide +kernel
theorem d_H_plan_28 : decode y_H_plan.2.1 28 = .ok (.iconst 1, 1) := by decide +kernel
theorem d_H_plan_29 : decode y_H_plan.2.1 29 = .ok (.bipush 12, 2) := by decide +kernel
theorem d_H_plan_31 : decode y_H_plan.2.1 31 = .ok (.invokestatic 208, 3) := by decide +kernel
theorem d_H_plan_34 : decode y_H_plan.2.1 34 = .ok (.ifCond .eq 17, 3) := by decide +kernel
theorem d_H_plan_37 : decode y_H_plan.2.1 37 = .ok (.iload_n 3, 1) := by decide +kernel
theorem d_H_plan_38 : decode y_H_plan.2.1 38 = .ok (.aload_n 0, 1) := by decide +kernel
theorem d_H_plan_39 : decode y_H_plan.2.1 39 = .ok (.getfield 19, 3) := by decide +kernel
theorem d_H_plan_42 : decode y_H_plan.2.1 42 = .ok (.getfield 185, 3) := by decide +kernel
theorem d_H_plan_45 : decode y_H_plan.2.1 45 = .ok (.iload 4, 2) := by decide +kernel
theorem d_H_plan_47 : decode y_H_plan.2.1 47 = .ok (.imul, 1) := by decide +kernel
theorem d_H_plan_48 : decode y_H_plan.2.1 48 = .ok (.if_icmp .le 5, 3) := by decide +kernel
theorem d_H_plan_51 : decode y_H_plan.2.1 51 = .ok (.iconst (-1), 1) := by decide +kernel
theorem d_H_plan_52 : decode y_H_plan.2.1 52 = .ok (.ireturn, 1) := by decide +kernel
theorem d_H_plan_53 : decode y_H_plan.2.1 53 = .ok (.aload_n 0, 1) := by decide +kernel
theorem d_H_plan_54 : decode y_H_plan.2.1 54 = .ok (.iload_n 1, 1) := by decide +kernel
theorem d_H_plan_55 : decode y_H_plan.2.1 55 = .ok (.iload_n 2, 1) := by decide +kernel
theorem d_H_plan_56 : decode y_H_plan.2.1 56 = .ok (.iload 4, 2) := by decide +kernel
theorem d_H_plan_58 : decode y_H_plan.2.1 58 = .ok (.invokevirtual 219, 3) := by decide +kernel
theorem d_H_plan_61 : decode y_H_plan.2.1 61 = .ok (.iconst 0, 1) := by decide +kernel
theorem d_H_plan_62 : decode y_H_plan.2.1 62 = .ok (.istore 5, 2) := by decide +kernel
theorem d_H_plan_64 : decode y_H_plan.2.1 64 = .ok (.iload 5, 2) := by decide +kernel
theorem d_H_plan_66 : decode y_H_plan.2.1 66 = .ok (.iload 4, 2) := by decide +kernel
theorem d_H_plan_68 : decode y_H_plan.2.1 68 = .ok (.if_icmp .ge 17, 3) := by decide +kernel
theorem d_H_plan_71 : decode y_H_plan.2.1 71 = .ok (.aload_n 0, 1) := by decide +kernel
theorem d_H_plan_72 : decode y_H_plan.2.1 72 = .ok (.getfield 81, 3) := by decide +kernel
theorem d_H_plan_75 : decode y_H_plan.2.1 75 = .ok (.iconst 0, 1) := by decide +kernel
theorem d_H_plan_76 : decode y_H_plan.2.1 76 = .ok (.invokevirtual 223, 3) := by decide +kernel
theorem d_H_plan_79 : decode y_H_plan.2.1 79 = .ok (.iinc 5 1, 3) := by decide +kernel
theorem d_H_plan_82 : decode y_H_plan.2.1 82 = .ok (.goto (-18), 3) := by decide +kernel
theorem d_H_plan_85 : decode y_H_plan.2.1 85 = .ok (.iconst 0, 1) := by decide +kernel
theorem d_H_plan_86 : decode y_H_plan.2.1 86 = .ok (.istore 5, 2) := by decide +kernel
theorem d_H_plan_88 : decode y_H_plan.2.1 88 = .ok (.iload_n 3, 1) := by decide +kernel
theorem d_H_plan_89 : decode y_H_plan.2.1 89 = .ok (.istore 6, 2) := by decide +kernel
theorem d_H_plan_91 : decode y_H_plan.2.1 91 = .ok (.iconst 0, 1) := by decide +kernel
theorem d_H_plan_92 : decode y_H_plan.2.1 92 = .ok (.istore 7, 2) := by decide +kernel
theorem d_H_plan_94 : decode y_H_plan.2.1 94 = .ok (.iload 7, 2) := by decide +kernel
theorem d_H_plan_96 : decode y_H_plan.2.1 96 = .ok (.iload 4, 2) := by decide +kernel
theorem d_H_plan_98 : decode y_H_plan.2.1 98 = .ok (.if_icmp .ge 70, 3) := by decide +kernel
theorem d_H_plan_101 : decode y_H_plan.2.1 101 = .ok (.iload 6, 2) := by decide +kernel
theorem d_H_plan_103 : decode y_H_plan.2.1 103 = .ok (.ifCond .le 65, 3) := by decide +kernel
theorem d_H_plan_106 : decode y_H_plan.2.1 106 = .ok (.aload_n 0, 1) := by decide +kernel
theorem d_H_plan_107 : decode y_H_plan.2.1 107 = .ok (.iload 4, 2) := by decide +kernel
theorem d_H_plan_109 : decode y_H_plan.2.1 109 = .ok (.invokevirtual 226, 3) := by decide +kernel
theorem d_H_plan_112 : decode y_H_plan.2.1 112 = .ok (.istore 8, 2) := by decide +kernel
theorem d_H_plan_114 : decode y_H_plan.2.1 114 = .ok (.iload 6, 2) := by decide +kernel
theorem d_H_plan_116 : decode y_H_plan.2.1 116 = .ok (.aload_n 0, 1) := by decide +kernel
theorem d_H_plan_117 : decode y_H_plan.2.1 117 = .ok (.getfield 19, 3) := by decide +kernel
theorem d_H_plan_120 : decode y_H_plan.2.1 120 = .ok (.getfield 185, 3) := by decide +kernel
theorem d_H_plan_123 : decode y_H_plan.2.1 123 = .ok (.invokestatic 230, 3) := by decide +kernel
theorem d_H_plan_126 : decode y_H_plan.2.1 126 = .ok (.istore 9, 2) := by decide +kernel
theorem d_H_plan_128 : decode y_H_plan.2.1 128 = .ok (.aload_n 0, 1) := by decide +kernel
theorem d_H_plan_129 : decode y_H_plan.2.1 129 = .ok (.getfield 81, 3) := by decide +kernel
theorem d_H_plan_132 : decode y_H_plan.2.1 132 = .ok (.getfield 235, 3) := by decide +kernel
theorem d_H_plan_135 : decode y_H_plan.2.1 135 = .ok (.iload 8, 2) := by decide +kernel
theorem d_H_plan_137 : decode y_H_plan.2.1 137 = .ok (.iload 9, 2) := by decide +kernel
theorem d_H_plan_139 : decode y_H_plan.2.1 139 = .ok (.iastore, 1) := by decide +kernel
theorem d_H_plan_140 : decode y_H_plan.2.1 140 = .ok (.iload 5, 2) := by decide +kernel
theorem d_H_plan_142 : decode y_H_plan.2.1 142 = .ok (.iload 9, 2) := by decide +kernel
theorem d_H_plan_144 : decode y_H_plan.2.1 144 = .ok (.aload_n 0, 1) := by decide +kernel
theorem d_H_plan_145 : decode y_H_plan.2.1 145 = .ok (.getfield 85, 3) := by decide +kernel
theorem d_H_plan_148 : decode y_H_plan.2.1 148 = .ok (.iload 8, 2) := by decide +kernel
theorem d_H_plan_150 : decode y_H_plan.2.1 150 = .ok (.iaload, 1) := by decide +kernel
theorem d_H_plan_151 : decode y_H_plan.2.1 151 = .ok (.imul, 1) := by decide +kernel
theorem d_H_plan_152 : decode y_H_plan.2.1 152 = .ok (.iadd, 1) := by decide +kernel
theorem d_H_plan_153 : decode y_H_plan.2.1 153 = .ok (.istore 5, 2) := by decide +kernel
theorem d_H_plan_155 : decode y_H_plan.2.1 155 = .ok (.iload 6, 2) := by decide +kernel
theorem d_H_plan_157 : decode y_H_plan.2.1 157 = .ok (.iload 9, 2) := by decide +kernel
theorem d_H_plan_159 : decode y_H_plan.2.1 159 = .ok (.isub, 1) := by decide +kernel
theorem d_H_plan_160 : decode y_H_plan.2.1 160 = .ok (.istore 6, 2) := by decide +kernel
theorem d_H_plan_162 : decode y_H_plan.2.1 162 = .ok (.iinc 7 1, 3) := by decide +kernel
theorem d_H_plan_165 : decode y_H_plan.2.1 165 = .ok (.goto (-71), 3) := by decide +kernel
theorem d_H_plan_168 : decode y_H_plan.2.1 168 = .ok (.iload 5, 2) := by decide +kernel
theorem d_H_plan_170 : decode y_H_plan.2.1 170 = .ok (.ireturn, 1) := by decide +kernel

abbrev y_H_canDeal : MI := (⟨"CricketHay", "canDeal", "(III)Z"⟩, prog_1_method_46_code, 4, (some .boolean))
theorem hy_H_canDeal : y_H_canDeal.1.cls ≠ "java/lang/invoke/MethodHandle" ∧ y_H_canDeal.1.cls ≠ "java/lang/invoke/VarHandle" ∧ (parseMethodDescriptor y_H_canDeal.1.desc).map (fun d => d.parameters.length) = some 3 := by decide +kernel
theorem d_H_canDeal_0 : decode y_H_canDeal.2.1 0 = .ok (.iload_n 3, 1) := by decide +kernel
theorem d_H_canDeal_1 : decode y_H_canDeal.2.1 1 = .ok (.iload_n 1, 1) := by decide +kernel
theorem d_H_canDeal_2 : decode y_H_canDeal.2.1 2 = .ok (.if_icmp .eq 42, 3) := by decide +kernel
theorem d_H_canDeal_5 : decode y_H_canDeal.2.1 5 = .ok (.iload_n 3, 1) := by decide +kernel
theorem d_H_canDeal_6 : decode y_H_canDeal.2.1 6 = .ok (.iload_n 2, 1) := by decide +kernel
theorem d_H_canDeal_7 : decode y_H_canDeal.2.1 7 = .ok (.if_icmp .eq 37, 3) := by decide +kernel
theorem d_H_canDeal_10 : decode y_H_canDeal.2.1 10 = .ok (.aload_n 0, 1) := by decide +kernel
theorem d_H_canDeal_11 : decode y_H_canDeal.2.1 11 = .ok (.iload_n 1, 1) := by decide +kernel
theorem d_H_canDeal_12 : decode y_H_canDeal.2.1 12 = .ok (.iload_n 2, 1) := by decide +kernel
theorem d_H_canDeal_13 : decode y_H_canDeal.2.1 13 = .ok (.invokevirtual 178, 3) := by decide +kernel
theorem d_H_canDeal_16 : decode y_H_canDeal.2.1 16 = .ok (.ifCond .eq 28, 3) := by decide +kernel
theorem d_H_canDeal_19 : decode y_H_canDeal.2.1 19 = .ok (.aload_n 0, 1) := by decide +kernel
theorem d_H_canDeal_20 : decode y_H_canDeal.2.1 20 = .ok (.getfield 39, 3) := by decide +kernel
theorem d_H_canDeal_23 : decode y_H_canDeal.2.1 23 = .ok (.iload_n 1, 1) := by decide +kernel
theorem d_H_canDeal_24 : decode y_H_canDeal.2.1 24 = .ok (.iload_n 3, 1) := by decide +kernel
theorem d_H_canDeal_25 : decode y_H_canDeal.2.1 25 = .ok (.invokevirtual 174, 3) := by decide +kernel
theorem d_H_canDeal_28 : decode y_H_canDeal.2.1 28 = .ok (.aload_n 0, 1) := by decide +kernel
theorem d_H_canDeal_29 : decode y_H_canDeal.2.1 29 = .ok (.getfield 29, 3) := by decide +kernel
theorem d_H_canDeal_32 : decode y_H_canDeal.2.1 32 = .ok (.getfield 128, 3) := by decide +kernel
theorem d_H_canDeal_35 : decode y_H_canDeal.2.1 35 = .ok (.iload_n 3, 1) := by decide +kernel
theorem d_H_canDeal_36 : decode y_H_canDeal.2.1 36 = .ok (.iaload, 1) := by decide +kernel
theorem d_H_canDeal_37 : decode y_H_canDeal.2.1 37 = .ok (.if_icmp .gt 7, 3) := by decide +kernel
theorem d_H_canDeal_40 : decode y_H_canDeal.2.1 40 = .ok (.iconst 1, 1) := by decide +kernel
theorem d_H_canDeal_41 : decode y_H_canDeal.2.1 41 = .ok (.goto 4, 3) := by decide +kernel
theorem d_H_canDeal_44 : decode y_H_canDeal.2.1 44 = .ok (.iconst 0, 1) := by decide +kernel
theorem d_H_canDeal_45 : decode y_H_canDeal.2.1 45 = .ok (.ireturn, 1) := by decide +kernel

abbrev y_H_gain : MI := (⟨"CricketHay", "gain", "(I)I"⟩, prog_1_method_22_code, 6, (some .int))
theorem hy_H_gain : y_H_gain.1.cls ≠ "java/lang/invoke/MethodHandle" ∧ y_H_gain.1.cls ≠ "java/lang/invoke/VarHandle" ∧ (parseMethodDescriptor y_H_gain.1.desc).map (fun d => d.parameters.length) = some 1 := by decide +kernel
theorem d_H_gain_0 : decode y_H_gain.2.1 0 = .ok (.aload_n 0, 1) := by decide +kernel
theorem d_H_gain_1 : decode y_H_gain.2.1 1 = .ok (.getfield 81, 3) := by decide +kernel
theorem d_H_gain_4 : decode y_H_gain.2.1 4 = .ok (.invokevirtual 112, 3) := by decide +kernel
theorem d_H_gain_7 : decode y_H_gain.2.1 7 = .ok (.aload_n 0, 1) := by decide +kernel
theorem d_H_gain_8 : decode y_H_gain.2.1 8 = .ok (.getfield 19, 3) := by decide +kernel
theorem d_H_gain_11 : decode y_H_gain.2.1 11 = .ok (.iload_n 1, 1) := by decide +kernel
theorem d_H_gain_12 : decode y_H_gain.2.1 12 = .ok (.invokevirtual 124, 3) := by decide +kernel
theorem d_H_gain_15 : decode y_H_gain.2.1 15 = .ok (.ifCond .ne 7, 3) := by decide +kernel
theorem d_H_gain_18 : decode y_H_gain.2.1 18 = .ok (.sipush (-1000), 3) := by decide +kernel
theorem d_H_gain_21 : decode y_H_gain.2.1 21 = .ok (.ireturn, 1) := by decide +kernel
theorem d_H_gain_22 : decode y_H_gain.2.1 22 = .ok (.aload_n 0, 1) := by decide +kernel
theorem d_H_gain_23 : decode y_H_gain.2.1 23 = .ok (.getfield 39, 3) := by decide +kernel
theorem d_H_gain_26 : decode y_H_gain.2.1 26 = .ok (.aload_n 0, 1) := by decide +kernel
theorem d_H_gain_27 : decode y_H_gain.2.1 27 = .ok (.getfield 19, 3) := by decide +kernel
theorem d_H_gain_30 : decode y_H_gain.2.1 30 = .ok (.aload_n 0, 1) := by decide +kernel
theorem d_H_gain_31 : decode y_H_gain.2.1 31 = .ok (.getfield 29, 3) := by decide +kernel
theorem d_H_gain_34 : decode y_H_gain.2.1 34 = .ok (.invokevirtual 155, 3) := by decide +kernel
theorem d_H_gain_37 : decode y_H_gain.2.1 37 = .ok (.sipush (-1000), 3) := by decide +kernel
theorem d_H_gain_40 : decode y_H_gain.2.1 40 = .ok (.istore_n 2, 1) := by decide +kernel
theorem d_H_gain_41 : decode y_H_gain.2.1 41 = .ok (.iconst 0, 1) := by decide +kernel
theorem d_H_gain_42 : decode y_H_gain.2.1 42 = .ok (.istore_n 3, 1) := by decide +kernel
theorem d_H_gain_43 : decode y_H_gain.2.1 43 = .ok (.iload_n 3, 1) := by decide +kernel
theorem d_H_gain_44 : decode y_H_gain.2.1 44 = .ok (.aload_n 0, 1) := by decide +kernel
theorem d_H_gain_45 : decode y_H_gain.2.1 45 = .ok (.getfield 19, 3) := by decide +kernel
theorem d_H_gain_48 : decode y_H_gain.2.1 48 = .ok (.getfield 115, 3) := by decide +kernel
theorem d_H_gain_51 : decode y_H_gain.2.1 51 = .ok (.if_icmp .ge 96, 3) := by decide +kernel
theorem d_H_gain_54 : decode y_H_gain.2.1 54 = .ok (.iconst 0, 1) := by decide +kernel
theorem d_H_gain_55 : decode y_H_gain.2.1 55 = .ok (.istore 4, 2) := by decide +kernel
theorem d_H_gain_57 : decode y_H_gain.2.1 57 = .ok (.iload 4, 2) := by decide +kernel
theorem d_H_gain_59 : decode y_H_gain.2.1 59 = .ok (.aload_n 0, 1) := by decide +kernel
theorem d_H_gain_60 : decode y_H_gain.2.1 60 = .ok (.getfield 19, 3) := by decide +kernel
theorem d_H_gain_63 : decode y_H_gain.2.1 63 = .ok (.getfield 115, 3) := by decide +kernel
theorem d_H_gain_66 : decode y_H_gain.2.1 66 = .ok (.if_icmp .ge 75, 3) := by decide +kernel
theorem d_H_gain_69 : decode y_H_gain.2.1 69 = .ok (.aload_n 0, 1) := by decide +kernel
theorem d_H_gain_70 : decode y_H_gain.2.1 70 = .ok (.getfield 39, 3) := by decide +kernel
theorem d_H_gain_73 : decode y_H_gain.2.1 73 = .ok (.iload_n 1, 1) := by decide +kernel
theorem d_H_gain_74 : decode y_H_gain.2.1 74 = .ok (.iload 4, 2) := by decide +kernel
theorem d_H_gain_76 : decode y_H_gain.2.1 76 = .ok (.invokevirtual 174, 3) := by decide +kernel
theorem d_H_gain_79 : decode y_H_gain.2.1 79 = .ok (.aload_n 0, 1) := by decide +kernel
theorem d_H_gain_80 : decode y_H_gain.2.1 80 = .ok (.getfield 39, 3) := by decide +kernel
theorem d_H_gain_83 : decode y_H_gain.2.1 83 = .ok (.iload_n 1, 1) := by decide +kernel
theorem d_H_gain_84 : decode y_H_gain.2.1 84 = .ok (.iload_n 3, 1) := by decide +kernel
theorem d_H_gain_85 : decode y_H_gain.2.1 85 = .ok (.invokevirtual 174, 3) := by decide +kernel
theorem d_H_gain_88 : decode y_H_gain.2.1 88 = .ok (.isub, 1) := by decide +kernel
theorem d_H_gain_89 : decode y_H_gain.2.1 89 = .ok (.istore 5, 2) := by decide +kernel
theorem d_H_gain_91 : decode y_H_gain.2.1 91 = .ok (.aload_n 0, 1) := by decide +kernel
theorem d_H_gain_92 : decode y_H_gain.2.1 92 = .ok (.iload_n 1, 1) := by decide +kernel
theorem d_H_gain_93 : decode y_H_gain.2.1 93 = .ok (.iload_n 3, 1) := by decide +kernel
theorem d_H_gain_94 : decode y_H_gain.2.1 94 = .ok (.iload 4, 2) := by decide +kernel
theorem d_H_gain_96 : decode y_H_gain.2.1 96 = .ok (.invokevirtual 238, 3) := by decide +kernel
theorem d_H_gain_99 : decode y_H_gain.2.1 99 = .ok (.ifCond .eq 36, 3) := by decide +kernel
theorem d_H_gain_102 : decode y_H_gain.2.1 102 = .ok (.iload 5, 2) := by decide +kernel
theorem d_H_gain_104 : decode y_H_gain.2.1 104 = .ok (.iload_n 2, 1) := by decide +kernel
theorem d_H_gain_105 : decode y_H_gain.2.1 105 = .ok (.if_icmp .le 30, 3) := by decide +kernel
theorem d_H_gain_108 : decode y_H_gain.2.1 108 = .ok (.iload 5, 2) := by decide +kernel
theorem d_H_gain_110 : decode y_H_gain.2.1 110 = .ok (.istore_n 2, 1) := by decide +kernel
theorem d_H_gain_111 : decode y_H_gain.2.1 111 = .ok (.aload_n 0, 1) := by decide +kernel
theorem d_H_gain_112 : decode y_H_gain.2.1 112 = .ok (.getfield 81, 3) := by decide +kernel
theorem d_H_gain_115 : decode y_H_gain.2.1 115 = .ok (.invokevirtual 112, 3) := by decide +kernel
theorem d_H_gain_118 : decode y_H_gain.2.1 118 = .ok (.aload_n 0, 1) := by decide +kernel
theorem d_H_gain_119 : decode y_H_gain.2.1 119 = .ok (.getfield 81, 3) := by decide +kernel
theorem d_H_gain_122 : decode y_H_gain.2.1 122 = .ok (.iload_n 3, 1) := by decide +kernel
theorem d_H_gain_123 : decode y_H_gain.2.1 123 = .ok (.invokevirtual 223, 3) := by decide +kernel
theorem d_H_gain_126 : decode y_H_gain.2.1 126 = .ok (.aload_n 0, 1) := by decide +kernel
theorem d_H_gain_127 : decode y_H_gain.2.1 127 = .ok (.getfield 81, 3) := by decide +kernel
theorem d_H_gain_130 : decode y_H_gain.2.1 130 = .ok (.iload 4, 2) := by decide +kernel
theorem d_H_gain_132 : decode y_H_gain.2.1 132 = .ok (.invokevirtual 223, 3) := by decide +kernel
theorem d_H_gain_135 : decode y_H_gain.2.1 135 = .ok (.iinc 4 1, 3) := by decide +kernel
theorem d_H_gain_138 : decode y_H_gain.2.1 138 = .ok (.goto (-81), 3) := by decide +kernel
theorem d_H_gain_141 : decode y_H_gain.2.1 141 = .ok (.iinc 3 1, 3) := by decide +kernel
theorem d_H_gain_144 : decode y_H_gain.2.1 144 = .ok (.goto (-101), 3) := by decide +kernel
theorem d_H_gain_147 : decode y_H_gain.2.1 147 = .ok (.iload_n 2, 1) := by decide +kernel
theorem d_H_gain_148 : decode y_H_gain.2.1 148 = .ok (.ireturn, 1) := by decide +kernel

abbrev y_Clearing_compare : MI := (⟨"CricketHay$Clearing", "compare", "(II)V"⟩, prog_5_method_4_code, 3, none)
theorem hy_Clearing_compare : y_Clearing_compare.1.cls ≠ "java/lang/invoke/MethodHandle" ∧ y_Clearing_compare.1.cls ≠ "java/lang/invoke/VarHandle" ∧ (parseMethodDescriptor y_Clearing_compare.1.desc).map (fun d => d.parameters.length) = some 2 := by decide +kernel
theorem d_Clearing_compare_0 : decode y_Clearing_compare.2.1 0 = .ok (.iload_n 1, 1) := by decide +kernel
theorem d_Clearing_compare_1 : decode y_Clearing_compare.2.1 1 = .ok (.aload_n 0, 1) := by decide +kernel
theorem d_Clearing_compare_2 : decode y_Clearing_compare.2.1 2 = .ok (.getfield 21, 3) := by decide +kernel
theorem d_Clearing_compare_5 : decode y_Clearing_compare.2.1 5 = .ok (.if_icmp .gt 19, 3) := by decide +kernel
theorem d_Clearing_compare_8 : decode y_Clearing_compare.2.1 8 = .ok (.iload_n 1, 1) := by decide +kernel
theorem d_Clearing_compare_9 : decode y_Clearing_compare.2.1 9 = .ok (.aload_n 0, 1) := by decide +kernel
theorem d_Clearing_compare_10 : decode y_Clearing_compare.2.1 10 = .ok (.getfield 21, 3) := by decide +kernel
theorem d_Clearing_compare_13 : decode y_Clearing_compare.2.1 13 = .ok (.if_icmp .ne 36, 3) := by decide +kernel
theorem d_Clearing_compare_16 : decode y_Clearing_compare.2.1 16 = .ok (.iload_n 2, 1) := by decide +kernel
theorem d_Clearing_compare_17 : decode y_Clearing_compare.2.1 17 = .ok (.aload_n 0, 1) := by decide +kernel
theorem d_Clearing_compare_18 : decode y_Clearing_compare.2.1 18 = .ok (.getfield 25, 3) := by decide +kernel
theorem d_Clearing_compare_21 : decode y_Clearing_compare.2.1 21 = .ok (.if_icmp .ge 28, 3) := by decide +kernel
theorem d_Clearing_compare_24 : decode y_Clearing_compare.2.1 24 = .ok (.aload_n 0, 1) := by decide +kernel
theorem d_Clearing_compare_25 : decode y_Clearing_compare.2.1 25 = .ok (.iload_n 1, 1) := by decide +kernel
theorem d_Clearing_compare_26 : decode y_Clearing_compare.2.1 26 = .ok (.putfield 21, 3) := by decide +kernel
theorem d_Clearing_compare_29 : decode y_Clearing_compare.2.1 29 = .ok (.aload_n 0, 1) := by decide +kernel
theorem d_Clearing_compare_30 : decode y_Clearing_compare.2.1 30 = .ok (.iload_n 2, 1) := by decide +kernel
theorem d_Clearing_compare_31 : decode y_Clearing_compare.2.1 31 = .ok (.putfield 25, 3) := by decide +kernel
theorem d_Clearing_compare_34 : decode y_Clearing_compare.2.1 34 = .ok (.aload_n 0, 1) := by decide +kernel
theorem d_Clearing_compare_35 : decode y_Clearing_compare.2.1 35 = .ok (.getfield 15, 3) := by decide +kernel
theorem d_Clearing_compare_38 : decode y_Clearing_compare.2.1 38 = .ok (.iconst 0, 1) := by decide +kernel
theorem d_Clearing_compare_39 : decode y_Clearing_compare.2.1 39 = .ok (.aload_n 0, 1) := by decide +kernel
theorem d_Clearing_compare_40 : decode y_Clearing_compare.2.1 40 = .ok (.getfield 18, 3) := by decide +kernel
theorem d_Clearing_compare_43 : decode y_Clearing_compare.2.1 43 = .ok (.iconst 0, 1) := by decide +kernel
theorem d_Clearing_compare_44 : decode y_Clearing_compare.2.1 44 = .ok (.bipush 6, 2) := by decide +kernel
theorem d_Clearing_compare_46 : decode y_Clearing_compare.2.1 46 = .ok (.invokestatic 70, 3) := by decide +kernel
theorem d_Clearing_compare_49 : decode y_Clearing_compare.2.1 49 = .ok (.return_, 1) := by decide +kernel

abbrev y_Clearing_choose : MI := (⟨"CricketHay$Clearing", "choose", "(III)V"⟩, prog_5_method_3_code, 6, none)
theorem hy_Clearing_choose : y_Clearing_choose.1.cls ≠ "java/lang/invoke/MethodHandle" ∧ y_Clearing_choose.1.cls ≠ "java/lang/invoke/VarHandle" ∧ (parseMethodDescriptor y_Clearing_choose.1.desc).map (fun d => d.parameters.length) = some 3 := by decide +kernel
theorem d_Clearing_choose_0 : decode y_Clearing_choose.2.1 0 = .ok (.iload_n 1, 1) := by decide +kernel
theorem d_Clearing_choose_1 : decode y_Clearing_choose.2.1 1 = .ok (.aload_n 0, 1) := by decide +kernel
theorem d_Clearing_choose_2 : decode y_Clearing_choose.2.1 2 = .ok (.getfield 28, 3) := by decide +kernel
theorem d_Clearing_choose_5 : decode y_Clearing_choose.2.1 5 = .ok (.getfield 40, 3) := by decide +kernel
theorem d_Clearing_choose_8 : decode y_Clearing_choose.2.1 8 = .ok (.if_icmp .lt 10, 3) := by decide +kernel
theorem d_Clearing_choose_11 : decode y_Clearing_choose.2.1 11 = .ok (.aload_n 0, 1) := by decide +kernel
theorem d_Clearing_choose_12 : decode y_Clearing_choose.2.1 12 = .ok (.iload_n 2, 1) := by decide +kernel
theorem d_Clearing_choose_13 : decode y_Clearing_choose.2.1 13 = .ok (.iload_n 3, 1) := by decide +kernel
theorem d_Clearing_choose_14 : decode y_Clearing_choose.2.1 14 = .ok (.invokevirtual 57, 3) := by decide +kernel
theorem d_Clearing_choose_17 : decode y_Clearing_choose.2.1 17 = .ok (.return_, 1) := by decide +kernel
theorem d_Clearing_choose_18 : decode y_Clearing_choose.2.1 18 = .ok (.aload_n 0, 1) := by decide +kernel
theorem d_Clearing_choose_19 : decode y_Clearing_choose.2.1 19 = .ok (.getfield 15, 3) := by decide +kernel
theorem d_Clearing_choose_22 : decode y_Clearing_choose.2.1 22 = .ok (.iload_n 1, 1) := by decide +kernel
theorem d_Clearing_choose_23 : decode y_Clearing_choose.2.1 23 = .ok (.iconst (-1), 1) := by decide +kernel
theorem d_Clearing_choose_24 : decode y_Clearing_choose.2.1 24 = .ok (.iastore, 1) := by decide +kernel
theorem d_Clearing_choose_25 : decode y_Clearing_choose.2.1 25 = .ok (.aload_n 0, 1) := by decide +kernel
theorem d_Clearing_choose_26 : decode y_Clearing_choose.2.1 26 = .ok (.iload_n 1, 1) := by decide +kernel
theorem d_Clearing_choose_27 : decode y_Clearing_choose.2.1 27 = .ok (.iconst 1, 1) := by decide +kernel
theorem d_Clearing_choose_28 : decode y_Clearing_choose.2.1 28 = .ok (.iadd, 1) := by decide +kernel
theorem d_Clearing_choose_29 : decode y_Clearing_choose.2.1 29 = .ok (.iload_n 2, 1) := by decide +kernel
theorem d_Clearing_choose_30 : decode y_Clearing_choose.2.1 30 = .ok (.iload_n 3, 1) := by decide +kernel
theorem d_Clearing_choose_31 : decode y_Clearing_choose.2.1 31 = .ok (.invokevirtual 53, 3) := by decide +kernel
theorem d_Clearing_choose_34 : decode y_Clearing_choose.2.1 34 = .ok (.aload_n 0, 1) := by decide +kernel
theorem d_Clearing_choose_35 : decode y_Clearing_choose.2.1 35 = .ok (.getfield 32, 3) := by decide +kernel
theorem d_Clearing_choose_38 : decode y_Clearing_choose.2.1 38 = .ok (.getfield 45, 3) := by decide +kernel
theorem d_Clearing_choose_41 : decode y_Clearing_choose.2.1 41 = .ok (.iload_n 1, 1) := by decide +kernel
theorem d_Clearing_choose_42 : decode y_Clearing_choose.2.1 42 = .ok (.iaload, 1) := by decide +kernel
theorem d_Clearing_choose_43 : decode y_Clearing_choose.2.1 43 = .ok (.aload_n 0, 1) := by decide +kernel
theorem d_Clearing_choose_44 : decode y_Clearing_choose.2.1 44 = .ok (.getfield 28, 3) := by decide +kernel
theorem d_Clearing_choose_47 : decode y_Clearing_choose.2.1 47 = .ok (.getfield 50, 3) := by decide +kernel
theorem d_Clearing_choose_50 : decode y_Clearing_choose.2.1 50 = .ok (.iload_n 1, 1) := by decide +kernel
theorem d_Clearing_choose_51 : decode y_Clearing_choose.2.1 51 = .ok (.iaload, 1) := by decide +kernel
theorem d_Clearing_choose_52 : decode y_Clearing_choose.2.1 52 = .ok (.if_icmp .lt 4, 3) := by decide +kernel
theorem d_Clearing_choose_55 : decode y_Clearing_choose.2.1 55 = .ok (.return_, 1) := by decide +kernel
theorem d_Clearing_choose_56 : decode y_Clearing_choose.2.1 56 = .ok (.iconst 0, 1) := by decide +kernel
theorem d_Clearing_choose_57 : decode y_Clearing_choose.2.1 57 = .ok (.istore 4, 2) := by decide +kernel
theorem d_Clearing_choose_59 : decode y_Clearing_choose.2.1 59 = .ok (.iload 4, 2) := by decide +kernel
theorem d_Clearing_choose_61 : decode y_Clearing_choose.2.1 61 = .ok (.aload_n 0, 1) := by decide +kernel
theorem d_Clearing_choose_62 : decode y_Clearing_choose.2.1 62 = .ok (.getfield 28, 3) := by decide +kernel
theorem d_Clearing_choose_65 : decode y_Clearing_choose.2.1 65 = .ok (.getfield 40, 3) := by decide +kernel
theorem d_Clearing_choose_68 : decode y_Clearing_choose.2.1 68 = .ok (.if_icmp .ge 89, 3) := by decide +kernel
theorem d_Clearing_choose_71 : decode y_Clearing_choose.2.1 71 = .ok (.aload_n 0, 1) := by decide +kernel
theorem d_Clearing_choose_72 : decode y_Clearing_choose.2.1 72 = .ok (.getfield 36, 3) := by decide +kernel
theorem d_Clearing_choose_75 : decode y_Clearing_choose.2.1 75 = .ok (.iload_n 1, 1) := by decide +kernel
theorem d_Clearing_choose_76 : decode y_Clearing_choose.2.1 76 = .ok (.iload 4, 2) := by decide +kernel
theorem d_Clearing_choose_78 : decode y_Clearing_choose.2.1 78 = .ok (.invokevirtual 61, 3) := by decide +kernel
theorem d_Clearing_choose_81 : decode y_Clearing_choose.2.1 81 = .ok (.istore 5, 2) := by decide +kernel
theorem d_Clearing_choose_83 : decode y_Clearing_choose.2.1 83 = .ok (.aload_n 0, 1) := by decide +kernel
theorem d_Clearing_choose_84 : decode y_Clearing_choose.2.1 84 = .ok (.getfield 9, 3) := by decide +kernel
theorem d_Clearing_choose_87 : decode y_Clearing_choose.2.1 87 = .ok (.iload 4, 2) := by decide +kernel
theorem d_Clearing_choose_89 : decode y_Clearing_choose.2.1 89 = .ok (.iaload, 1) := by decide +kernel
theorem d_Clearing_choose_90 : decode y_Clearing_choose.2.1 90 = .ok (.ifCond .le 61, 3) := by decide +kernel
theorem d_Clearing_choose_93 : decode y_Clearing_choose.2.1 93 = .ok (.iload 5, 2) := by decide +kernel
theorem d_Clearing_choose_95 : decode y_Clearing_choose.2.1 95 = .ok (.aload_n 0, 1) := by decide +kernel
theorem d_Clearing_choose_96 : decode y_Clearing_choose.2.1 96 = .ok (.getfield 32, 3) := by decide +kernel
theorem d_Clearing_choose_99 : decode y_Clearing_choose.2.1 99 = .ok (.getfield 67, 3) := by decide +kernel
theorem d_Clearing_choose_102 : decode y_Clearing_choose.2.1 102 = .ok (.iload_n 1, 1) := by decide +kernel
theorem d_Clearing_choose_103 : decode y_Clearing_choose.2.1 103 = .ok (.iaload, 1) := by decide +kernel
theorem d_Clearing_choose_104 : decode y_Clearing_choose.2.1 104 = .ok (.if_icmp .gt 47, 3) := by decide +kernel
theorem d_Clearing_choose_107 : decode y_Clearing_choose.2.1 107 = .ok (.aload_n 0, 1) := by decide +kernel
theorem d_Clearing_choose_108 : decode y_Clearing_choose.2.1 108 = .ok (.getfield 9, 3) := by decide +kernel
theorem d_Clearing_choose_111 : decode y_Clearing_choose.2.1 111 = .ok (.iload 4, 2) := by decide +kernel
theorem d_Clearing_choose_113 : decode y_Clearing_choose.2.1 113 = .ok (.dup2, 1) := by decide +kernel
theorem d_Clearing_choose_114 : decode y_Clearing_choose.2.1 114 = .ok (.iaload, 1) := by decide +kernel
theorem d_Clearing_choose_115 : decode y_Clearing_choose.2.1 115 = .ok (.iconst 1, 1) := by decide +kernel
theorem d_Clearing_choose_116 : decode y_Clearing_choose.2.1 116 = .ok (.isub, 1) := by decide +kernel
theorem d_Clearing_choose_117 : decode y_Clearing_choose.2.1 117 = .ok (.iastore, 1) := by decide +kernel
theorem d_Clearing_choose_118 : decode y_Clearing_choose.2.1 118 = .ok (.aload_n 0, 1) := by decide +kernel
theorem d_Clearing_choose_119 : decode y_Clearing_choose.2.1 119 = .ok (.getfield 15, 3) := by decide +kernel
theorem d_Clearing_choose_122 : decode y_Clearing_choose.2.1 122 = .ok (.iload_n 1, 1) := by decide +kernel
theorem d_Clearing_choose_123 : decode y_Clearing_choose.2.1 123 = .ok (.iload 4, 2) := by decide +kernel
theorem d_Clearing_choose_125 : decode y_Clearing_choose.2.1 125 = .ok (.iastore, 1) := by decide +kernel
theorem d_Clearing_choose_126 : decode y_Clearing_choose.2.1 126 = .ok (.aload_n 0, 1) := by decide +kernel
theorem d_Clearing_choose_127 : decode y_Clearing_choose.2.1 127 = .ok (.iload_n 1, 1) := by decide +kernel
theorem d_Clearing_choose_128 : decode y_Clearing_choose.2.1 128 = .ok (.iconst 1, 1) := by decide +kernel
theorem d_Clearing_choose_129 : decode y_Clearing_choose.2.1 129 = .ok (.iadd, 1) := by decide +kernel
theorem d_Clearing_choose_130 : decode y_Clearing_choose.2.1 130 = .ok (.iload_n 2, 1) := by decide +kernel
theorem d_Clearing_choose_131 : decode y_Clearing_choose.2.1 131 = .ok (.iconst 1, 1) := by decide +kernel
theorem d_Clearing_choose_132 : decode y_Clearing_choose.2.1 132 = .ok (.iadd, 1) := by decide +kernel
theorem d_Clearing_choose_133 : decode y_Clearing_choose.2.1 133 = .ok (.iload_n 3, 1) := by decide +kernel
theorem d_Clearing_choose_134 : decode y_Clearing_choose.2.1 134 = .ok (.iload 5, 2) := by decide +kernel
theorem d_Clearing_choose_136 : decode y_Clearing_choose.2.1 136 = .ok (.iadd, 1) := by decide +kernel
theorem d_Clearing_choose_137 : decode y_Clearing_choose.2.1 137 = .ok (.invokevirtual 53, 3) := by decide +kernel
theorem d_Clearing_choose_140 : decode y_Clearing_choose.2.1 140 = .ok (.aload_n 0, 1) := by decide +kernel
theorem d_Clearing_choose_141 : decode y_Clearing_choose.2.1 141 = .ok (.getfield 9, 3) := by decide +kernel
theorem d_Clearing_choose_144 : decode y_Clearing_choose.2.1 144 = .ok (.iload 4, 2) := by decide +kernel
theorem d_Clearing_choose_146 : decode y_Clearing_choose.2.1 146 = .ok (.dup2, 1) := by decide +kernel
theorem d_Clearing_choose_147 : decode y_Clearing_choose.2.1 147 = .ok (.iaload, 1) := by decide +kernel
theorem d_Clearing_choose_148 : decode y_Clearing_choose.2.1 148 = .ok (.iconst 1, 1) := by decide +kernel
theorem d_Clearing_choose_149 : decode y_Clearing_choose.2.1 149 = .ok (.iadd, 1) := by decide +kernel
theorem d_Clearing_choose_150 : decode y_Clearing_choose.2.1 150 = .ok (.iastore, 1) := by decide +kernel
theorem d_Clearing_choose_151 : decode y_Clearing_choose.2.1 151 = .ok (.iinc 4 1, 3) := by decide +kernel
theorem d_Clearing_choose_154 : decode y_Clearing_choose.2.1 154 = .ok (.goto (-95), 3) := by decide +kernel
theorem d_Clearing_choose_157 : decode y_Clearing_choose.2.1 157 = .ok (.return_, 1) := by decide +kernel

abbrev y_Clearing_settle : MI := (⟨"CricketHay$Clearing", "settle", "(LCricketHay$Market;LCricketHay$Yard;LCricketHay$Choir;)V"⟩, prog_5_method_2_code, 5, none)
theorem hy_Clearing_settle : y_Clearing_settle.1.cls ≠ "java/lang/invoke/MethodHandle" ∧ y_Clearing_settle.1.cls ≠ "java/lang/invoke/VarHandle" ∧ (parseMethodDescriptor y_Clearing_settle.1.desc).map (fun d => d.parameters.length) = some 3 := by decide +kernel
theorem d_Clearing_settle_0 : decode y_Clearing_settle.2.1 0 = .ok (.aload_n 0, 1) := by decide +kernel
theorem d_Clearing_settle_1 : decode y_Clearing_settle.2.1 1 = .ok (.aload_n 1, 1) := by decide +kernel
theorem d_Clearing_settle_2 : decode y_Clearing_settle.2.1 2 = .ok (.putfield 28, 3) := by decide +kernel
theorem d_Clearing_settle_5 : decode y_Clearing_settle.2.1 5 = .ok (.aload_n 0, 1) := by decide +kernel
theorem d_Clearing_settle_6 : decode y_Clearing_settle.2.1 6 = .ok (.aload_n 2, 1) := by decide +kernel
theorem d_Clearing_settle_7 : decode y_Clearing_settle.2.1 7 = .ok (.putfield 32, 3) := by decide +kernel
theorem d_Clearing_settle_10 : decode y_Clearing_settle.2.1 10 = .ok (.aload_n 0, 1) := by decide +kernel
theorem d_Clearing_settle_11 : decode y_Clearing_settle.2.1 11 = .ok (.aload_n 3, 1) := by decide +kernel
theorem d_Clearing_settle_12 : decode y_Clearing_settle.2.1 12 = .ok (.putfield 36, 3) := by decide +kernel
theorem d_Clearing_settle_15 : decode y_Clearing_settle.2.1 15 = .ok (.aload_n 0, 1) := by decide +kernel
theorem d_Clearing_settle_16 : decode y_Clearing_settle.2.1 16 = .ok (.iconst (-1), 1) := by decide +kernel
theorem d_Clearing_settle_17 : decode y_Clearing_settle.2.1 17 = .ok (.putfield 21, 3) := by decide +kernel
theorem d_Clearing_settle_20 : decode y_Clearing_settle.2.1 20 = .ok (.aload_n 0, 1) := by decide +kernel
theorem d_Clearing_settle_21 : decode y_Clearing_settle.2.1 21 = .ok (.iconst 0, 1) := by decide +kernel
theorem d_Clearing_settle_22 : decode y_Clearing_settle.2.1 22 = .ok (.putfield 25, 3) := by decide +kernel
theorem d_Clearing_settle_25 : decode y_Clearing_settle.2.1 25 = .ok (.iconst 0, 1) := by decide +kernel
theorem d_Clearing_settle_26 : decode y_Clearing_settle.2.1 26 = .ok (.istore 4, 2) := by decide +kernel
theorem d_Clearing_settle_28 : decode y_Clearing_settle.2.1 28 = .ok (.iload 4, 2) := by decide +kernel
theorem d_Clearing_settle_30 : decode y_Clearing_settle.2.1 30 = .ok (.aload_n 0, 1) := by decide +kernel
theorem d_Clearing_settle_31 : decode y_Clearing_settle.2.1 31 = .ok (.getfield 28, 3) := by decide +kernel
theorem d_Clearing_settle_34 : decode y_Clearing_settle.2.1 34 = .ok (.getfield 40, 3) := by decide +kernel
theorem d_Clearing_settle_37 : decode y_Clearing_settle.2.1 37 = .ok (.if_icmp .ge 37, 3) := by decide +kernel
theorem d_Clearing_settle_40 : decode y_Clearing_settle.2.1 40 = .ok (.aload_n 0, 1) := by decide +kernel
theorem d_Clearing_settle_41 : decode y_Clearing_settle.2.1 41 = .ok (.getfield 9, 3) := by decide +kernel
theorem d_Clearing_settle_44 : decode y_Clearing_settle.2.1 44 = .ok (.iload 4, 2) := by decide +kernel
theorem d_Clearing_settle_46 : decode y_Clearing_settle.2.1 46 = .ok (.aload_n 0, 1) := by decide +kernel
theorem d_Clearing_settle_47 : decode y_Clearing_settle.2.1 47 = .ok (.getfield 32, 3) := by decide +kernel
theorem d_Clearing_settle_50 : decode y_Clearing_settle.2.1 50 = .ok (.getfield 45, 3) := by decide +kernel
theorem d_Clearing_settle_53 : decode y_Clearing_settle.2.1 53 = .ok (.iload 4, 2) := by decide +kernel
theorem d_Clearing_settle_55 : decode y_Clearing_settle.2.1 55 = .ok (.iaload, 1) := by decide +kernel
theorem d_Clearing_settle_56 : decode y_Clearing_settle.2.1 56 = .ok (.aload_n 0, 1) := by decide +kernel
theorem d_Clearing_settle_57 : decode y_Clearing_settle.2.1 57 = .ok (.getfield 28, 3) := by decide +kernel
theorem d_Clearing_settle_60 : decode y_Clearing_settle.2.1 60 = .ok (.getfield 50, 3) := by decide +kernel
theorem d_Clearing_settle_63 : decode y_Clearing_settle.2.1 63 = .ok (.iload 4, 2) := by decide +kernel
theorem d_Clearing_settle_65 : decode y_Clearing_settle.2.1 65 = .ok (.iaload, 1) := by decide +kernel
theorem d_Clearing_settle_66 : decode y_Clearing_settle.2.1 66 = .ok (.isub, 1) := by decide +kernel
theorem d_Clearing_settle_67 : decode y_Clearing_settle.2.1 67 = .ok (.iastore, 1) := by decide +kernel
theorem d_Clearing_settle_68 : decode y_Clearing_settle.2.1 68 = .ok (.iinc 4 1, 3) := by decide +kernel
theorem d_Clearing_settle_71 : decode y_Clearing_settle.2.1 71 = .ok (.goto (-43), 3) := by decide +kernel
theorem d_Clearing_settle_74 : decode y_Clearing_settle.2.1 74 = .ok (.aload_n 0, 1) := by decide +kernel
theorem d_Clearing_settle_75 : decode y_Clearing_settle.2.1 75 = .ok (.iconst 0, 1) := by decide +kernel
theorem d_Clearing_settle_76 : decode y_Clearing_settle.2.1 76 = .ok (.iconst 0, 1) := by decide +kernel
theorem d_Clearing_settle_77 : decode y_Clearing_settle.2.1 77 = .ok (.iconst 0, 1) := by decide +kernel
theorem d_Clearing_settle_78 : decode y_Clearing_settle.2.1 78 = .ok (.invokevirtual 53, 3) := by decide +kernel
theorem d_Clearing_settle_81 : decode y_Clearing_settle.2.1 81 = .ok (.return_, 1) := by decide +kernel

abbrev y_H_clear : MI := (⟨"CricketHay", "clear", "(I)I"⟩, prog_1_method_23_code, 3, (some .int))
theorem hy_H_clear : y_H_clear.1.cls ≠ "java/lang/invoke/MethodHandle" ∧ y_H_clear.1.cls ≠ "java/lang/invoke/VarHandle" ∧ (parseMethodDescriptor y_H_clear.1.desc).map (fun d => d.parameters.length) = some 1 := by decide +kernel
theorem d_H_clear_0 : decode y_H_clear.2.1 0 = .ok (.aload_n 0, 1) := by decide +kernel
theorem d_H_clear_1 : decode y_H_clear.2.1 1 = .ok (.getfield 81, 3) := by decide +kernel
theorem d_H_clear_4 : decode y_H_clear.2.1 4 = .ok (.invokevirtual 112, 3) := by decide +kernel
theorem d_H_clear_7 : decode y_H_clear.2.1 7 = .ok (.iload_n 1, 1) := by decide +kernel
theorem d_H_clear_8 : decode y_H_clear.2.1 8 = .ok (.ifCond .eq 10, 3) := by decide +kernel
theorem d_H_clear_11 : decode y_H_clear.2.1 11 = .ok (.iload_n 1, 1) := by decide +kernel
theorem d_H_clear_12 : decode y_H_clear.2.1 12 = .ok (.iconst 1, 1) := by decide +kernel
theorem d_H_clear_13 : decode y_H_clear.2.1 13 = .ok (.if_icmp .eq 5, 3) := by decide +kernel
theorem d_H_clear_16 : decode y_H_clear.2.1 16 = .ok (.iconst (-1), 1) := by decide +kernel
theorem d_H_clear_17 : decode y_H_clear.2.1 17 = .ok (.ireturn, 1) := by decide +kernel
theorem d_H_clear_18 : decode y_H_clear.2.1 18 = .ok (.aload_n 0, 1) := by decide +kernel
theorem d_H_clear_19 : decode y_H_clear.2.1 19 = .ok (.getfield 39, 3) := by decide +kernel
theorem d_H_clear_22 : decode y_H_clear.2.1 22 = .ok (.aload_n 0, 1) := by decide +kernel
theorem d_H_clear_23 : decode y_H_clear.2.1 23 = .ok (.getfield 19, 3) := by decide +kernel
theorem d_H_clear_26 : decode y_H_clear.2.1 26 = .ok (.aload_n 0, 1) := by decide +kernel
theorem d_H_clear_27 : decode y_H_clear.2.1 27 = .ok (.getfield 29, 3) := by decide +kernel
theorem d_H_clear_30 : decode y_H_clear.2.1 30 = .ok (.invokevirtual 155, 3) := by decide +kernel
theorem d_H_clear_33 : decode y_H_clear.2.1 33 = .ok (.aload_n 0, 1) := by decide +kernel
theorem d_H_clear_34 : decode y_H_clear.2.1 34 = .ok (.getfield 74, 3) := by decide +kernel
theorem d_H_clear_37 : decode y_H_clear.2.1 37 = .ok (.aload_n 0, 1) := by decide +kernel
theorem d_H_clear_38 : decode y_H_clear.2.1 38 = .ok (.getfield 19, 3) := by decide +kernel
theorem d_H_clear_41 : decode y_H_clear.2.1 41 = .ok (.aload_n 0, 1) := by decide +kernel
theorem d_H_clear_42 : decode y_H_clear.2.1 42 = .ok (.getfield 29, 3) := by decide +kernel
theorem d_H_clear_45 : decode y_H_clear.2.1 45 = .ok (.aload_n 0, 1) := by decide +kernel
theorem d_H_clear_46 : decode y_H_clear.2.1 46 = .ok (.getfield 39, 3) := by decide +kernel
theorem d_H_clear_49 : decode y_H_clear.2.1 49 = .ok (.invokevirtual 241, 3) := by decide +kernel
theorem d_H_clear_52 : decode y_H_clear.2.1 52 = .ok (.iconst 0, 1) := by decide +kernel
theorem d_H_clear_53 : decode y_H_clear.2.1 53 = .ok (.istore_n 2, 1) := by decide +kernel
theorem d_H_clear_54 : decode y_H_clear.2.1 54 = .ok (.iload_n 2, 1) := by decide +kernel
theorem d_H_clear_55 : decode y_H_clear.2.1 55 = .ok (.aload_n 0, 1) := by decide +kernel
theorem d_H_clear_56 : decode y_H_clear.2.1 56 = .ok (.getfield 19, 3) := by decide +kernel
theorem d_H_clear_59 : decode y_H_clear.2.1 59 = .ok (.getfield 115, 3) := by decide +kernel
theorem d_H_clear_62 : decode y_H_clear.2.1 62 = .ok (.if_icmp .ge 25, 3) := by decide +kernel
theorem d_H_clear_65 : decode y_H_clear.2.1 65 = .ok (.aload_n 0, 1) := by decide +kernel
theorem d_H_clear_66 : decode y_H_clear.2.1 66 = .ok (.getfield 81, 3) := by decide +kernel
theorem d_H_clear_69 : decode y_H_clear.2.1 69 = .ok (.aload_n 0, 1) := by decide +kernel
theorem d_H_clear_70 : decode y_H_clear.2.1 70 = .ok (.getfield 74, 3) := by decide +kernel
theorem d_H_clear_73 : decode y_H_clear.2.1 73 = .ok (.getfield 245, 3) := by decide +kernel
theorem d_H_clear_76 : decode y_H_clear.2.1 76 = .ok (.iload_n 2, 1) := by decide +kernel
theorem d_H_clear_77 : decode y_H_clear.2.1 77 = .ok (.iaload, 1) := by decide +kernel
theorem d_H_clear_78 : decode y_H_clear.2.1 78 = .ok (.invokevirtual 223, 3) := by decide +kernel
theorem d_H_clear_81 : decode y_H_clear.2.1 81 = .ok (.iinc 2 1, 3) := by decide +kernel
theorem d_H_clear_84 : decode y_H_clear.2.1 84 = .ok (.goto (-30), 3) := by decide +kernel
theorem d_H_clear_87 : decode y_H_clear.2.1 87 = .ok (.iload_n 1, 1) := by decide +kernel
theorem d_H_clear_88 : decode y_H_clear.2.1 88 = .ok (.ifCond .ne 13, 3) := by decide +kernel
theorem d_H_clear_91 : decode y_H_clear.2.1 91 = .ok (.aload_n 0, 1) := by decide +kernel
theorem d_H_clear_92 : decode y_H_clear.2.1 92 = .ok (.getfield 74, 3) := by decide +kernel
theorem d_H_clear_95 : decode y_H_clear.2.1 95 = .ok (.getfield 248, 3) := by decide +kernel
theorem d_H_clear_98 : decode y_H_clear.2.1 98 = .ok (.goto 10, 3) := by decide +kernel
theorem d_H_clear_101 : decode y_H_clear.2.1 101 = .ok (.aload_n 0, 1) := by decide +kernel
theorem d_H_clear_102 : decode y_H_clear.2.1 102 = .ok (.getfield 74, 3) := by decide +kernel
theorem d_H_clear_105 : decode y_H_clear.2.1 105 = .ok (.getfield 251, 3) := by decide +kernel
theorem d_H_clear_108 : decode y_H_clear.2.1 108 = .ok (.ireturn, 1) := by decide +kernel

abbrev y_Choir_byLaw : MI := (⟨"CricketHay$Choir", "byLaw", "(III)I"⟩, prog_4_method_6_code, 4, (some .int))
theorem hy_Choir_byLaw : y_Choir_byLaw.1.cls ≠ "java/lang/invoke/MethodHandle" ∧ y_Choir_byLaw.1.cls ≠ "java/lang/invoke/VarHandle" ∧ (parseMethodDescriptor y_Choir_byLaw.1.desc).map (fun d => d.parameters.length) = some 3 := by decide +kernel
theorem d_Choir_byLaw_0 : decode y_Choir_byLaw.2.1 0 = .ok (.iload_n 1, 1) := by decide +kernel
theorem d_Choir_byLaw_1 : decode y_Choir_byLaw.2.1 1 = .ok (.tableswitch 73 1 3 #[27, 43, 59], 27) := by decide +kernel
theorem d_Choir_byLaw_28 : decode y_Choir_byLaw.2.1 28 = .ok (.aload_n 0, 1) := by decide +kernel
theorem d_Choir_byLaw_29 : decode y_Choir_byLaw.2.1 29 = .ok (.getfield 9, 3) := by decide +kernel
theorem d_Choir_byLaw_32 : decode y_Choir_byLaw.2.1 32 = .ok (.iload_n 2, 1) := by decide +kernel
theorem d_Choir_byLaw_33 : decode y_Choir_byLaw.2.1 33 = .ok (.iaload, 1) := by decide +kernel
theorem d_Choir_byLaw_34 : decode y_Choir_byLaw.2.1 34 = .ok (.aload_n 0, 1) := by decide +kernel
theorem d_Choir_byLaw_35 : decode y_Choir_byLaw.2.1 35 = .ok (.getfield 9, 3) := by decide +kernel
theorem d_Choir_byLaw_38 : decode y_Choir_byLaw.2.1 38 = .ok (.iload_n 3, 1) := by decide +kernel
theorem d_Choir_byLaw_39 : decode y_Choir_byLaw.2.1 39 = .ok (.iaload, 1) := by decide +kernel
theorem d_Choir_byLaw_40 : decode y_Choir_byLaw.2.1 40 = .ok (.invokestatic 62, 3) := by decide +kernel
theorem d_Choir_byLaw_43 : decode y_Choir_byLaw.2.1 43 = .ok (.ireturn, 1) := by decide +kernel
theorem d_Choir_byLaw_44 : decode y_Choir_byLaw.2.1 44 = .ok (.aload_n 0, 1) := by decide +kernel
theorem d_Choir_byLaw_45 : decode y_Choir_byLaw.2.1 45 = .ok (.getfield 9, 3) := by decide +kernel
theorem d_Choir_byLaw_48 : decode y_Choir_byLaw.2.1 48 = .ok (.iload_n 2, 1) := by decide +kernel
theorem d_Choir_byLaw_49 : decode y_Choir_byLaw.2.1 49 = .ok (.iaload, 1) := by decide +kernel
theorem d_Choir_byLaw_50 : decode y_Choir_byLaw.2.1 50 = .ok (.aload_n 0, 1) := by decide +kernel
theorem d_Choir_byLaw_51 : decode y_Choir_byLaw.2.1 51 = .ok (.getfield 9, 3) := by decide +kernel
theorem d_Choir_byLaw_54 : decode y_Choir_byLaw.2.1 54 = .ok (.iload_n 3, 1) := by decide +kernel
theorem d_Choir_byLaw_55 : decode y_Choir_byLaw.2.1 55 = .ok (.iaload, 1) := by decide +kernel
theorem d_Choir_byLaw_56 : decode y_Choir_byLaw.2.1 56 = .ok (.invokestatic 68, 3) := by decide +kernel
theorem d_Choir_byLaw_59 : decode y_Choir_byLaw.2.1 59 = .ok (.ireturn, 1) := by decide +kernel
theorem d_Choir_byLaw_60 : decode y_Choir_byLaw.2.1 60 = .ok (.aload_n 0, 1) := by decide +kernel
theorem d_Choir_byLaw_61 : decode y_Choir_byLaw.2.1 61 = .ok (.getfield 9, 3) := by decide +kernel
theorem d_Choir_byLaw_64 : decode y_Choir_byLaw.2.1 64 = .ok (.iload_n 2, 1) := by decide +kernel
theorem d_Choir_byLaw_65 : decode y_Choir_byLaw.2.1 65 = .ok (.iaload, 1) := by decide +kernel
theorem d_Choir_byLaw_66 : decode y_Choir_byLaw.2.1 66 = .ok (.aload_n 0, 1) := by decide +kernel
theorem d_Choir_byLaw_67 : decode y_Choir_byLaw.2.1 67 = .ok (.getfield 9, 3) := by decide +kernel
theorem d_Choir_byLaw_70 : decode y_Choir_byLaw.2.1 70 = .ok (.iload_n 3, 1) := by decide +kernel
theorem d_Choir_byLaw_71 : decode y_Choir_byLaw.2.1 71 = .ok (.iaload, 1) := by decide +kernel
theorem d_Choir_byLaw_72 : decode y_Choir_byLaw.2.1 72 = .ok (.iadd, 1) := by decide +kernel
theorem d_Choir_byLaw_73 : decode y_Choir_byLaw.2.1 73 = .ok (.ireturn, 1) := by decide +kernel
theorem d_Choir_byLaw_74 : decode y_Choir_byLaw.2.1 74 = .ok (.aload_n 0, 1) := by decide +kernel
theorem d_Choir_byLaw_75 : decode y_Choir_byLaw.2.1 75 = .ok (.iload_n 2, 1) := by decide +kernel
theorem d_Choir_byLaw_76 : decode y_Choir_byLaw.2.1 76 = .ok (.iload_n 3, 1) := by decide +kernel
theorem d_Choir_byLaw_77 : decode y_Choir_byLaw.2.1 77 = .ok (.invokevirtual 71, 3) := by decide +kernel
theorem d_Choir_byLaw_80 : decode y_Choir_byLaw.2.1 80 = .ok (.ireturn, 1) := by decide +kernel

abbrev y_Choir_allPrices : MI := (⟨"CricketHay$Choir", "allPrices", "(I)I"⟩, prog_4_method_5_code, 5, (some .int))
theorem hy_Choir_allPrices : y_Choir_allPrices.1.cls ≠ "java/lang/invoke/MethodHandle" ∧ y_Choir_allPrices.1.cls ≠ "java/lang/invoke/VarHandle" ∧ (parseMethodDescriptor y_Choir_allPrices.1.desc).map (fun d => d.parameters.length) = some 1 := by decide +kernel
theorem d_Choir_allPrices_0 : decode y_Choir_allPrices.2.1 0 = .ok (.iconst 0, 1) := by decide +kernel
theorem d_Choir_allPrices_1 : decode y_Choir_allPrices.2.1 1 = .ok (.istore_n 2, 1) := by decide +kernel
theorem d_Choir_allPrices_2 : decode y_Choir_allPrices.2.1 2 = .ok (.iconst 0, 1) := by decide +kernel
theorem d_Choir_allPrices_3 : decode y_Choir_allPrices.2.1 3 = .ok (.istore_n 3, 1) := by decide +kernel
theorem d_Choir_allPrices_4 : decode y_Choir_allPrices.2.1 4 = .ok (.iload_n 3, 1) := by decide +kernel
theorem d_Choir_allPrices_5 : decode y_Choir_allPrices.2.1 5 = .ok (.aload_n 0, 1) := by decide +kernel
theorem d_Choir_allPrices_6 : decode y_Choir_allPrices.2.1 6 = .ok (.getfield 15, 3) := by decide +kernel
theorem d_Choir_allPrices_9 : decode y_Choir_allPrices.2.1 9 = .ok (.if_icmp .ge 40, 3) := by decide +kernel
theorem d_Choir_allPrices_12 : decode y_Choir_allPrices.2.1 12 = .ok (.iload_n 3, 1) := by decide +kernel
theorem d_Choir_allPrices_13 : decode y_Choir_allPrices.2.1 13 = .ok (.iconst 1, 1) := by decide +kernel
theorem d_Choir_allPrices_14 : decode y_Choir_allPrices.2.1 14 = .ok (.iadd, 1) := by decide +kernel
theorem d_Choir_allPrices_15 : decode y_Choir_allPrices.2.1 15 = .ok (.istore 4, 2) := by decide +kernel
theorem d_Choir_allPrices_17 : decode y_Choir_allPrices.2.1 17 = .ok (.iload 4, 2) := by decide +kernel
theorem d_Choir_allPrices_19 : decode y_Choir_allPrices.2.1 19 = .ok (.aload_n 0, 1) := by decide +kernel
theorem d_Choir_allPrices_20 : decode y_Choir_allPrices.2.1 20 = .ok (.getfield 15, 3) := by decide +kernel
theorem d_Choir_allPrices_23 : decode y_Choir_allPrices.2.1 23 = .ok (.if_icmp .ge 20, 3) := by decide +kernel
theorem d_Choir_allPrices_26 : decode y_Choir_allPrices.2.1 26 = .ok (.iload_n 2, 1) := by decide +kernel
theorem d_Choir_allPrices_27 : decode y_Choir_allPrices.2.1 27 = .ok (.aload_n 0, 1) := by decide +kernel
theorem d_Choir_allPrices_28 : decode y_Choir_allPrices.2.1 28 = .ok (.iload_n 1, 1) := by decide +kernel
theorem d_Choir_allPrices_29 : decode y_Choir_allPrices.2.1 29 = .ok (.iload_n 3, 1) := by decide +kernel
theorem d_Choir_allPrices_30 : decode y_Choir_allPrices.2.1 30 = .ok (.iload 4, 2) := by decide +kernel
theorem d_Choir_allPrices_32 : decode y_Choir_allPrices.2.1 32 = .ok (.invokevirtual 58, 3) := by decide +kernel
theorem d_Choir_allPrices_35 : decode y_Choir_allPrices.2.1 35 = .ok (.iadd, 1) := by decide +kernel
theorem d_Choir_allPrices_36 : decode y_Choir_allPrices.2.1 36 = .ok (.istore_n 2, 1) := by decide +kernel
theorem d_Choir_allPrices_37 : decode y_Choir_allPrices.2.1 37 = .ok (.iinc 4 1, 3) := by decide +kernel
theorem d_Choir_allPrices_40 : decode y_Choir_allPrices.2.1 40 = .ok (.goto (-23), 3) := by decide +kernel
theorem d_Choir_allPrices_43 : decode y_Choir_allPrices.2.1 43 = .ok (.iinc 3 1, 3) := by decide +kernel
theorem d_Choir_allPrices_46 : decode y_Choir_allPrices.2.1 46 = .ok (.goto (-42), 3) := by decide +kernel
theorem d_Choir_allPrices_49 : decode y_Choir_allPrices.2.1 49 = .ok (.iload_n 2, 1) := by decide +kernel
theorem d_Choir_allPrices_50 : decode y_Choir_allPrices.2.1 50 = .ok (.ireturn, 1) := by decide +kernel

abbrev y_H_spoils : MI := (⟨"CricketHay", "spoils", "(I)I"⟩, prog_1_method_24_code, 3, (some .int))
theorem hy_H_spoils : y_H_spoils.1.cls ≠ "java/lang/invoke/MethodHandle" ∧ y_H_spoils.1.cls ≠ "java/lang/invoke/VarHandle" ∧ (parseMethodDescriptor y_H_spoils.1.desc).map (fun d => d.parameters.length) = some 1 := by decide +kernel
theorem d_H_spoils_0 : decode y_H_spoils.2.1 0 = .ok (.aload_n 0, 1) := by decide +kernel
theorem d_H_spoils_1 : decode y_H_spoils.2.1 1 = .ok (.getfield 19, 3) := by decide +kernel
theorem d_H_spoils_4 : decode y_H_spoils.2.1 4 = .ok (.iload_n 1, 1) := by decide +kernel
theorem d_H_spoils_5 : decode y_H_spoils.2.1 5 = .ok (.invokevirtual 124, 3) := by decide +kernel
theorem d_H_spoils_8 : decode y_H_spoils.2.1 8 = .ok (.ifCond .eq 15, 3) := by decide +kernel
theorem d_H_spoils_11 : decode y_H_spoils.2.1 11 = .ok (.aload_n 0, 1) := by decide +kernel
theorem d_H_spoils_12 : decode y_H_spoils.2.1 12 = .ok (.getfield 29, 3) := by decide +kernel
theorem d_H_spoils_15 : decode y_H_spoils.2.1 15 = .ok (.getfield 152, 3) := by decide +kernel
theorem d_H_spoils_18 : decode y_H_spoils.2.1 18 = .ok (.iload_n 1, 1) := by decide +kernel
theorem d_H_spoils_19 : decode y_H_spoils.2.1 19 = .ok (.iaload, 1) := by decide +kernel
theorem d_H_spoils_20 : decode y_H_spoils.2.1 20 = .ok (.ifCond .eq 6, 3) := by decide +kernel
theorem d_H_spoils_23 : decode y_H_spoils.2.1 23 = .ok (.ldc 254, 2) := by decide +kernel
theorem d_H_spoils_25 : decode y_H_spoils.2.1 25 = .ok (.ireturn, 1) := by decide +kernel
theorem d_H_spoils_26 : decode y_H_spoils.2.1 26 = .ok (.aload_n 0, 1) := by decide +kernel
theorem d_H_spoils_27 : decode y_H_spoils.2.1 27 = .ok (.getfield 39, 3) := by decide +kernel
theorem d_H_spoils_30 : decode y_H_spoils.2.1 30 = .ok (.aload_n 0, 1) := by decide +kernel
theorem d_H_spoils_31 : decode y_H_spoils.2.1 31 = .ok (.getfield 19, 3) := by decide +kernel
theorem d_H_spoils_34 : decode y_H_spoils.2.1 34 = .ok (.aload_n 0, 1) := by decide +kernel
theorem d_H_spoils_35 : decode y_H_spoils.2.1 35 = .ok (.getfield 29, 3) := by decide +kernel
theorem d_H_spoils_38 : decode y_H_spoils.2.1 38 = .ok (.invokevirtual 155, 3) := by decide +kernel
theorem d_H_spoils_41 : decode y_H_spoils.2.1 41 = .ok (.aload_n 0, 1) := by decide +kernel
theorem d_H_spoils_42 : decode y_H_spoils.2.1 42 = .ok (.getfield 39, 3) := by decide +kernel
theorem d_H_spoils_45 : decode y_H_spoils.2.1 45 = .ok (.iconst 0, 1) := by decide +kernel
theorem d_H_spoils_46 : decode y_H_spoils.2.1 46 = .ok (.invokevirtual 255, 3) := by decide +kernel
theorem d_H_spoils_49 : decode y_H_spoils.2.1 49 = .ok (.istore_n 2, 1) := by decide +kernel
theorem d_H_spoils_50 : decode y_H_spoils.2.1 50 = .ok (.aload_n 0, 1) := by decide +kernel
theorem d_H_spoils_51 : decode y_H_spoils.2.1 51 = .ok (.getfield 33, 3) := by decide +kernel
theorem d_H_spoils_54 : decode y_H_spoils.2.1 54 = .ok (.aload_n 0, 1) := by decide +kernel
theorem d_H_spoils_55 : decode y_H_spoils.2.1 55 = .ok (.getfield 29, 3) := by decide +kernel
theorem d_H_spoils_58 : decode y_H_spoils.2.1 58 = .ok (.invokevirtual 258, 3) := by decide +kernel
theorem d_H_spoils_61 : decode y_H_spoils.2.1 61 = .ok (.aload_n 0, 1) := by decide +kernel
theorem d_H_spoils_62 : decode y_H_spoils.2.1 62 = .ok (.getfield 33, 3) := by decide +kernel
theorem d_H_spoils_65 : decode y_H_spoils.2.1 65 = .ok (.getfield 152, 3) := by decide +kernel
theorem d_H_spoils_68 : decode y_H_spoils.2.1 68 = .ok (.iload_n 1, 1) := by decide +kernel
theorem d_H_spoils_69 : decode y_H_spoils.2.1 69 = .ok (.iconst 1, 1) := by decide +kernel
theorem d_H_spoils_70 : decode y_H_spoils.2.1 70 = .ok (.iastore, 1) := by decide +kernel
theorem d_H_spoils_71 : decode y_H_spoils.2.1 71 = .ok (.aload_n 0, 1) := by decide +kernel
theorem d_H_spoils_72 : decode y_H_spoils.2.1 72 = .ok (.getfield 39, 3) := by decide +kernel
theorem d_H_spoils_75 : decode y_H_spoils.2.1 75 = .ok (.aload_n 0, 1) := by decide +kernel
theorem d_H_spoils_76 : decode y_H_spoils.2.1 76 = .ok (.getfield 19, 3) := by decide +kernel
theorem d_H_spoils_79 : decode y_H_spoils.2.1 79 = .ok (.aload_n 0, 1) := by decide +kernel
theorem d_H_spoils_80 : decode y_H_spoils.2.1 80 = .ok (.getfield 33, 3) := by decide +kernel
theorem d_H_spoils_83 : decode y_H_spoils.2.1 83 = .ok (.invokevirtual 155, 3) := by decide +kernel
theorem d_H_spoils_86 : decode y_H_spoils.2.1 86 = .ok (.iload_n 2, 1) := by decide +kernel
theorem d_H_spoils_87 : decode y_H_spoils.2.1 87 = .ok (.aload_n 0, 1) := by decide +kernel
theorem d_H_spoils_88 : decode y_H_spoils.2.1 88 = .ok (.getfield 39, 3) := by decide +kernel
theorem d_H_spoils_91 : decode y_H_spoils.2.1 91 = .ok (.iconst 0, 1) := by decide +kernel
theorem d_H_spoils_92 : decode y_H_spoils.2.1 92 = .ok (.invokevirtual 255, 3) := by decide +kernel
theorem d_H_spoils_95 : decode y_H_spoils.2.1 95 = .ok (.isub, 1) := by decide +kernel
theorem d_H_spoils_96 : decode y_H_spoils.2.1 96 = .ok (.ireturn, 1) := by decide +kernel

abbrev y_H_starve : MI := (⟨"CricketHay", "starve", "(I)I"⟩, prog_1_method_25_code, 4, (some .int))
theorem hy_H_starve : y_H_starve.1.cls ≠ "java/lang/invoke/MethodHandle" ∧ y_H_starve.1.cls ≠ "java/lang/invoke/VarHandle" ∧ (parseMethodDescriptor y_H_starve.1.desc).map (fun d => d.parameters.length) = some 1 := by decide +kernel
theorem d_H_starve_0 : decode y_H_starve.2.1 0 = .ok (.iload_n 1, 1) := by decide +kernel
theorem d_H_starve_1 : decode y_H_starve.2.1 1 = .ok (.iconst 0, 1) := by decide +kernel
theorem d_H_starve_2 : decode y_H_starve.2.1 2 = .ok (.bipush 60, 2) := by decide +kernel
theorem d_H_starve_4 : decode y_H_starve.2.1 4 = .ok (.invokestatic 208, 3) := by decide +kernel
theorem d_H_starve_7 : decode y_H_starve.2.1 7 = .ok (.ifCond .ne 5, 3) := by decide +kernel
theorem d_H_starve_10 : decode y_H_starve.2.1 10 = .ok (.iconst (-1), 1) := by decide +kernel
theorem d_H_starve_11 : decode y_H_starve.2.1 11 = .ok (.ireturn, 1) := by decide +kernel
theorem d_H_starve_12 : decode y_H_starve.2.1 12 = .ok (.aload_n 0, 1) := by decide +kernel
theorem d_H_starve_13 : decode y_H_starve.2.1 13 = .ok (.iload_n 1, 1) := by decide +kernel
theorem d_H_starve_14 : decode y_H_starve.2.1 14 = .ok (.invokevirtual 212, 3) := by decide +kernel
theorem d_H_starve_17 : decode y_H_starve.2.1 17 = .ok (.iconst 0, 1) := by decide +kernel
theorem d_H_starve_18 : decode y_H_starve.2.1 18 = .ok (.istore_n 2, 1) := by decide +kernel
theorem d_H_starve_19 : decode y_H_starve.2.1 19 = .ok (.iconst 0, 1) := by decide +kernel
theorem d_H_starve_20 : decode y_H_starve.2.1 20 = .ok (.istore_n 3, 1) := by decide +kernel
theorem d_H_starve_21 : decode y_H_starve.2.1 21 = .ok (.iload_n 3, 1) := by decide +kernel
theorem d_H_starve_22 : decode y_H_starve.2.1 22 = .ok (.aload_n 0, 1) := by decide +kernel
theorem d_H_starve_23 : decode y_H_starve.2.1 23 = .ok (.getfield 19, 3) := by decide +kernel
theorem d_H_starve_26 : decode y_H_starve.2.1 26 = .ok (.getfield 115, 3) := by decide +kernel
theorem d_H_starve_29 : decode y_H_starve.2.1 29 = .ok (.if_icmp .ge 21, 3) := by decide +kernel
theorem d_H_starve_32 : decode y_H_starve.2.1 32 = .ok (.iload_n 2, 1) := by decide +kernel
theorem d_H_starve_33 : decode y_H_starve.2.1 33 = .ok (.aload_n 0, 1) := by decide +kernel
theorem d_H_starve_34 : decode y_H_starve.2.1 34 = .ok (.getfield 33, 3) := by decide +kernel
theorem d_H_starve_37 : decode y_H_starve.2.1 37 = .ok (.getfield 137, 3) := by decide +kernel
theorem d_H_starve_40 : decode y_H_starve.2.1 40 = .ok (.iload_n 3, 1) := by decide +kernel
theorem d_H_starve_41 : decode y_H_starve.2.1 41 = .ok (.iaload, 1) := by decide +kernel
theorem d_H_starve_42 : decode y_H_starve.2.1 42 = .ok (.iadd, 1) := by decide +kernel
theorem d_H_starve_43 : decode y_H_starve.2.1 43 = .ok (.istore_n 2, 1) := by decide +kernel
theorem d_H_starve_44 : decode y_H_starve.2.1 44 = .ok (.iinc 3 1, 3) := by decide +kernel
theorem d_H_starve_47 : decode y_H_starve.2.1 47 = .ok (.goto (-26), 3) := by decide +kernel
theorem d_H_starve_50 : decode y_H_starve.2.1 50 = .ok (.iload_n 2, 1) := by decide +kernel
theorem d_H_starve_51 : decode y_H_starve.2.1 51 = .ok (.ireturn, 1) := by decide +kernel

abbrev y_H_hush : MI := (⟨"CricketHay", "hush", "(I)I"⟩, prog_1_method_26_code, 3, (some .int))
theorem hy_H_hush : y_H_hush.1.cls ≠ "java/lang/invoke/MethodHandle" ∧ y_H_hush.1.cls ≠ "java/lang/invoke/VarHandle" ∧ (parseMethodDescriptor y_H_hush.1.desc).map (fun d => d.parameters.length) = some 1 := by decide +kernel
theorem d_H_hush_0 : decode y_H_hush.2.1 0 = .ok (.iload_n 1, 1) := by decide +kernel
theorem d_H_hush_1 : decode y_H_hush.2.1 1 = .ok (.iconst 0, 1) := by decide +kernel
theorem d_H_hush_2 : decode y_H_hush.2.1 2 = .ok (.sipush 594, 3) := by decide +kernel
theorem d_H_hush_5 : decode y_H_hush.2.1 5 = .ok (.invokestatic 208, 3) := by decide +kernel
theorem d_H_hush_8 : decode y_H_hush.2.1 8 = .ok (.ifCond .ne 5, 3) := by decide +kernel
theorem d_H_hush_11 : decode y_H_hush.2.1 11 = .ok (.iconst (-1), 1) := by decide +kernel
theorem d_H_hush_12 : decode y_H_hush.2.1 12 = .ok (.ireturn, 1) := by decide +kernel
theorem d_H_hush_13 : decode y_H_hush.2.1 13 = .ok (.aload_n 0, 1) := by decide +kernel
theorem d_H_hush_14 : decode y_H_hush.2.1 14 = .ok (.getfield 33, 3) := by decide +kernel
theorem d_H_hush_17 : decode y_H_hush.2.1 17 = .ok (.aload_n 0, 1) := by decide +kernel
theorem d_H_hush_18 : decode y_H_hush.2.1 18 = .ok (.getfield 29, 3) := by decide +kernel
theorem d_H_hush_21 : decode y_H_hush.2.1 21 = .ok (.invokevirtual 258, 3) := by decide +kernel
theorem d_H_hush_24 : decode y_H_hush.2.1 24 = .ok (.iconst 0, 1) := by decide +kernel
theorem d_H_hush_25 : decode y_H_hush.2.1 25 = .ok (.istore_n 2, 1) := by decide +kernel
theorem d_H_hush_26 : decode y_H_hush.2.1 26 = .ok (.iload_n 2, 1) := by decide +kernel
theorem d_H_hush_27 : decode y_H_hush.2.1 27 = .ok (.bipush 60, 2) := by decide +kernel
theorem d_H_hush_29 : decode y_H_hush.2.1 29 = .ok (.if_icmp .gt 48, 3) := by decide +kernel
theorem d_H_hush_32 : decode y_H_hush.2.1 32 = .ok (.aload_n 0, 1) := by decide +kernel
theorem d_H_hush_33 : decode y_H_hush.2.1 33 = .ok (.getfield 39, 3) := by decide +kernel
theorem d_H_hush_36 : decode y_H_hush.2.1 36 = .ok (.aload_n 0, 1) := by decide +kernel
theorem d_H_hush_37 : decode y_H_hush.2.1 37 = .ok (.getfield 19, 3) := by decide +kernel
theorem d_H_hush_40 : decode y_H_hush.2.1 40 = .ok (.aload_n 0, 1) := by decide +kernel
theorem d_H_hush_41 : decode y_H_hush.2.1 41 = .ok (.getfield 33, 3) := by decide +kernel
theorem d_H_hush_44 : decode y_H_hush.2.1 44 = .ok (.invokevirtual 155, 3) := by decide +kernel
theorem d_H_hush_47 : decode y_H_hush.2.1 47 = .ok (.aload_n 0, 1) := by decide +kernel
theorem d_H_hush_48 : decode y_H_hush.2.1 48 = .ok (.getfield 39, 3) := by decide +kernel
theorem d_H_hush_51 : decode y_H_hush.2.1 51 = .ok (.invokevirtual 181, 3) := by decide +kernel
theorem d_H_hush_54 : decode y_H_hush.2.1 54 = .ok (.iload_n 1, 1) := by decide +kernel
theorem d_H_hush_55 : decode y_H_hush.2.1 55 = .ok (.if_icmp .gt 5, 3) := by decide +kernel
theorem d_H_hush_58 : decode y_H_hush.2.1 58 = .ok (.iload_n 2, 1) := by decide +kernel
theorem d_H_hush_59 : decode y_H_hush.2.1 59 = .ok (.ireturn, 1) := by decide +kernel
theorem d_H_hush_60 : decode y_H_hush.2.1 60 = .ok (.aload_n 0, 1) := by decide +kernel
theorem d_H_hush_61 : decode y_H_hush.2.1 61 = .ok (.getfield 33, 3) := by decide +kernel
theorem d_H_hush_64 : decode y_H_hush.2.1 64 = .ok (.aload_n 0, 1) := by decide +kernel
theorem d_H_hush_65 : decode y_H_hush.2.1 65 = .ok (.getfield 19, 3) := by decide +kernel
theorem d_H_hush_68 : decode y_H_hush.2.1 68 = .ok (.invokevirtual 198, 3) := by decide +kernel
theorem d_H_hush_71 : decode y_H_hush.2.1 71 = .ok (.iinc 2 1, 3) := by decide +kernel
theorem d_H_hush_74 : decode y_H_hush.2.1 74 = .ok (.goto (-48), 3) := by decide +kernel
theorem d_H_hush_77 : decode y_H_hush.2.1 77 = .ok (.iconst (-1), 1) := by decide +kernel
theorem d_H_hush_78 : decode y_H_hush.2.1 78 = .ok (.ireturn, 1) := by decide +kernel

abbrev y_H_weight : MI := (⟨"CricketHay", "weight", "(II)I"⟩, prog_1_method_57_code, 5, (some .int))
theorem hy_H_weight : y_H_weight.1.cls ≠ "java/lang/invoke/MethodHandle" ∧ y_H_weight.1.cls ≠ "java/lang/invoke/VarHandle" ∧ (parseMethodDescriptor y_H_weight.1.desc).map (fun d => d.parameters.length) = some 2 := by decide +kernel
theorem d_H_weight_0 : decode y_H_weight.2.1 0 = .ok (.iconst 1, 1) := by decide +kernel
theorem d_H_weight_1 : decode y_H_weight.2.1 1 = .ok (.istore_n 3, 1) := by decide +kernel
theorem d_H_weight_2 : decode y_H_weight.2.1 2 = .ok (.iconst 0, 1) := by decide +kernel
theorem d_H_weight_3 : decode y_H_weight.2.1 3 = .ok (.istore 4, 2) := by decide +kernel
theorem d_H_weight_5 : decode y_H_weight.2.1 5 = .ok (.iload 4, 2) := by decide +kernel
theorem d_H_weight_7 : decode y_H_weight.2.1 7 = .ok (.iload_n 1, 1) := by decide +kernel
theorem d_H_weight_8 : decode y_H_weight.2.1 8 = .ok (.if_icmp .ge 41, 3) := by decide +kernel
theorem d_H_weight_11 : decode y_H_weight.2.1 11 = .ok (.iload_n 3, 1) := by decide +kernel
theorem d_H_weight_12 : decode y_H_weight.2.1 12 = .ok (.iload_n 2, 1) := by decide +kernel
theorem d_H_weight_13 : decode y_H_weight.2.1 13 = .ok (.iload 4, 2) := by decide +kernel
theorem d_H_weight_15 : decode y_H_weight.2.1 15 = .ok (.ishr, 1) := by decide +kernel
theorem d_H_weight_16 : decode y_H_weight.2.1 16 = .ok (.iconst 1, 1) := by decide +kernel
theorem d_H_weight_17 : decode y_H_weight.2.1 17 = .ok (.iand, 1) := by decide +kernel
theorem d_H_weight_18 : decode y_H_weight.2.1 18 = .ok (.ifCond .eq 13, 3) := by decide +kernel
theorem d_H_weight_21 : decode y_H_weight.2.1 21 = .ok (.aload_n 0, 1) := by decide +kernel
theorem d_H_weight_22 : decode y_H_weight.2.1 22 = .ok (.getfield 19, 3) := by decide +kernel
theorem d_H_weight_25 : decode y_H_weight.2.1 25 = .ok (.getfield 366, 3) := by decide +kernel
theorem d_H_weight_28 : decode y_H_weight.2.1 28 = .ok (.goto 13, 3) := by decide +kernel
theorem d_H_weight_31 : decode y_H_weight.2.1 31 = .ok (.bipush 100, 2) := by decide +kernel
theorem d_H_weight_33 : decode y_H_weight.2.1 33 = .ok (.aload_n 0, 1) := by decide +kernel
theorem d_H_weight_34 : decode y_H_weight.2.1 34 = .ok (.getfield 19, 3) := by decide +kernel
theorem d_H_weight_37 : decode y_H_weight.2.1 37 = .ok (.getfield 366, 3) := by decide +kernel
theorem d_H_weight_40 : decode y_H_weight.2.1 40 = .ok (.isub, 1) := by decide +kernel
theorem d_H_weight_41 : decode y_H_weight.2.1 41 = .ok (.imul, 1) := by decide +kernel
theorem d_H_weight_42 : decode y_H_weight.2.1 42 = .ok (.istore_n 3, 1) := by decide +kernel
theorem d_H_weight_43 : decode y_H_weight.2.1 43 = .ok (.iinc 4 1, 3) := by decide +kernel
theorem d_H_weight_46 : decode y_H_weight.2.1 46 = .ok (.goto (-41), 3) := by decide +kernel
theorem d_H_weight_49 : decode y_H_weight.2.1 49 = .ok (.iload_n 3, 1) := by decide +kernel
theorem d_H_weight_50 : decode y_H_weight.2.1 50 = .ok (.ireturn, 1) := by decide +kernel

abbrev y_H_priceBehind : MI := (⟨"CricketHay", "priceBehind", "(IIII)I"⟩, prog_1_method_56_code, 6, (some .int))
theorem hy_H_priceBehind : y_H_priceBehind.1.cls ≠ "java/lang/invoke/MethodHandle" ∧ y_H_priceBehind.1.cls ≠ "java/lang/invoke/VarHandle" ∧ (parseMethodDescriptor y_H_priceBehind.1.desc).map (fun d => d.parameters.length) = some 4 := by decide +kernel
theorem d_H_priceBehind_0 : decode y_H_priceBehind.2.1 0 = .ok (.aload_n 0, 1) := by decide +kernel
theorem d_H_priceBehind_1 : decode y_H_priceBehind.2.1 1 = .ok (.getfield 33, 3) := by decide +kernel
theorem d_H_priceBehind_4 : decode y_H_priceBehind.2.1 4 = .ok (.aload_n 0, 1) := by decide +kernel
theorem d_H_priceBehind_5 : decode y_H_priceBehind.2.1 5 = .ok (.getfield 29, 3) := by decide +kernel
theorem d_H_priceBehind_8 : decode y_H_priceBehind.2.1 8 = .ok (.invokevirtual 258, 3) := by decide +kernel
theorem d_H_priceBehind_11 : decode y_H_priceBehind.2.1 11 = .ok (.iconst 0, 1) := by decide +kernel
theorem d_H_priceBehind_12 : decode y_H_priceBehind.2.1 12 = .ok (.istore 5, 2) := by decide +kernel
theorem d_H_priceBehind_14 : decode y_H_priceBehind.2.1 14 = .ok (.iload 5, 2) := by decide +kernel
theorem d_H_priceBehind_16 : decode y_H_priceBehind.2.1 16 = .ok (.iload_n 3, 1) := by decide +kernel
theorem d_H_priceBehind_17 : decode y_H_priceBehind.2.1 17 = .ok (.if_icmp .ge 35, 3) := by decide +kernel
theorem d_H_priceBehind_20 : decode y_H_priceBehind.2.1 20 = .ok (.aload_n 0, 1) := by decide +kernel
theorem d_H_priceBehind_21 : decode y_H_priceBehind.2.1 21 = .ok (.getfield 33, 3) := by decide +kernel
theorem d_H_priceBehind_24 : decode y_H_priceBehind.2.1 24 = .ok (.aload_n 0, 1) := by decide +kernel
theorem d_H_priceBehind_25 : decode y_H_priceBehind.2.1 25 = .ok (.getfield 19, 3) := by decide +kernel
theorem d_H_priceBehind_28 : decode y_H_priceBehind.2.1 28 = .ok (.iload 4, 2) := by decide +kernel
theorem d_H_priceBehind_30 : decode y_H_priceBehind.2.1 30 = .ok (.iload 5, 2) := by decide +kernel
theorem d_H_priceBehind_32 : decode y_H_priceBehind.2.1 32 = .ok (.ishr, 1) := by decide +kernel
theorem d_H_priceBehind_33 : decode y_H_priceBehind.2.1 33 = .ok (.iconst 1, 1) := by decide +kernel
theorem d_H_priceBehind_34 : decode y_H_priceBehind.2.1 34 = .ok (.iand, 1) := by decide +kernel
theorem d_H_priceBehind_35 : decode y_H_priceBehind.2.1 35 = .ok (.ifCond .eq 7, 3) := by decide +kernel
theorem d_H_priceBehind_38 : decode y_H_priceBehind.2.1 38 = .ok (.iconst 1, 1) := by decide +kernel
theorem d_H_priceBehind_39 : decode y_H_priceBehind.2.1 39 = .ok (.goto 4, 3) := by decide +kernel
theorem d_H_priceBehind_42 : decode y_H_priceBehind.2.1 42 = .ok (.iconst 0, 1) := by decide +kernel
theorem d_H_priceBehind_43 : decode y_H_priceBehind.2.1 43 = .ok (.invokevirtual 363, 3) := by decide +kernel
theorem d_H_priceBehind_46 : decode y_H_priceBehind.2.1 46 = .ok (.iinc 5 1, 3) := by decide +kernel
theorem d_H_priceBehind_49 : decode y_H_priceBehind.2.1 49 = .ok (.goto (-35), 3) := by decide +kernel
theorem d_H_priceBehind_52 : decode y_H_priceBehind.2.1 52 = .ok (.aload_n 0, 1) := by decide +kernel
theorem d_H_priceBehind_53 : decode y_H_priceBehind.2.1 53 = .ok (.getfield 39, 3) := by decide +kernel
theorem d_H_priceBehind_56 : decode y_H_priceBehind.2.1 56 = .ok (.aload_n 0, 1) := by decide +kernel
theorem d_H_priceBehind_57 : decode y_H_priceBehind.2.1 57 = .ok (.getfield 19, 3) := by decide +kernel
theorem d_H_priceBehind_60 : decode y_H_priceBehind.2.1 60 = .ok (.aload_n 0, 1) := by decide +kernel
theorem d_H_priceBehind_61 : decode y_H_priceBehind.2.1 61 = .ok (.getfield 33, 3) := by decide +kernel
theorem d_H_priceBehind_64 : decode y_H_priceBehind.2.1 64 = .ok (.invokevirtual 155, 3) := by decide +kernel
theorem d_H_priceBehind_67 : decode y_H_priceBehind.2.1 67 = .ok (.aload_n 0, 1) := by decide +kernel
theorem d_H_priceBehind_68 : decode y_H_priceBehind.2.1 68 = .ok (.getfield 39, 3) := by decide +kernel
theorem d_H_priceBehind_71 : decode y_H_priceBehind.2.1 71 = .ok (.iload_n 1, 1) := by decide +kernel
theorem d_H_priceBehind_72 : decode y_H_priceBehind.2.1 72 = .ok (.iload_n 2, 1) := by decide +kernel
theorem d_H_priceBehind_73 : decode y_H_priceBehind.2.1 73 = .ok (.invokevirtual 174, 3) := by decide +kernel
theorem d_H_priceBehind_76 : decode y_H_priceBehind.2.1 76 = .ok (.ireturn, 1) := by decide +kernel

abbrev y_H_commonDivisor : MI := (⟨"CricketHay", "commonDivisor", "(II)I"⟩, prog_1_method_59_code, 6, (some .int))
theorem hy_H_commonDivisor : y_H_commonDivisor.1.cls ≠ "java/lang/invoke/MethodHandle" ∧ y_H_commonDivisor.1.cls ≠ "java/lang/invoke/VarHandle" ∧ (parseMethodDescriptor y_H_commonDivisor.1.desc).map (fun d => d.parameters.length) = some 2 := by decide +kernel
theorem d_H_commonDivisor_0 : decode y_H_commonDivisor.2.1 0 = .ok (.iload_n 0, 1) := by decide +kernel
theorem d_H_commonDivisor_1 : decode y_H_commonDivisor.2.1 1 = .ok (.istore_n 2, 1) := by decide +kernel
theorem d_H_commonDivisor_2 : decode y_H_commonDivisor.2.1 2 = .ok (.iload_n 1, 1) := by decide +kernel
theorem d_H_commonDivisor_3 : decode y_H_commonDivisor.2.1 3 = .ok (.istore_n 3, 1) := by decide +kernel
theorem d_H_commonDivisor_4 : decode y_H_commonDivisor.2.1 4 = .ok (.iconst 0, 1) := by decide +kernel
theorem d_H_commonDivisor_5 : decode y_H_commonDivisor.2.1 5 = .ok (.istore 4, 2) := by decide +kernel
theorem d_H_commonDivisor_7 : decode y_H_commonDivisor.2.1 7 = .ok (.iload 4, 2) := by decide +kernel
theorem d_H_commonDivisor_9 : decode y_H_commonDivisor.2.1 9 = .ok (.bipush 100, 2) := by decide +kernel
theorem d_H_commonDivisor_11 : decode y_H_commonDivisor.2.1 11 = .ok (.if_icmp .ge 23, 3) := by decide +kernel
theorem d_H_commonDivisor_14 : decode y_H_commonDivisor.2.1 14 = .ok (.iload_n 3, 1) := by decide +kernel
theorem d_H_commonDivisor_15 : decode y_H_commonDivisor.2.1 15 = .ok (.ifCond .eq 19, 3) := by decide +kernel
theorem d_H_commonDivisor_18 : decode y_H_commonDivisor.2.1 18 = .ok (.iload_n 2, 1) := by decide +kernel
theorem d_H_commonDivisor_19 : decode y_H_commonDivisor.2.1 19 = .ok (.iload_n 3, 1) := by decide +kernel
theorem d_H_commonDivisor_20 : decode y_H_commonDivisor.2.1 20 = .ok (.irem, 1) := by decide +kernel
theorem d_H_commonDivisor_21 : decode y_H_commonDivisor.2.1 21 = .ok (.istore 5, 2) := by decide +kernel
theorem d_H_commonDivisor_23 : decode y_H_commonDivisor.2.1 23 = .ok (.iload_n 3, 1) := by decide +kernel
theorem d_H_commonDivisor_24 : decode y_H_commonDivisor.2.1 24 = .ok (.istore_n 2, 1) := by decide +kernel
theorem d_H_commonDivisor_25 : decode y_H_commonDivisor.2.1 25 = .ok (.iload 5, 2) := by decide +kernel
theorem d_H_commonDivisor_27 : decode y_H_commonDivisor.2.1 27 = .ok (.istore_n 3, 1) := by decide +kernel
theorem d_H_commonDivisor_28 : decode y_H_commonDivisor.2.1 28 = .ok (.iinc 4 1, 3) := by decide +kernel
theorem d_H_commonDivisor_31 : decode y_H_commonDivisor.2.1 31 = .ok (.goto (-24), 3) := by decide +kernel
theorem d_H_commonDivisor_34 : decode y_H_commonDivisor.2.1 34 = .ok (.iload_n 2, 1) := by decide +kernel
theorem d_H_commonDivisor_35 : decode y_H_commonDivisor.2.1 35 = .ok (.ireturn, 1) := by decide +kernel

abbrev y_H_partOf : MI := (⟨"CricketHay", "partOf", "(III)I"⟩, prog_1_method_58_code, 5, (some .int))
theorem hy_H_partOf : y_H_partOf.1.cls ≠ "java/lang/invoke/MethodHandle" ∧ y_H_partOf.1.cls ≠ "java/lang/invoke/VarHandle" ∧ (parseMethodDescriptor y_H_partOf.1.desc).map (fun d => d.parameters.length) = some 3 := by decide +kernel
theorem d_H_partOf_0 : decode y_H_partOf.2.1 0 = .ok (.iconst 1, 1) := by decide +kernel
theorem d_H_partOf_1 : decode y_H_partOf.2.1 1 = .ok (.istore_n 3, 1) := by decide +kernel
theorem d_H_partOf_2 : decode y_H_partOf.2.1 2 = .ok (.iconst 0, 1) := by decide +kernel
theorem d_H_partOf_3 : decode y_H_partOf.2.1 3 = .ok (.istore 4, 2) := by decide +kernel
theorem d_H_partOf_5 : decode y_H_partOf.2.1 5 = .ok (.iload 4, 2) := by decide +kernel
theorem d_H_partOf_7 : decode y_H_partOf.2.1 7 = .ok (.iload_n 1, 1) := by decide +kernel
theorem d_H_partOf_8 : decode y_H_partOf.2.1 8 = .ok (.if_icmp .ge 14, 3) := by decide +kernel
theorem d_H_partOf_11 : decode y_H_partOf.2.1 11 = .ok (.iload_n 3, 1) := by decide +kernel
theorem d_H_partOf_12 : decode y_H_partOf.2.1 12 = .ok (.bipush 100, 2) := by decide +kernel
theorem d_H_partOf_14 : decode y_H_partOf.2.1 14 = .ok (.imul, 1) := by decide +kernel
theorem d_H_partOf_15 : decode y_H_partOf.2.1 15 = .ok (.istore_n 3, 1) := by decide +kernel
theorem d_H_partOf_16 : decode y_H_partOf.2.1 16 = .ok (.iinc 4 1, 3) := by decide +kernel
theorem d_H_partOf_19 : decode y_H_partOf.2.1 19 = .ok (.goto (-14), 3) := by decide +kernel
theorem d_H_partOf_22 : decode y_H_partOf.2.1 22 = .ok (.iload_n 3, 1) := by decide +kernel
theorem d_H_partOf_23 : decode y_H_partOf.2.1 23 = .ok (.iload_n 0, 1) := by decide +kernel
theorem d_H_partOf_24 : decode y_H_partOf.2.1 24 = .ok (.invokestatic 369, 3) := by decide +kernel
theorem d_H_partOf_27 : decode y_H_partOf.2.1 27 = .ok (.istore 4, 2) := by decide +kernel
theorem d_H_partOf_29 : decode y_H_partOf.2.1 29 = .ok (.iload 4, 2) := by decide +kernel
theorem d_H_partOf_31 : decode y_H_partOf.2.1 31 = .ok (.ifCond .gt 5, 3) := by decide +kernel
theorem d_H_partOf_34 : decode y_H_partOf.2.1 34 = .ok (.iconst (-1), 1) := by decide +kernel
theorem d_H_partOf_35 : decode y_H_partOf.2.1 35 = .ok (.ireturn, 1) := by decide +kernel
theorem d_H_partOf_36 : decode y_H_partOf.2.1 36 = .ok (.iload_n 2, 1) := by decide +kernel
theorem d_H_partOf_37 : decode y_H_partOf.2.1 37 = .ok (.ifCond .ne 10, 3) := by decide +kernel
theorem d_H_partOf_40 : decode y_H_partOf.2.1 40 = .ok (.iload_n 0, 1) := by decide +kernel
theorem d_H_partOf_41 : decode y_H_partOf.2.1 41 = .ok (.iload 4, 2) := by decide +kernel
theorem d_H_partOf_43 : decode y_H_partOf.2.1 43 = .ok (.idiv, 1) := by decide +kernel
theorem d_H_partOf_44 : decode y_H_partOf.2.1 44 = .ok (.goto 7, 3) := by decide +kernel
theorem d_H_partOf_47 : decode y_H_partOf.2.1 47 = .ok (.iload_n 3, 1) := by decide +kernel
theorem d_H_partOf_48 : decode y_H_partOf.2.1 48 = .ok (.iload 4, 2) := by decide +kernel
theorem d_H_partOf_50 : decode y_H_partOf.2.1 50 = .ok (.idiv, 1) := by decide +kernel
theorem d_H_partOf_51 : decode y_H_partOf.2.1 51 = .ok (.ireturn, 1) := by decide +kernel

abbrev y_H_mean : MI := (⟨"CricketHay", "mean", "(IIII)I"⟩, prog_1_method_27_code, 7, (some .int))
theorem hy_H_mean : y_H_mean.1.cls ≠ "java/lang/invoke/MethodHandle" ∧ y_H_mean.1.cls ≠ "java/lang/invoke/VarHandle" ∧ (parseMethodDescriptor y_H_mean.1.desc).map (fun d => d.parameters.length) = some 4 := by decide +kernel
theorem d_H_mean_0 : decode y_H_mean.2.1 0 = .ok (.aload_n 0, 1) := by decide +kernel
theorem d_H_mean_1 : decode y_H_mean.2.1 1 = .ok (.iload_n 1, 1) := by decide +kernel
theorem d_H_mean_2 : decode y_H_mean.2.1 2 = .ok (.iload_n 2, 1) := by decide +kernel
theorem d_H_mean_3 : decode y_H_mean.2.1 3 = .ok (.invokevirtual 170, 3) := by decide +kernel
theorem d_H_mean_6 : decode y_H_mean.2.1 6 = .ok (.ifCond .eq 22, 3) := by decide +kernel
theorem d_H_mean_9 : decode y_H_mean.2.1 9 = .ok (.iload_n 3, 1) := by decide +kernel
theorem d_H_mean_10 : decode y_H_mean.2.1 10 = .ok (.iconst 0, 1) := by decide +kernel
theorem d_H_mean_11 : decode y_H_mean.2.1 11 = .ok (.iconst 3, 1) := by decide +kernel
theorem d_H_mean_12 : decode y_H_mean.2.1 12 = .ok (.invokestatic 208, 3) := by decide +kernel
theorem d_H_mean_15 : decode y_H_mean.2.1 15 = .ok (.ifCond .eq 13, 3) := by decide +kernel
theorem d_H_mean_18 : decode y_H_mean.2.1 18 = .ok (.iload 4, 2) := by decide +kernel
theorem d_H_mean_20 : decode y_H_mean.2.1 20 = .ok (.iconst 0, 1) := by decide +kernel
theorem d_H_mean_21 : decode y_H_mean.2.1 21 = .ok (.iconst 1, 1) := by decide +kernel
theorem d_H_mean_22 : decode y_H_mean.2.1 22 = .ok (.invokestatic 208, 3) := by decide +kernel
theorem d_H_mean_25 : decode y_H_mean.2.1 25 = .ok (.ifCond .ne 5, 3) := by decide +kernel
theorem d_H_mean_28 : decode y_H_mean.2.1 28 = .ok (.iconst (-1), 1) := by decide +kernel
theorem d_H_mean_29 : decode y_H_mean.2.1 29 = .ok (.ireturn, 1) := by decide +kernel
theorem d_H_mean_30 : decode y_H_mean.2.1 30 = .ok (.iconst 0, 1) := by decide +kernel
theorem d_H_mean_31 : decode y_H_mean.2.1 31 = .ok (.istore 5, 2) := by decide +kernel
theorem d_H_mean_33 : decode y_H_mean.2.1 33 = .ok (.iconst 0, 1) := by decide +kernel
theorem d_H_mean_34 : decode y_H_mean.2.1 34 = .ok (.istore 6, 2) := by decide +kernel
theorem d_H_mean_36 : decode y_H_mean.2.1 36 = .ok (.iload 6, 2) := by decide +kernel
theorem d_H_mean_38 : decode y_H_mean.2.1 38 = .ok (.iconst 1, 1) := by decide +kernel
theorem d_H_mean_39 : decode y_H_mean.2.1 39 = .ok (.iload_n 3, 1) := by decide +kernel
theorem d_H_mean_40 : decode y_H_mean.2.1 40 = .ok (.ishl, 1) := by decide +kernel
theorem d_H_mean_41 : decode y_H_mean.2.1 41 = .ok (.if_icmp .ge 31, 3) := by decide +kernel
theorem d_H_mean_44 : decode y_H_mean.2.1 44 = .ok (.iload 5, 2) := by decide +kernel
theorem d_H_mean_46 : decode y_H_mean.2.1 46 = .ok (.aload_n 0, 1) := by decide +kernel
theorem d_H_mean_47 : decode y_H_mean.2.1 47 = .ok (.iload_n 3, 1) := by decide +kernel
theorem d_H_mean_48 : decode y_H_mean.2.1 48 = .ok (.iload 6, 2) := by decide +kernel
theorem d_H_mean_50 : decode y_H_mean.2.1 50 = .ok (.invokevirtual 261, 3) := by decide +kernel
theorem d_H_mean_53 : decode y_H_mean.2.1 53 = .ok (.aload_n 0, 1) := by decide +kernel
theorem d_H_mean_54 : decode y_H_mean.2.1 54 = .ok (.iload_n 1, 1) := by decide +kernel
theorem d_H_mean_55 : decode y_H_mean.2.1 55 = .ok (.iload_n 2, 1) := by decide +kernel
theorem d_H_mean_56 : decode y_H_mean.2.1 56 = .ok (.iload_n 3, 1) := by decide +kernel
theorem d_H_mean_57 : decode y_H_mean.2.1 57 = .ok (.iload 6, 2) := by decide +kernel
theorem d_H_mean_59 : decode y_H_mean.2.1 59 = .ok (.invokevirtual 264, 3) := by decide +kernel
theorem d_H_mean_62 : decode y_H_mean.2.1 62 = .ok (.imul, 1) := by decide +kernel
theorem d_H_mean_63 : decode y_H_mean.2.1 63 = .ok (.iadd, 1) := by decide +kernel
theorem d_H_mean_64 : decode y_H_mean.2.1 64 = .ok (.istore 5, 2) := by decide +kernel
theorem d_H_mean_66 : decode y_H_mean.2.1 66 = .ok (.iinc 6 1, 3) := by decide +kernel
theorem d_H_mean_69 : decode y_H_mean.2.1 69 = .ok (.goto (-33), 3) := by decide +kernel
theorem d_H_mean_72 : decode y_H_mean.2.1 72 = .ok (.iload 5, 2) := by decide +kernel
theorem d_H_mean_74 : decode y_H_mean.2.1 74 = .ok (.iload_n 3, 1) := by decide +kernel
theorem d_H_mean_75 : decode y_H_mean.2.1 75 = .ok (.iload 4, 2) := by decide +kernel
theorem d_H_mean_77 : decode y_H_mean.2.1 77 = .ok (.invokestatic 267, 3) := by decide +kernel
theorem d_H_mean_80 : decode y_H_mean.2.1 80 = .ok (.ireturn, 1) := by decide +kernel

abbrev y_H_hearBreaths : MI := (⟨"CricketHay", "hearBreaths", "(III)V"⟩, prog_1_method_51_code, 6, none)
theorem hy_H_hearBreaths : y_H_hearBreaths.1.cls ≠ "java/lang/invoke/MethodHandle" ∧ y_H_hearBreaths.1.cls ≠ "java/lang/invoke/VarHandle" ∧ (parseMethodDescriptor y_H_hearBreaths.1.desc).map (fun d => d.parameters.length) = some 3 := by decide +kernel
theorem d_H_hearBreaths_0 : decode y_H_hearBreaths.2.1 0 = .ok (.aload_n 0, 1) := by decide +kernel
theorem d_H_hearBreaths_1 : decode y_H_hearBreaths.2.1 1 = .ok (.getfield 33, 3) := by decide +kernel
theorem d_H_hearBreaths_4 : decode y_H_hearBreaths.2.1 4 = .ok (.aload_n 0, 1) := by decide +kernel
theorem d_H_hearBreaths_5 : decode y_H_hearBreaths.2.1 5 = .ok (.getfield 29, 3) := by decide +kernel
theorem d_H_hearBreaths_8 : decode y_H_hearBreaths.2.1 8 = .ok (.invokevirtual 258, 3) := by decide +kernel
theorem d_H_hearBreaths_11 : decode y_H_hearBreaths.2.1 11 = .ok (.iconst 0, 1) := by decide +kernel
theorem d_H_hearBreaths_12 : decode y_H_hearBreaths.2.1 12 = .ok (.istore 4, 2) := by decide +kernel
theorem d_H_hearBreaths_14 : decode y_H_hearBreaths.2.1 14 = .ok (.iload 4, 2) := by decide +kernel
theorem d_H_hearBreaths_16 : decode y_H_hearBreaths.2.1 16 = .ok (.iconst 5, 1) := by decide +kernel
theorem d_H_hearBreaths_17 : decode y_H_hearBreaths.2.1 17 = .ok (.if_icmp .ge 88, 3) := by decide +kernel
theorem d_H_hearBreaths_20 : decode y_H_hearBreaths.2.1 20 = .ok (.iconst 0, 1) := by decide +kernel
theorem d_H_hearBreaths_21 : decode y_H_hearBreaths.2.1 21 = .ok (.istore 5, 2) := by decide +kernel
theorem d_H_hearBreaths_23 : decode y_H_hearBreaths.2.1 23 = .ok (.iload 5, 2) := by decide +kernel
theorem d_H_hearBreaths_25 : decode y_H_hearBreaths.2.1 25 = .ok (.iconst 5, 1) := by decide +kernel
theorem d_H_hearBreaths_26 : decode y_H_hearBreaths.2.1 26 = .ok (.if_icmp .ge 73, 3) := by decide +kernel
theorem d_H_hearBreaths_29 : decode y_H_hearBreaths.2.1 29 = .ok (.aload_n 0, 1) := by decide +kernel
theorem d_H_hearBreaths_30 : decode y_H_hearBreaths.2.1 30 = .ok (.getfield 33, 3) := by decide +kernel
theorem d_H_hearBreaths_33 : decode y_H_hearBreaths.2.1 33 = .ok (.getfield 149, 3) := by decide +kernel
theorem d_H_hearBreaths_36 : decode y_H_hearBreaths.2.1 36 = .ok (.iload_n 1, 1) := by decide +kernel
theorem d_H_hearBreaths_37 : decode y_H_hearBreaths.2.1 37 = .ok (.iload 4, 2) := by decide +kernel
theorem d_H_hearBreaths_39 : decode y_H_hearBreaths.2.1 39 = .ok (.iconst 2, 1) := by decide +kernel
theorem d_H_hearBreaths_40 : decode y_H_hearBreaths.2.1 40 = .ok (.isub, 1) := by decide +kernel
theorem d_H_hearBreaths_41 : decode y_H_hearBreaths.2.1 41 = .ok (.iastore, 1) := by decide +kernel
theorem d_H_hearBreaths_42 : decode y_H_hearBreaths.2.1 42 = .ok (.aload_n 0, 1) := by decide +kernel
theorem d_H_hearBreaths_43 : decode y_H_hearBreaths.2.1 43 = .ok (.getfield 33, 3) := by decide +kernel
theorem d_H_hearBreaths_46 : decode y_H_hearBreaths.2.1 46 = .ok (.getfield 149, 3) := by decide +kernel
theorem d_H_hearBreaths_49 : decode y_H_hearBreaths.2.1 49 = .ok (.iload_n 2, 1) := by decide +kernel
theorem d_H_hearBreaths_50 : decode y_H_hearBreaths.2.1 50 = .ok (.iload 5, 2) := by decide +kernel
theorem d_H_hearBreaths_52 : decode y_H_hearBreaths.2.1 52 = .ok (.iconst 2, 1) := by decide +kernel
theorem d_H_hearBreaths_53 : decode y_H_hearBreaths.2.1 53 = .ok (.isub, 1) := by decide +kernel
theorem d_H_hearBreaths_54 : decode y_H_hearBreaths.2.1 54 = .ok (.iastore, 1) := by decide +kernel
theorem d_H_hearBreaths_55 : decode y_H_hearBreaths.2.1 55 = .ok (.aload_n 0, 1) := by decide +kernel
theorem d_H_hearBreaths_56 : decode y_H_hearBreaths.2.1 56 = .ok (.getfield 39, 3) := by decide +kernel
theorem d_H_hearBreaths_59 : decode y_H_hearBreaths.2.1 59 = .ok (.aload_n 0, 1) := by decide +kernel
theorem d_H_hearBreaths_60 : decode y_H_hearBreaths.2.1 60 = .ok (.getfield 19, 3) := by decide +kernel
theorem d_H_hearBreaths_63 : decode y_H_hearBreaths.2.1 63 = .ok (.aload_n 0, 1) := by decide +kernel
theorem d_H_hearBreaths_64 : decode y_H_hearBreaths.2.1 64 = .ok (.getfield 33, 3) := by decide +kernel
theorem d_H_hearBreaths_67 : decode y_H_hearBreaths.2.1 67 = .ok (.invokevirtual 155, 3) := by decide +kernel
theorem d_H_hearBreaths_70 : decode y_H_hearBreaths.2.1 70 = .ok (.aload_n 0, 1) := by decide +kernel
theorem d_H_hearBreaths_71 : decode y_H_hearBreaths.2.1 71 = .ok (.getfield 85, 3) := by decide +kernel
theorem d_H_hearBreaths_74 : decode y_H_hearBreaths.2.1 74 = .ok (.iload 4, 2) := by decide +kernel
theorem d_H_hearBreaths_76 : decode y_H_hearBreaths.2.1 76 = .ok (.iconst 5, 1) := by decide +kernel
theorem d_H_hearBreaths_77 : decode y_H_hearBreaths.2.1 77 = .ok (.imul, 1) := by decide +kernel
theorem d_H_hearBreaths_78 : decode y_H_hearBreaths.2.1 78 = .ok (.iload 5, 2) := by decide +kernel
theorem d_H_hearBreaths_80 : decode y_H_hearBreaths.2.1 80 = .ok (.iadd, 1) := by decide +kernel
theorem d_H_hearBreaths_81 : decode y_H_hearBreaths.2.1 81 = .ok (.iload_n 3, 1) := by decide +kernel
theorem d_H_hearBreaths_82 : decode y_H_hearBreaths.2.1 82 = .ok (.aload_n 0, 1) := by decide +kernel
theorem d_H_hearBreaths_83 : decode y_H_hearBreaths.2.1 83 = .ok (.getfield 39, 3) := by decide +kernel
theorem d_H_hearBreaths_86 : decode y_H_hearBreaths.2.1 86 = .ok (.iload_n 1, 1) := by decide +kernel
theorem d_H_hearBreaths_87 : decode y_H_hearBreaths.2.1 87 = .ok (.iload_n 2, 1) := by decide +kernel
theorem d_H_hearBreaths_88 : decode y_H_hearBreaths.2.1 88 = .ok (.invokevirtual 174, 3) := by decide +kernel
theorem d_H_hearBreaths_91 : decode y_H_hearBreaths.2.1 91 = .ok (.imul, 1) := by decide +kernel
theorem d_H_hearBreaths_92 : decode y_H_hearBreaths.2.1 92 = .ok (.iastore, 1) := by decide +kernel
theorem d_H_hearBreaths_93 : decode y_H_hearBreaths.2.1 93 = .ok (.iinc 5 1, 3) := by decide +kernel
theorem d_H_hearBreaths_96 : decode y_H_hearBreaths.2.1 96 = .ok (.goto (-73), 3) := by decide +kernel
theorem d_H_hearBreaths_99 : decode y_H_hearBreaths.2.1 99 = .ok (.iinc 4 1, 3) := by decide +kernel
theorem d_H_hearBreaths_102 : decode y_H_hearBreaths.2.1 102 = .ok (.goto (-88), 3) := by decide +kernel
theorem d_H_hearBreaths_105 : decode y_H_hearBreaths.2.1 105 = .ok (.return_, 1) := by decide +kernel

abbrev y_H_buyerHas : MI := (⟨"CricketHay", "buyerHas", "(II)I"⟩, prog_1_method_52_code, 3, (some .int))
theorem hy_H_buyerHas : y_H_buyerHas.1.cls ≠ "java/lang/invoke/MethodHandle" ∧ y_H_buyerHas.1.cls ≠ "java/lang/invoke/VarHandle" ∧ (parseMethodDescriptor y_H_buyerHas.1.desc).map (fun d => d.parameters.length) = some 2 := by decide +kernel
theorem d_H_buyerHas_0 : decode y_H_buyerHas.2.1 0 = .ok (.aload_n 0, 1) := by decide +kernel
theorem d_H_buyerHas_1 : decode y_H_buyerHas.2.1 1 = .ok (.getfield 85, 3) := by decide +kernel
theorem d_H_buyerHas_4 : decode y_H_buyerHas.2.1 4 = .ok (.iload_n 1, 1) := by decide +kernel
theorem d_H_buyerHas_5 : decode y_H_buyerHas.2.1 5 = .ok (.iconst 5, 1) := by decide +kernel
theorem d_H_buyerHas_6 : decode y_H_buyerHas.2.1 6 = .ok (.imul, 1) := by decide +kernel
theorem d_H_buyerHas_7 : decode y_H_buyerHas.2.1 7 = .ok (.iload_n 2, 1) := by decide +kernel
theorem d_H_buyerHas_8 : decode y_H_buyerHas.2.1 8 = .ok (.iadd, 1) := by decide +kernel
theorem d_H_buyerHas_9 : decode y_H_buyerHas.2.1 9 = .ok (.iaload, 1) := by decide +kernel
theorem d_H_buyerHas_10 : decode y_H_buyerHas.2.1 10 = .ok (.ineg, 1) := by decide +kernel
theorem d_H_buyerHas_11 : decode y_H_buyerHas.2.1 11 = .ok (.iconst 3, 1) := by decide +kernel
theorem d_H_buyerHas_12 : decode y_H_buyerHas.2.1 12 = .ok (.iload_n 1, 1) := by decide +kernel
theorem d_H_buyerHas_13 : decode y_H_buyerHas.2.1 13 = .ok (.iconst 2, 1) := by decide +kernel
theorem d_H_buyerHas_14 : decode y_H_buyerHas.2.1 14 = .ok (.isub, 1) := by decide +kernel
theorem d_H_buyerHas_15 : decode y_H_buyerHas.2.1 15 = .ok (.invokestatic 354, 3) := by decide +kernel
theorem d_H_buyerHas_18 : decode y_H_buyerHas.2.1 18 = .ok (.imul, 1) := by decide +kernel
theorem d_H_buyerHas_19 : decode y_H_buyerHas.2.1 19 = .ok (.isub, 1) := by decide +kernel
theorem d_H_buyerHas_20 : decode y_H_buyerHas.2.1 20 = .ok (.ireturn, 1) := by decide +kernel

abbrev y_H_buyerStays : MI := (⟨"CricketHay", "buyerStays", "(II)Z"⟩, prog_1_method_54_code, 4, (some .boolean))
theorem hy_H_buyerStays : y_H_buyerStays.1.cls ≠ "java/lang/invoke/MethodHandle" ∧ y_H_buyerStays.1.cls ≠ "java/lang/invoke/VarHandle" ∧ (parseMethodDescriptor y_H_buyerStays.1.desc).map (fun d => d.parameters.length) = some 2 := by decide +kernel
theorem d_H_buyerStays_0 : decode y_H_buyerStays.2.1 0 = .ok (.iconst 0, 1) := by decide +kernel
theorem d_H_buyerStays_1 : decode y_H_buyerStays.2.1 1 = .ok (.istore_n 3, 1) := by decide +kernel
theorem d_H_buyerStays_2 : decode y_H_buyerStays.2.1 2 = .ok (.iload_n 3, 1) := by decide +kernel
theorem d_H_buyerStays_3 : decode y_H_buyerStays.2.1 3 = .ok (.iconst 5, 1) := by decide +kernel
theorem d_H_buyerStays_4 : decode y_H_buyerStays.2.1 4 = .ok (.if_icmp .ge 26, 3) := by decide +kernel
theorem d_H_buyerStays_7 : decode y_H_buyerStays.2.1 7 = .ok (.aload_n 0, 1) := by decide +kernel
theorem d_H_buyerStays_8 : decode y_H_buyerStays.2.1 8 = .ok (.iload_n 3, 1) := by decide +kernel
theorem d_H_buyerStays_9 : decode y_H_buyerStays.2.1 9 = .ok (.iload_n 2, 1) := by decide +kernel
theorem d_H_buyerStays_10 : decode y_H_buyerStays.2.1 10 = .ok (.invokevirtual 357, 3) := by decide +kernel
theorem d_H_buyerStays_13 : decode y_H_buyerStays.2.1 13 = .ok (.aload_n 0, 1) := by decide +kernel
theorem d_H_buyerStays_14 : decode y_H_buyerStays.2.1 14 = .ok (.iload_n 1, 1) := by decide +kernel
theorem d_H_buyerStays_15 : decode y_H_buyerStays.2.1 15 = .ok (.iload_n 2, 1) := by decide +kernel
theorem d_H_buyerStays_16 : decode y_H_buyerStays.2.1 16 = .ok (.invokevirtual 357, 3) := by decide +kernel
theorem d_H_buyerStays_19 : decode y_H_buyerStays.2.1 19 = .ok (.if_icmp .le 5, 3) := by decide +kernel
theorem d_H_buyerStays_22 : decode y_H_buyerStays.2.1 22 = .ok (.iconst 0, 1) := by decide +kernel
theorem d_H_buyerStays_23 : decode y_H_buyerStays.2.1 23 = .ok (.ireturn, 1) := by decide +kernel
theorem d_H_buyerStays_24 : decode y_H_buyerStays.2.1 24 = .ok (.iinc 3 1, 3) := by decide +kernel
theorem d_H_buyerStays_27 : decode y_H_buyerStays.2.1 27 = .ok (.goto (-25), 3) := by decide +kernel
theorem d_H_buyerStays_30 : decode y_H_buyerStays.2.1 30 = .ok (.iconst 1, 1) := by decide +kernel
theorem d_H_buyerStays_31 : decode y_H_buyerStays.2.1 31 = .ok (.ireturn, 1) := by decide +kernel

abbrev y_H_sellerHas : MI := (⟨"CricketHay", "sellerHas", "(II)I"⟩, prog_1_method_53_code, 3, (some .int))
theorem hy_H_sellerHas : y_H_sellerHas.1.cls ≠ "java/lang/invoke/MethodHandle" ∧ y_H_sellerHas.1.cls ≠ "java/lang/invoke/VarHandle" ∧ (parseMethodDescriptor y_H_sellerHas.1.desc).map (fun d => d.parameters.length) = some 2 := by decide +kernel
theorem d_H_sellerHas_0 : decode y_H_sellerHas.2.1 0 = .ok (.aload_n 0, 1) := by decide +kernel
theorem d_H_sellerHas_1 : decode y_H_sellerHas.2.1 1 = .ok (.getfield 85, 3) := by decide +kernel
theorem d_H_sellerHas_4 : decode y_H_sellerHas.2.1 4 = .ok (.iload_n 1, 1) := by decide +kernel
theorem d_H_sellerHas_5 : decode y_H_sellerHas.2.1 5 = .ok (.iconst 5, 1) := by decide +kernel
theorem d_H_sellerHas_6 : decode y_H_sellerHas.2.1 6 = .ok (.imul, 1) := by decide +kernel
theorem d_H_sellerHas_7 : decode y_H_sellerHas.2.1 7 = .ok (.iload_n 2, 1) := by decide +kernel
theorem d_H_sellerHas_8 : decode y_H_sellerHas.2.1 8 = .ok (.iadd, 1) := by decide +kernel
theorem d_H_sellerHas_9 : decode y_H_sellerHas.2.1 9 = .ok (.iaload, 1) := by decide +kernel
theorem d_H_sellerHas_10 : decode y_H_sellerHas.2.1 10 = .ok (.iconst 3, 1) := by decide +kernel
theorem d_H_sellerHas_11 : decode y_H_sellerHas.2.1 11 = .ok (.iload_n 2, 1) := by decide +kernel
theorem d_H_sellerHas_12 : decode y_H_sellerHas.2.1 12 = .ok (.iconst 2, 1) := by decide +kernel
theorem d_H_sellerHas_13 : decode y_H_sellerHas.2.1 13 = .ok (.isub, 1) := by decide +kernel
theorem d_H_sellerHas_14 : decode y_H_sellerHas.2.1 14 = .ok (.invokestatic 354, 3) := by decide +kernel
theorem d_H_sellerHas_17 : decode y_H_sellerHas.2.1 17 = .ok (.imul, 1) := by decide +kernel
theorem d_H_sellerHas_18 : decode y_H_sellerHas.2.1 18 = .ok (.isub, 1) := by decide +kernel
theorem d_H_sellerHas_19 : decode y_H_sellerHas.2.1 19 = .ok (.ireturn, 1) := by decide +kernel

abbrev y_H_sellerStays : MI := (⟨"CricketHay", "sellerStays", "(II)Z"⟩, prog_1_method_55_code, 4, (some .boolean))
theorem hy_H_sellerStays : y_H_sellerStays.1.cls ≠ "java/lang/invoke/MethodHandle" ∧ y_H_sellerStays.1.cls ≠ "java/lang/invoke/VarHandle" ∧ (parseMethodDescriptor y_H_sellerStays.1.desc).map (fun d => d.parameters.length) = some 2 := by decide +kernel
theorem d_H_sellerStays_0 : decode y_H_sellerStays.2.1 0 = .ok (.iconst 0, 1) := by decide +kernel
theorem d_H_sellerStays_1 : decode y_H_sellerStays.2.1 1 = .ok (.istore_n 3, 1) := by decide +kernel
theorem d_H_sellerStays_2 : decode y_H_sellerStays.2.1 2 = .ok (.iload_n 3, 1) := by decide +kernel
theorem d_H_sellerStays_3 : decode y_H_sellerStays.2.1 3 = .ok (.iconst 5, 1) := by decide +kernel
theorem d_H_sellerStays_4 : decode y_H_sellerStays.2.1 4 = .ok (.if_icmp .ge 26, 3) := by decide +kernel
theorem d_H_sellerStays_7 : decode y_H_sellerStays.2.1 7 = .ok (.aload_n 0, 1) := by decide +kernel
theorem d_H_sellerStays_8 : decode y_H_sellerStays.2.1 8 = .ok (.iload_n 1, 1) := by decide +kernel
theorem d_H_sellerStays_9 : decode y_H_sellerStays.2.1 9 = .ok (.iload_n 3, 1) := by decide +kernel
theorem d_H_sellerStays_10 : decode y_H_sellerStays.2.1 10 = .ok (.invokevirtual 360, 3) := by decide +kernel
theorem d_H_sellerStays_13 : decode y_H_sellerStays.2.1 13 = .ok (.aload_n 0, 1) := by decide +kernel
theorem d_H_sellerStays_14 : decode y_H_sellerStays.2.1 14 = .ok (.iload_n 1, 1) := by decide +kernel
theorem d_H_sellerStays_15 : decode y_H_sellerStays.2.1 15 = .ok (.iload_n 2, 1) := by decide +kernel
theorem d_H_sellerStays_16 : decode y_H_sellerStays.2.1 16 = .ok (.invokevirtual 360, 3) := by decide +kernel
theorem d_H_sellerStays_19 : decode y_H_sellerStays.2.1 19 = .ok (.if_icmp .le 5, 3) := by decide +kernel
theorem d_H_sellerStays_22 : decode y_H_sellerStays.2.1 22 = .ok (.iconst 0, 1) := by decide +kernel
theorem d_H_sellerStays_23 : decode y_H_sellerStays.2.1 23 = .ok (.ireturn, 1) := by decide +kernel
theorem d_H_sellerStays_24 : decode y_H_sellerStays.2.1 24 = .ok (.iinc 3 1, 3) := by decide +kernel
theorem d_H_sellerStays_27 : decode y_H_sellerStays.2.1 27 = .ok (.goto (-25), 3) := by decide +kernel
theorem d_H_sellerStays_30 : decode y_H_sellerStays.2.1 30 = .ok (.iconst 1, 1) := by decide +kernel
theorem d_H_sellerStays_31 : decode y_H_sellerStays.2.1 31 = .ok (.ireturn, 1) := by decide +kernel

abbrev y_H_rest : MI := (⟨"CricketHay", "rest", "(III)I"⟩, prog_1_method_28_code, 7, (some .int))
theorem hy_H_rest : y_H_rest.1.cls ≠ "java/lang/invoke/MethodHandle" ∧ y_H_rest.1.cls ≠ "java/lang/invoke/VarHandle" ∧ (parseMethodDescriptor y_H_rest.1.desc).map (fun d => d.parameters.length) = some 3 := by decide +kernel
theorem d_H_rest_0 : decode y_H_rest.2.1 0 = .ok (.aload_n 0, 1) := by decide +kernel
theorem d_H_rest_1 : decode y_H_rest.2.1 1 = .ok (.getfield 81, 3) := by decide +kernel
theorem d_H_rest_4 : decode y_H_rest.2.1 4 = .ok (.invokevirtual 112, 3) := by decide +kernel
theorem d_H_rest_7 : decode y_H_rest.2.1 7 = .ok (.aload_n 0, 1) := by decide +kernel
theorem d_H_rest_8 : decode y_H_rest.2.1 8 = .ok (.iload_n 1, 1) := by decide +kernel
theorem d_H_rest_9 : decode y_H_rest.2.1 9 = .ok (.iload_n 2, 1) := by decide +kernel
theorem d_H_rest_10 : decode y_H_rest.2.1 10 = .ok (.invokevirtual 170, 3) := by decide +kernel
theorem d_H_rest_13 : decode y_H_rest.2.1 13 = .ok (.ifCond .eq 37, 3) := by decide +kernel
theorem d_H_rest_16 : decode y_H_rest.2.1 16 = .ok (.aload_n 0, 1) := by decide +kernel
theorem d_H_rest_17 : decode y_H_rest.2.1 17 = .ok (.getfield 29, 3) := by decide +kernel
theorem d_H_rest_20 : decode y_H_rest.2.1 20 = .ok (.getfield 152, 3) := by decide +kernel
theorem d_H_rest_23 : decode y_H_rest.2.1 23 = .ok (.iload_n 1, 1) := by decide +kernel
theorem d_H_rest_24 : decode y_H_rest.2.1 24 = .ok (.iaload, 1) := by decide +kernel
theorem d_H_rest_25 : decode y_H_rest.2.1 25 = .ok (.ifCond .ne 25, 3) := by decide +kernel
theorem d_H_rest_28 : decode y_H_rest.2.1 28 = .ok (.aload_n 0, 1) := by decide +kernel
theorem d_H_rest_29 : decode y_H_rest.2.1 29 = .ok (.getfield 29, 3) := by decide +kernel
theorem d_H_rest_32 : decode y_H_rest.2.1 32 = .ok (.getfield 152, 3) := by decide +kernel
theorem d_H_rest_35 : decode y_H_rest.2.1 35 = .ok (.iload_n 2, 1) := by decide +kernel
theorem d_H_rest_36 : decode y_H_rest.2.1 36 = .ok (.iaload, 1) := by decide +kernel
theorem d_H_rest_37 : decode y_H_rest.2.1 37 = .ok (.ifCond .ne 13, 3) := by decide +kernel
theorem d_H_rest_40 : decode y_H_rest.2.1 40 = .ok (.iload_n 3, 1) := by decide +kernel
theorem d_H_rest_41 : decode y_H_rest.2.1 41 = .ok (.iconst 1, 1) := by decide +kernel
theorem d_H_rest_42 : decode y_H_rest.2.1 42 = .ok (.bipush 9, 2) := by decide +kernel
theorem d_H_rest_44 : decode y_H_rest.2.1 44 = .ok (.invokestatic 208, 3) := by decide +kernel
theorem d_H_rest_47 : decode y_H_rest.2.1 47 = .ok (.ifCond .ne 5, 3) := by decide +kernel
theorem d_H_rest_50 : decode y_H_rest.2.1 50 = .ok (.iconst (-1), 1) := by decide +kernel
theorem d_H_rest_51 : decode y_H_rest.2.1 51 = .ok (.ireturn, 1) := by decide +kernel
theorem d_H_rest_52 : decode y_H_rest.2.1 52 = .ok (.aload_n 0, 1) := by decide +kernel
theorem d_H_rest_53 : decode y_H_rest.2.1 53 = .ok (.iload_n 1, 1) := by decide +kernel
theorem d_H_rest_54 : decode y_H_rest.2.1 54 = .ok (.iload_n 2, 1) := by decide +kernel
theorem d_H_rest_55 : decode y_H_rest.2.1 55 = .ok (.iload_n 3, 1) := by decide +kernel
theorem d_H_rest_56 : decode y_H_rest.2.1 56 = .ok (.invokevirtual 271, 3) := by decide +kernel
theorem d_H_rest_59 : decode y_H_rest.2.1 59 = .ok (.iconst 0, 1) := by decide +kernel
theorem d_H_rest_60 : decode y_H_rest.2.1 60 = .ok (.istore 4, 2) := by decide +kernel
theorem d_H_rest_62 : decode y_H_rest.2.1 62 = .ok (.iconst 0, 1) := by decide +kernel
theorem d_H_rest_63 : decode y_H_rest.2.1 63 = .ok (.istore 5, 2) := by decide +kernel
theorem d_H_rest_65 : decode y_H_rest.2.1 65 = .ok (.iload 5, 2) := by decide +kernel
theorem d_H_rest_67 : decode y_H_rest.2.1 67 = .ok (.iconst 5, 1) := by decide +kernel
theorem d_H_rest_68 : decode y_H_rest.2.1 68 = .ok (.if_icmp .ge 76, 3) := by decide +kernel
theorem d_H_rest_71 : decode y_H_rest.2.1 71 = .ok (.iconst 0, 1) := by decide +kernel
theorem d_H_rest_72 : decode y_H_rest.2.1 72 = .ok (.istore 6, 2) := by decide +kernel
theorem d_H_rest_74 : decode y_H_rest.2.1 74 = .ok (.iload 6, 2) := by decide +kernel
theorem d_H_rest_76 : decode y_H_rest.2.1 76 = .ok (.iconst 5, 1) := by decide +kernel
theorem d_H_rest_77 : decode y_H_rest.2.1 77 = .ok (.if_icmp .ge 61, 3) := by decide +kernel
theorem d_H_rest_80 : decode y_H_rest.2.1 80 = .ok (.aload_n 0, 1) := by decide +kernel
theorem d_H_rest_81 : decode y_H_rest.2.1 81 = .ok (.iload 5, 2) := by decide +kernel
theorem d_H_rest_83 : decode y_H_rest.2.1 83 = .ok (.iload 6, 2) := by decide +kernel
theorem d_H_rest_85 : decode y_H_rest.2.1 85 = .ok (.invokevirtual 274, 3) := by decide +kernel
theorem d_H_rest_88 : decode y_H_rest.2.1 88 = .ok (.ifCond .eq 44, 3) := by decide +kernel
theorem d_H_rest_91 : decode y_H_rest.2.1 91 = .ok (.aload_n 0, 1) := by decide +kernel
theorem d_H_rest_92 : decode y_H_rest.2.1 92 = .ok (.iload 5, 2) := by decide +kernel
theorem d_H_rest_94 : decode y_H_rest.2.1 94 = .ok (.iload 6, 2) := by decide +kernel
theorem d_H_rest_96 : decode y_H_rest.2.1 96 = .ok (.invokevirtual 277, 3) := by decide +kernel
theorem d_H_rest_99 : decode y_H_rest.2.1 99 = .ok (.ifCond .eq 33, 3) := by decide +kernel
theorem d_H_rest_102 : decode y_H_rest.2.1 102 = .ok (.iload 4, 2) := by decide +kernel
theorem d_H_rest_104 : decode y_H_rest.2.1 104 = .ok (.ifCond .ne 25, 3) := by decide +kernel
theorem d_H_rest_107 : decode y_H_rest.2.1 107 = .ok (.aload_n 0, 1) := by decide +kernel
theorem d_H_rest_108 : decode y_H_rest.2.1 108 = .ok (.getfield 81, 3) := by decide +kernel
theorem d_H_rest_111 : decode y_H_rest.2.1 111 = .ok (.iload 5, 2) := by decide +kernel
theorem d_H_rest_113 : decode y_H_rest.2.1 113 = .ok (.iconst 2, 1) := by decide +kernel
theorem d_H_rest_114 : decode y_H_rest.2.1 114 = .ok (.isub, 1) := by decide +kernel
theorem d_H_rest_115 : decode y_H_rest.2.1 115 = .ok (.invokevirtual 223, 3) := by decide +kernel
theorem d_H_rest_118 : decode y_H_rest.2.1 118 = .ok (.aload_n 0, 1) := by decide +kernel
theorem d_H_rest_119 : decode y_H_rest.2.1 119 = .ok (.getfield 81, 3) := by decide +kernel
theorem d_H_rest_122 : decode y_H_rest.2.1 122 = .ok (.iload 6, 2) := by decide +kernel
theorem d_H_rest_124 : decode y_H_rest.2.1 124 = .ok (.iconst 2, 1) := by decide +kernel
theorem d_H_rest_125 : decode y_H_rest.2.1 125 = .ok (.isub, 1) := by decide +kernel
theorem d_H_rest_126 : decode y_H_rest.2.1 126 = .ok (.invokevirtual 223, 3) := by decide +kernel
theorem d_H_rest_129 : decode y_H_rest.2.1 129 = .ok (.iinc 4 1, 3) := by decide +kernel
theorem d_H_rest_132 : decode y_H_rest.2.1 132 = .ok (.iinc 6 1, 3) := by decide +kernel
theorem d_H_rest_135 : decode y_H_rest.2.1 135 = .ok (.goto (-61), 3) := by decide +kernel
theorem d_H_rest_138 : decode y_H_rest.2.1 138 = .ok (.iinc 5 1, 3) := by decide +kernel
theorem d_H_rest_141 : decode y_H_rest.2.1 141 = .ok (.goto (-76), 3) := by decide +kernel
theorem d_H_rest_144 : decode y_H_rest.2.1 144 = .ok (.iload 4, 2) := by decide +kernel
theorem d_H_rest_146 : decode y_H_rest.2.1 146 = .ok (.ireturn, 1) := by decide +kernel

abbrev y_H_odds : MI := (⟨"CricketHay", "odds", "(IIIII)I"⟩, prog_1_method_29_code, 8, (some .int))
theorem hy_H_odds : y_H_odds.1.cls ≠ "java/lang/invoke/MethodHandle" ∧ y_H_odds.1.cls ≠ "java/lang/invoke/VarHandle" ∧ (parseMethodDescriptor y_H_odds.1.desc).map (fun d => d.parameters.length) = some 5 := by decide +kernel
theorem d_H_odds_0 : decode y_H_odds.2.1 0 = .ok (.aload_n 0, 1) := by decide +kernel
theorem d_H_odds_1 : decode y_H_odds.2.1 1 = .ok (.iload_n 1, 1) := by decide +kernel
theorem d_H_odds_2 : decode y_H_odds.2.1 2 = .ok (.iload_n 2, 1) := by decide +kernel
theorem d_H_odds_3 : decode y_H_odds.2.1 3 = .ok (.invokevirtual 170, 3) := by decide +kernel
theorem d_H_odds_6 : decode y_H_odds.2.1 6 = .ok (.ifCond .eq 23, 3) := by decide +kernel
theorem d_H_odds_9 : decode y_H_odds.2.1 9 = .ok (.iload 4, 2) := by decide +kernel
theorem d_H_odds_11 : decode y_H_odds.2.1 11 = .ok (.iconst 0, 1) := by decide +kernel
theorem d_H_odds_12 : decode y_H_odds.2.1 12 = .ok (.iconst 4, 1) := by decide +kernel
theorem d_H_odds_13 : decode y_H_odds.2.1 13 = .ok (.invokestatic 208, 3) := by decide +kernel
theorem d_H_odds_16 : decode y_H_odds.2.1 16 = .ok (.ifCond .eq 13, 3) := by decide +kernel
theorem d_H_odds_19 : decode y_H_odds.2.1 19 = .ok (.iload 5, 2) := by decide +kernel
theorem d_H_odds_21 : decode y_H_odds.2.1 21 = .ok (.iconst 0, 1) := by decide +kernel
theorem d_H_odds_22 : decode y_H_odds.2.1 22 = .ok (.iconst 1, 1) := by decide +kernel
theorem d_H_odds_23 : decode y_H_odds.2.1 23 = .ok (.invokestatic 208, 3) := by decide +kernel
theorem d_H_odds_26 : decode y_H_odds.2.1 26 = .ok (.ifCond .ne 5, 3) := by decide +kernel
theorem d_H_odds_29 : decode y_H_odds.2.1 29 = .ok (.iconst (-1), 1) := by decide +kernel
theorem d_H_odds_30 : decode y_H_odds.2.1 30 = .ok (.ireturn, 1) := by decide +kernel
theorem d_H_odds_31 : decode y_H_odds.2.1 31 = .ok (.iconst 0, 1) := by decide +kernel
theorem d_H_odds_32 : decode y_H_odds.2.1 32 = .ok (.istore 6, 2) := by decide +kernel
theorem d_H_odds_34 : decode y_H_odds.2.1 34 = .ok (.iconst 0, 1) := by decide +kernel
theorem d_H_odds_35 : decode y_H_odds.2.1 35 = .ok (.istore 7, 2) := by decide +kernel
theorem d_H_odds_37 : decode y_H_odds.2.1 37 = .ok (.iload 7, 2) := by decide +kernel
theorem d_H_odds_39 : decode y_H_odds.2.1 39 = .ok (.iconst 1, 1) := by decide +kernel
theorem d_H_odds_40 : decode y_H_odds.2.1 40 = .ok (.iload 4, 2) := by decide +kernel
theorem d_H_odds_42 : decode y_H_odds.2.1 42 = .ok (.ishl, 1) := by decide +kernel
theorem d_H_odds_43 : decode y_H_odds.2.1 43 = .ok (.if_icmp .ge 36, 3) := by decide +kernel
theorem d_H_odds_46 : decode y_H_odds.2.1 46 = .ok (.aload_n 0, 1) := by decide +kernel
theorem d_H_odds_47 : decode y_H_odds.2.1 47 = .ok (.iload_n 1, 1) := by decide +kernel
theorem d_H_odds_48 : decode y_H_odds.2.1 48 = .ok (.iload_n 2, 1) := by decide +kernel
theorem d_H_odds_49 : decode y_H_odds.2.1 49 = .ok (.iload 4, 2) := by decide +kernel
theorem d_H_odds_51 : decode y_H_odds.2.1 51 = .ok (.iload 7, 2) := by decide +kernel
theorem d_H_odds_53 : decode y_H_odds.2.1 53 = .ok (.invokevirtual 264, 3) := by decide +kernel
theorem d_H_odds_56 : decode y_H_odds.2.1 56 = .ok (.iload_n 3, 1) := by decide +kernel
theorem d_H_odds_57 : decode y_H_odds.2.1 57 = .ok (.if_icmp .lt 16, 3) := by decide +kernel
theorem d_H_odds_60 : decode y_H_odds.2.1 60 = .ok (.iload 6, 2) := by decide +kernel
theorem d_H_odds_62 : decode y_H_odds.2.1 62 = .ok (.aload_n 0, 1) := by decide +kernel
theorem d_H_odds_63 : decode y_H_odds.2.1 63 = .ok (.iload 4, 2) := by decide +kernel
theorem d_H_odds_65 : decode y_H_odds.2.1 65 = .ok (.iload 7, 2) := by decide +kernel
theorem d_H_odds_67 : decode y_H_odds.2.1 67 = .ok (.invokevirtual 261, 3) := by decide +kernel
theorem d_H_odds_70 : decode y_H_odds.2.1 70 = .ok (.iadd, 1) := by decide +kernel
theorem d_H_odds_71 : decode y_H_odds.2.1 71 = .ok (.istore 6, 2) := by decide +kernel
theorem d_H_odds_73 : decode y_H_odds.2.1 73 = .ok (.iinc 7 1, 3) := by decide +kernel
theorem d_H_odds_76 : decode y_H_odds.2.1 76 = .ok (.goto (-39), 3) := by decide +kernel
theorem d_H_odds_79 : decode y_H_odds.2.1 79 = .ok (.iload 6, 2) := by decide +kernel
theorem d_H_odds_81 : decode y_H_odds.2.1 81 = .ok (.iload 4, 2) := by decide +kernel
theorem d_H_odds_83 : decode y_H_odds.2.1 83 = .ok (.iload 5, 2) := by decide +kernel
theorem d_H_odds_85 : decode y_H_odds.2.1 85 = .ok (.invokestatic 267, 3) := by decide +kernel
theorem d_H_odds_88 : decode y_H_odds.2.1 88 = .ok (.ireturn, 1) := by decide +kernel
def f_H_will  (a1 : Int32) (a2 : Int32) (a3 : Int32) (h : AH) : Option (Int32 × AH) :=
  bI (f_H_areTwo a1 a2 h) fun rq1 hq2 =>
  if rq1 = 0 then
    some ((-1 : Int32), hq2)
  else
    bI (f_H_within a3 (0 : Int32) (60 : Int32) hq2) fun rq3 hq4 =>
    if ¬ rq3 = 0 then
      bV (f_H_lookAhead a3 hq4) fun hq5 =>
      gd hq5 0 1 7 fun cq6 =>
      bV (f_Choir_tune cq6 44 hq5) fun hq7 =>
      bI (f_Choir_half a1 a2 hq7) fun rq8 hq9 =>
      some (rq8, hq9)
    else
      some ((-1 : Int32), hq4)
set_option maxHeartbeats 2000000 in
theorem ok_H_will {G : AE} {n : Nat} (hn : NN ≤ n)  (a1 : Int32) (a2 : Int32) (a3 : Int32) (h : AH) : OK G n y_H_will (6) φI [.ref 0, .int a1, .int a2, .int a3] h (f_H_will a1 a2 a3 h) := by
  refine ok_of (y := y_H_will) (lv0 := [some (.ref 0), some (.int a1), some (.int a2), some (.int a3)]) (by decide +kernel) (Nat.le_of_ble_eq_true rfl) ⟨rfl, ⟨rfl, ⟨rfl, ⟨rfl, trivial⟩⟩⟩⟩ ?_
  rw [f_H_will]
  refine r_aload_n (pc := 0) (i := 0) d_H_will_0 rfl rfl ?_
  refine r_iload_n (pc := 1) (i := 1) d_H_will_1 rfl rfl ?_
  refine r_iload_n (pc := 2) (i := 2) d_H_will_2 rfl rfl ?_
  refine r_cVi (pc := 3) (T := F_11) (N := 13) (st := []) (ok_H_areTwo hn a1 a2 h) (fun s => Std.k s (lc hn rfl) kq_0) rfl w_722 w_1 w_719 w_721 ws_23 hy_H_areTwo ⟨Nat.le_of_ble_eq_true rfl, Nat.le_of_ble_eq_true rfl⟩ ⟨Nat.le_of_ble_eq_true rfl, Nat.le_of_ble_eq_true rfl⟩ rfl (Nat.le_of_ble_eq_true rfl) d_H_will_3 (fun rq1 hq2 => ?_)
  refine r_if_eq (pc := 6) (tgt := 19) d_H_will_6 (by rfl) ?_ ?_
  · refine r_iconst (pc := 19) (v := -1) d_H_will_19 (by rfl) ?_
    exact r_iret (pc := 20) rfl d_H_will_20
  · refine r_iload_n (pc := 9) (i := 3) d_H_will_9 rfl rfl ?_
    refine r_iconst (pc := 10) (v := 0) d_H_will_10 (by rfl) ?_
    refine r_bipush (pc := 11) (v := 60) d_H_will_11 (by rfl) ?_
    refine r_cSi (pc := 13) (st := []) (ok_H_within hn a3 (0 : Int32) (60 : Int32) hq2) w_817 w_1 w_815 w_816 hy_H_within ⟨Nat.le_of_ble_eq_true rfl, Nat.le_of_ble_eq_true rfl⟩ ⟨Nat.le_of_ble_eq_true rfl, Nat.le_of_ble_eq_true rfl⟩ rfl (Nat.le_of_ble_eq_true rfl) d_H_will_13 (fun rq3 hq4 => ?_)
    refine r_if_ne (pc := 16) (tgt := 21) d_H_will_16 (by rfl) ?_ ?_
    · refine r_aload_n (pc := 21) (i := 0) d_H_will_21 rfl rfl ?_
      refine r_iload_n (pc := 22) (i := 3) d_H_will_22 rfl rfl ?_
      refine r_cVv (pc := 23) (T := F_11) (N := 13) (st := []) (ok_H_lookAhead hn a3 hq4) (fun s => Std.k s (lc hn rfl) kq_0) rfl w_821 w_1 w_818 w_820 ws_27 hy_H_lookAhead ⟨Nat.le_of_ble_eq_true rfl, Nat.le_of_ble_eq_true rfl⟩ ⟨Nat.le_of_ble_eq_true rfl, Nat.le_of_ble_eq_true rfl⟩ rfl (Nat.le_of_ble_eq_true rfl) d_H_will_23 (fun hq5 => ?_)
      refine r_aload_n (pc := 26) (i := 0) d_H_will_26 rfl rfl ?_
      refine r_getf (pc := 27) (ci := 11) (k := 5) (C := "CricketHay") (T := F_11) (N := 13) (v := .ref 51) (fun s => Std.k s (lc hn rfl) kq_0) rfl (Nat.le_of_ble_eq_true rfl) rfl w_427 (fun s => vr rfl (Std.r s (lc hn rfl) rq_0_5)) d_H_will_27 ?_
      refine r_aload_n (pc := 30) (i := 0) d_H_will_30 rfl rfl ?_
      refine r_gd (fun cq6 rcq6 kcq6 => ?_)
      refine r_getf (pc := 31) (ci := 11) (k := 1) (C := "CricketHay") (T := F_11) (N := 13) (v := .ref cq6) (fun s => Std.k s (lc hn rfl) kq_0) rfl (Nat.le_of_ble_eq_true rfl) rfl w_423 (fun _ => vr rfl rcq6) d_H_will_31 ?_
      refine r_aload_n (pc := 34) (i := 0) d_H_will_34 rfl rfl ?_
      refine r_getf (pc := 35) (ci := 11) (k := 4) (C := "CricketHay") (T := F_11) (N := 13) (v := .ref 44) (fun s => Std.k s (lc hn rfl) kq_0) rfl (Nat.le_of_ble_eq_true rfl) rfl w_426 (fun s => vr rfl (Std.r s (lc hn rfl) rq_0_4)) d_H_will_35 ?_
      refine r_cVv (pc := 38) (T := F_2) (N := 2) (st := []) (ok_Choir_tune hn cq6 kcq6 44 kq_44 hq5) (fun s => Std.k s (lc hn rfl) kq_51) rfl w_668 w_6 w_665 w_666 w_667 hy_Choir_tune ⟨Nat.le_of_ble_eq_true rfl, Nat.le_of_ble_eq_true rfl⟩ ⟨Nat.le_of_ble_eq_true rfl, Nat.le_of_ble_eq_true rfl⟩ rfl (Nat.le_of_ble_eq_true rfl) d_H_will_38 (fun hq7 => ?_)
      refine r_aload_n (pc := 41) (i := 0) d_H_will_41 rfl rfl ?_
      refine r_getf (pc := 42) (ci := 11) (k := 5) (C := "CricketHay") (T := F_11) (N := 13) (v := .ref 51) (fun s => Std.k s (lc hn rfl) kq_0) rfl (Nat.le_of_ble_eq_true rfl) rfl w_427 (fun s => vr rfl (Std.r s (lc hn rfl) rq_0_5)) d_H_will_42 ?_
      refine r_iload_n (pc := 45) (i := 1) d_H_will_45 rfl rfl ?_
      refine r_iload_n (pc := 46) (i := 2) d_H_will_46 rfl rfl ?_
      refine r_cVi (pc := 47) (T := F_2) (N := 2) (st := []) (ok_Choir_half hn a1 a2 hq7) (fun s => Std.k s (lc hn rfl) kq_51) rfl w_726 w_6 w_723 w_724 w_725 hy_Choir_half ⟨Nat.le_of_ble_eq_true rfl, Nat.le_of_ble_eq_true rfl⟩ ⟨Nat.le_of_ble_eq_true rfl, Nat.le_of_ble_eq_true rfl⟩ rfl (Nat.le_of_ble_eq_true rfl) d_H_will_47 (fun rq8 hq9 => ?_)
      exact r_iret (pc := 50) rfl d_H_will_50
    · refine r_iconst (pc := 19) (v := -1) d_H_will_19 (by rfl) ?_
      exact r_iret (pc := 20) rfl d_H_will_20

def f_H_bestHour_b96  (a1 : Int32) (a2 : Int32) (a3 : Int32) (a4 : Int32) (k41 : Int32 → Int32 → Int32 → AH → Option (Int32 × AH)) (x5 : Int32) (x6 : Int32) (x7 : Int32) (h : AH) : Option (Int32 × AH) :=
  gd h 0 1 7 fun cq1 =>
  bV (f_Yard_pass1 44 cq1 h) fun hq2 =>
  lt (x7 + (1 : Int32)) fun xq3 =>
  k41 x5 x6 xq3 hq2
set_option maxHeartbeats 2000000 in
theorem o_H_bestHour_b96 {G : AE} {n : Nat} (hn : NN ≤ n)  {a1 : Int32} {a2 : Int32} {a3 : Int32} {a4 : Int32}  {k41 : Int32 → Int32 → Int32 → AH → Option (Int32 × AH)} (hk41 : ∀ (x5 : Int32) (x6 : Int32) (x7 : Int32) (h : AH), AJ G n y_H_bestHour (6) φI 41 [some (.ref 0), some (.int a1), some (.int a2), some (.int a3), some (.int a4), some (.int x5), some (.int x6), some (.int x7), none] [] h (k41 x5 x6 x7 h)) : ∀ (x5 : Int32) (x6 : Int32) (x7 : Int32) (h : AH), AJ G n y_H_bestHour (6) φI 96 [some (.ref 0), some (.int a1), some (.int a2), some (.int a3), some (.int a4), some (.int x5), some (.int x6), some (.int x7), none] [] h (f_H_bestHour_b96 a1 a2 a3 a4 k41 x5 x6 x7 h) := by
  intro x5 x6 x7 h
  rw [f_H_bestHour_b96]
  refine r_aload_n (pc := 96) (i := 0) d_H_bestHour_96 rfl rfl ?_
  refine r_getf (pc := 97) (ci := 11) (k := 4) (C := "CricketHay") (T := F_11) (N := 13) (v := .ref 44) (fun s => Std.k s (lc hn rfl) kq_0) rfl (Nat.le_of_ble_eq_true rfl) rfl w_426 (fun s => vr rfl (Std.r s (lc hn rfl) rq_0_4)) d_H_bestHour_97 ?_
  refine r_aload_n (pc := 100) (i := 0) d_H_bestHour_100 rfl rfl ?_
  refine r_gd (fun cq1 rcq1 kcq1 => ?_)
  refine r_getf (pc := 101) (ci := 11) (k := 1) (C := "CricketHay") (T := F_11) (N := 13) (v := .ref cq1) (fun s => Std.k s (lc hn rfl) kq_0) rfl (Nat.le_of_ble_eq_true rfl) rfl w_423 (fun _ => vr rfl rcq1) d_H_bestHour_101 ?_
  refine r_cVv (pc := 104) (T := F_10) (N := 10) (st := []) (ok_Yard_pass1 hn 44 kq_44 cq1 kcq1 h) (fun s => Std.k s (lc hn rfl) kq_44) rfl w_781 w_5 w_778 w_779 w_780 hy_Yard_pass1 ⟨Nat.le_of_ble_eq_true rfl, Nat.le_of_ble_eq_true rfl⟩ ⟨Nat.le_of_ble_eq_true rfl, Nat.le_of_ble_eq_true rfl⟩ rfl (Nat.le_of_ble_eq_true rfl) d_H_bestHour_104 (fun hq2 => ?_)
  refine r_ltE (fun xq3 exq3 => ?_)
  refine r_iinc (pc := 107) (v := xq3) (lv1 := [some (.ref 0), some (.int a1), some (.int a2), some (.int a3), some (.int a4), some (.int x5), some (.int x6), some (.int xq3), none]) d_H_bestHour_107 rfl exq3.symm (Nat.le_of_ble_eq_true rfl) rfl ?_
  refine r_goto (pc := 110) (tgt := 41) d_H_bestHour_110 (by rfl) ?_
  exact r_wk (hk41 x5 x6 xq3 hq2) ⟨rfl, ⟨rfl, ⟨rfl, ⟨rfl, ⟨rfl, ⟨rfl, ⟨rfl, ⟨rfl, trivial⟩⟩⟩⟩⟩⟩⟩⟩
def f_H_bestHour_b88  (a1 : Int32) (a2 : Int32) (a3 : Int32) (a4 : Int32) (k41 : Int32 → Int32 → Int32 → AH → Option (Int32 × AH)) (x7 : Int32) (x8 : Int32) (h : AH) : Option (Int32 × AH) :=
  f_H_bestHour_b96 a1 a2 a3 a4 k41 x7 x8 x7 h
set_option maxHeartbeats 2000000 in
theorem o_H_bestHour_b88 {G : AE} {n : Nat} (hn : NN ≤ n)  {a1 : Int32} {a2 : Int32} {a3 : Int32} {a4 : Int32}  {k41 : Int32 → Int32 → Int32 → AH → Option (Int32 × AH)} (hk41 : ∀ (x5 : Int32) (x6 : Int32) (x7 : Int32) (h : AH), AJ G n y_H_bestHour (6) φI 41 [some (.ref 0), some (.int a1), some (.int a2), some (.int a3), some (.int a4), some (.int x5), some (.int x6), some (.int x7), none] [] h (k41 x5 x6 x7 h)) : ∀ (x7 : Int32) (x8 : Int32) (h : AH), AJ G n y_H_bestHour (6) φI 88 [some (.ref 0), some (.int a1), some (.int a2), some (.int a3), some (.int a4), none, none, some (.int x7), some (.int x8)] [] h (f_H_bestHour_b88 a1 a2 a3 a4 k41 x7 x8 h) := by
  intro x7 x8 h
  rw [f_H_bestHour_b88]
  refine r_iload (pc := 88) d_H_bestHour_88 rfl ?_
  refine r_istore (pc := 90) (lv1 := [some (.ref 0), some (.int a1), some (.int a2), some (.int a3), some (.int a4), none, some (.int x8), some (.int x7), some (.int x8)]) d_H_bestHour_90 (Nat.le_of_ble_eq_true rfl) rfl ?_
  refine r_iload (pc := 92) d_H_bestHour_92 rfl ?_
  refine r_istore (pc := 94) (lv1 := [some (.ref 0), some (.int a1), some (.int a2), some (.int a3), some (.int a4), some (.int x7), some (.int x8), some (.int x7), some (.int x8)]) d_H_bestHour_94 (Nat.le_of_ble_eq_true rfl) rfl ?_
  exact r_wk (o_H_bestHour_b96 hn hk41 x7 x8 x7 h) ⟨rfl, ⟨rfl, ⟨rfl, ⟨rfl, ⟨rfl, ⟨rfl, ⟨rfl, ⟨rfl, trivial⟩⟩⟩⟩⟩⟩⟩⟩
def f_H_bestHour_l41  (a1 : Int32) (a2 : Int32) (a3 : Int32) (a4 : Int32)  : Nat → Int32 → Int32 → Int32 → AH → Option (Int32 × AH)
  | 0, _, _, _, _ => none
  | n + 1, x5, x6, x7, h =>
    if a3 < x7 then
      some (x5, h)
    else
      gd h 0 1 7 fun cq1 =>
      bV (f_Choir_tune cq1 44 h) fun hq2 =>
      bI (f_Choir_half a1 a2 hq2) fun rq3 hq4 =>
      lt (a4 * rq3) fun xq5 =>
      if x7 = 0 then
        f_H_bestHour_b88 a1 a2 a3 a4 (f_H_bestHour_l41 a1 a2 a3 a4 n) x7 xq5 hq4
      else
        if x6 ≤ xq5 then
          f_H_bestHour_b96 a1 a2 a3 a4 (f_H_bestHour_l41 a1 a2 a3 a4 n) x5 x6 x7 hq4
        else
          f_H_bestHour_b88 a1 a2 a3 a4 (f_H_bestHour_l41 a1 a2 a3 a4 n) x7 xq5 hq4
set_option maxHeartbeats 2000000 in
theorem o_H_bestHour_l41 {G : AE} {n : Nat} (hn : NN ≤ n)  {a1 : Int32} {a2 : Int32} {a3 : Int32} {a4 : Int32}   : ∀ (n0 : Nat) (x5 : Int32) (x6 : Int32) (x7 : Int32) (h : AH), AJ G n y_H_bestHour (6) φI 41 [some (.ref 0), some (.int a1), some (.int a2), some (.int a3), some (.int a4), some (.int x5), some (.int x6), some (.int x7), none] [] h (f_H_bestHour_l41 a1 a2 a3 a4 n0 x5 x6 x7 h) := by
  intro n0
  induction n0 with
  | zero => intros; exact r_none
  | succ n0 ih =>
    intro x5 x6 x7 h
    rw [f_H_bestHour_l41]
    refine r_iload (pc := 41) d_H_bestHour_41 rfl ?_
    refine r_iload_n (pc := 43) (i := 3) d_H_bestHour_43 rfl rfl ?_
    refine r_icmp_gt (pc := 44) (tgt := 113) d_H_bestHour_44 (by rfl) ?_ ?_
    · refine r_iload (pc := 113) d_H_bestHour_113 rfl ?_
      exact r_iret (pc := 115) rfl d_H_bestHour_115
    · refine r_aload_n (pc := 47) (i := 0) d_H_bestHour_47 rfl rfl ?_
      refine r_getf (pc := 48) (ci := 11) (k := 5) (C := "CricketHay") (T := F_11) (N := 13) (v := .ref 51) (fun s => Std.k s (lc hn rfl) kq_0) rfl (Nat.le_of_ble_eq_true rfl) rfl w_427 (fun s => vr rfl (Std.r s (lc hn rfl) rq_0_5)) d_H_bestHour_48 ?_
      refine r_aload_n (pc := 51) (i := 0) d_H_bestHour_51 rfl rfl ?_
      refine r_gd (fun cq1 rcq1 kcq1 => ?_)
      refine r_getf (pc := 52) (ci := 11) (k := 1) (C := "CricketHay") (T := F_11) (N := 13) (v := .ref cq1) (fun s => Std.k s (lc hn rfl) kq_0) rfl (Nat.le_of_ble_eq_true rfl) rfl w_423 (fun _ => vr rfl rcq1) d_H_bestHour_52 ?_
      refine r_aload_n (pc := 55) (i := 0) d_H_bestHour_55 rfl rfl ?_
      refine r_getf (pc := 56) (ci := 11) (k := 4) (C := "CricketHay") (T := F_11) (N := 13) (v := .ref 44) (fun s => Std.k s (lc hn rfl) kq_0) rfl (Nat.le_of_ble_eq_true rfl) rfl w_426 (fun s => vr rfl (Std.r s (lc hn rfl) rq_0_4)) d_H_bestHour_56 ?_
      refine r_cVv (pc := 59) (T := F_2) (N := 2) (st := []) (ok_Choir_tune hn cq1 kcq1 44 kq_44 h) (fun s => Std.k s (lc hn rfl) kq_51) rfl w_668 w_6 w_665 w_666 w_667 hy_Choir_tune ⟨Nat.le_of_ble_eq_true rfl, Nat.le_of_ble_eq_true rfl⟩ ⟨Nat.le_of_ble_eq_true rfl, Nat.le_of_ble_eq_true rfl⟩ rfl (Nat.le_of_ble_eq_true rfl) d_H_bestHour_59 (fun hq2 => ?_)
      refine r_iload (pc := 62) d_H_bestHour_62 rfl ?_
      refine r_aload_n (pc := 64) (i := 0) d_H_bestHour_64 rfl rfl ?_
      refine r_getf (pc := 65) (ci := 11) (k := 5) (C := "CricketHay") (T := F_11) (N := 13) (v := .ref 51) (fun s => Std.k s (lc hn rfl) kq_0) rfl (Nat.le_of_ble_eq_true rfl) rfl w_427 (fun s => vr rfl (Std.r s (lc hn rfl) rq_0_5)) d_H_bestHour_65 ?_
      refine r_iload_n (pc := 68) (i := 1) d_H_bestHour_68 rfl rfl ?_
      refine r_iload_n (pc := 69) (i := 2) d_H_bestHour_69 rfl rfl ?_
      refine r_cVi (pc := 70) (T := F_2) (N := 2) (st := [.int a4]) (ok_Choir_half hn a1 a2 hq2) (fun s => Std.k s (lc hn rfl) kq_51) rfl w_726 w_6 w_723 w_724 w_725 hy_Choir_half ⟨Nat.le_of_ble_eq_true rfl, Nat.le_of_ble_eq_true rfl⟩ ⟨Nat.le_of_ble_eq_true rfl, Nat.le_of_ble_eq_true rfl⟩ rfl (Nat.le_of_ble_eq_true rfl) d_H_bestHour_70 (fun rq3 hq4 => ?_)
      refine r_imul (pc := 73) d_H_bestHour_73 ?_
      refine r_ltI (fun xq5 => ?_)
      refine r_istore (pc := 74) (lv1 := [some (.ref 0), some (.int a1), some (.int a2), some (.int a3), some (.int a4), some (.int x5), some (.int x6), some (.int x7), some (.int xq5)]) d_H_bestHour_74 (Nat.le_of_ble_eq_true rfl) rfl ?_
      refine r_iload (pc := 76) d_H_bestHour_76 rfl ?_
      refine r_if_eq (pc := 78) (tgt := 88) d_H_bestHour_78 (by rfl) ?_ ?_
      · exact r_wk (o_H_bestHour_b88 hn ih x7 xq5 hq4) ⟨rfl, ⟨rfl, ⟨rfl, ⟨rfl, ⟨rfl, ⟨rfl, ⟨rfl, trivial⟩⟩⟩⟩⟩⟩⟩
      · refine r_iload (pc := 81) d_H_bestHour_81 rfl ?_
        refine r_iload (pc := 83) d_H_bestHour_83 rfl ?_
        refine r_icmp_ge (pc := 85) (tgt := 96) d_H_bestHour_85 (by rfl) ?_ ?_
        · exact r_wk (o_H_bestHour_b96 hn ih x5 x6 x7 hq4) ⟨rfl, ⟨rfl, ⟨rfl, ⟨rfl, ⟨rfl, ⟨rfl, ⟨rfl, ⟨rfl, trivial⟩⟩⟩⟩⟩⟩⟩⟩
        · exact r_wk (o_H_bestHour_b88 hn ih x7 xq5 hq4) ⟨rfl, ⟨rfl, ⟨rfl, ⟨rfl, ⟨rfl, ⟨rfl, ⟨rfl, trivial⟩⟩⟩⟩⟩⟩⟩
def f_H_bestHour  (a1 : Int32) (a2 : Int32) (a3 : Int32) (a4 : Int32) (h : AH) : Option (Int32 × AH) :=
  bI (f_H_areTwo a1 a2 h) fun rq1 hq2 =>
  if rq1 = 0 then
    some ((-1 : Int32), hq2)
  else
    bI (f_H_within a3 (0 : Int32) (60 : Int32) hq2) fun rq3 hq4 =>
    if ¬ rq3 = 0 then
      bV (f_Yard_copy 44 37 hq4) fun hq5 =>
      f_H_bestHour_l41 a1 a2 a3 a4 FU (0 : Int32) (0 : Int32) (0 : Int32) hq5
    else
      some ((-1 : Int32), hq4)
set_option maxHeartbeats 2000000 in
theorem ok_H_bestHour {G : AE} {n : Nat} (hn : NN ≤ n)  (a1 : Int32) (a2 : Int32) (a3 : Int32) (a4 : Int32) (h : AH) : OK G n y_H_bestHour (6) φI [.ref 0, .int a1, .int a2, .int a3, .int a4] h (f_H_bestHour a1 a2 a3 a4 h) := by
  refine ok_of (y := y_H_bestHour) (lv0 := [some (.ref 0), some (.int a1), some (.int a2), some (.int a3), some (.int a4), none, none, none, none]) (by decide +kernel) (Nat.le_of_ble_eq_true rfl) ⟨rfl, ⟨rfl, ⟨rfl, ⟨rfl, ⟨rfl, trivial⟩⟩⟩⟩⟩ ?_
  rw [f_H_bestHour]
  refine r_aload_n (pc := 0) (i := 0) d_H_bestHour_0 rfl rfl ?_
  refine r_iload_n (pc := 1) (i := 1) d_H_bestHour_1 rfl rfl ?_
  refine r_iload_n (pc := 2) (i := 2) d_H_bestHour_2 rfl rfl ?_
  refine r_cVi (pc := 3) (T := F_11) (N := 13) (st := []) (ok_H_areTwo hn a1 a2 h) (fun s => Std.k s (lc hn rfl) kq_0) rfl w_722 w_1 w_719 w_721 ws_23 hy_H_areTwo ⟨Nat.le_of_ble_eq_true rfl, Nat.le_of_ble_eq_true rfl⟩ ⟨Nat.le_of_ble_eq_true rfl, Nat.le_of_ble_eq_true rfl⟩ rfl (Nat.le_of_ble_eq_true rfl) d_H_bestHour_3 (fun rq1 hq2 => ?_)
  refine r_if_eq (pc := 6) (tgt := 19) d_H_bestHour_6 (by rfl) ?_ ?_
  · refine r_iconst (pc := 19) (v := -1) d_H_bestHour_19 (by rfl) ?_
    exact r_iret (pc := 20) rfl d_H_bestHour_20
  · refine r_iload_n (pc := 9) (i := 3) d_H_bestHour_9 rfl rfl ?_
    refine r_iconst (pc := 10) (v := 0) d_H_bestHour_10 (by rfl) ?_
    refine r_bipush (pc := 11) (v := 60) d_H_bestHour_11 (by rfl) ?_
    refine r_cSi (pc := 13) (st := []) (ok_H_within hn a3 (0 : Int32) (60 : Int32) hq2) w_817 w_1 w_815 w_816 hy_H_within ⟨Nat.le_of_ble_eq_true rfl, Nat.le_of_ble_eq_true rfl⟩ ⟨Nat.le_of_ble_eq_true rfl, Nat.le_of_ble_eq_true rfl⟩ rfl (Nat.le_of_ble_eq_true rfl) d_H_bestHour_13 (fun rq3 hq4 => ?_)
    refine r_if_ne (pc := 16) (tgt := 21) d_H_bestHour_16 (by rfl) ?_ ?_
    · refine r_aload_n (pc := 21) (i := 0) d_H_bestHour_21 rfl rfl ?_
      refine r_getf (pc := 22) (ci := 11) (k := 4) (C := "CricketHay") (T := F_11) (N := 13) (v := .ref 44) (fun s => Std.k s (lc hn rfl) kq_0) rfl (Nat.le_of_ble_eq_true rfl) rfl w_426 (fun s => vr rfl (Std.r s (lc hn rfl) rq_0_4)) d_H_bestHour_22 ?_
      refine r_aload_n (pc := 25) (i := 0) d_H_bestHour_25 rfl rfl ?_
      refine r_getf (pc := 26) (ci := 11) (k := 3) (C := "CricketHay") (T := F_11) (N := 13) (v := .ref 37) (fun s => Std.k s (lc hn rfl) kq_0) rfl (Nat.le_of_ble_eq_true rfl) rfl w_425 (fun s => vr rfl (Std.r s (lc hn rfl) rq_0_3)) d_H_bestHour_26 ?_
      refine r_cVv (pc := 29) (T := F_10) (N := 10) (st := []) (ok_Yard_copy hn 44 kq_44 37 kq_37 hq4) (fun s => Std.k s (lc hn rfl) kq_44) rfl w_762 w_5 w_822 w_760 w_761 hy_Yard_copy ⟨Nat.le_of_ble_eq_true rfl, Nat.le_of_ble_eq_true rfl⟩ ⟨Nat.le_of_ble_eq_true rfl, Nat.le_of_ble_eq_true rfl⟩ rfl (Nat.le_of_ble_eq_true rfl) d_H_bestHour_29 (fun hq5 => ?_)
      refine r_iconst (pc := 32) (v := 0) d_H_bestHour_32 (by rfl) ?_
      refine r_istore (pc := 33) (lv1 := [some (.ref 0), some (.int a1), some (.int a2), some (.int a3), some (.int a4), some (.int (0 : Int32)), none, none, none]) d_H_bestHour_33 (Nat.le_of_ble_eq_true rfl) rfl ?_
      refine r_iconst (pc := 35) (v := 0) d_H_bestHour_35 (by rfl) ?_
      refine r_istore (pc := 36) (lv1 := [some (.ref 0), some (.int a1), some (.int a2), some (.int a3), some (.int a4), some (.int (0 : Int32)), some (.int (0 : Int32)), none, none]) d_H_bestHour_36 (Nat.le_of_ble_eq_true rfl) rfl ?_
      refine r_iconst (pc := 38) (v := 0) d_H_bestHour_38 (by rfl) ?_
      refine r_istore (pc := 39) (lv1 := [some (.ref 0), some (.int a1), some (.int a2), some (.int a3), some (.int a4), some (.int (0 : Int32)), some (.int (0 : Int32)), some (.int (0 : Int32)), none]) d_H_bestHour_39 (Nat.le_of_ble_eq_true rfl) rfl ?_
      exact r_wk (o_H_bestHour_l41 hn FU (0 : Int32) (0 : Int32) (0 : Int32) hq5) ⟨rfl, ⟨rfl, ⟨rfl, ⟨rfl, ⟨rfl, ⟨rfl, ⟨rfl, ⟨rfl, trivial⟩⟩⟩⟩⟩⟩⟩⟩
    · refine r_iconst (pc := 19) (v := -1) d_H_bestHour_19 (by rfl) ?_
      exact r_iret (pc := 20) rfl d_H_bestHour_20

def f_H_low  (a1 : Int32) (a2 : Int32) (a3 : Int32) (h : AH) : Option (Int32 × AH) :=
  bI (f_H_bestHour a1 a2 a3 (1 : Int32) h) fun rq1 hq2 =>
  some (rq1, hq2)
set_option maxHeartbeats 2000000 in
theorem ok_H_low {G : AE} {n : Nat} (hn : NN ≤ n)  (a1 : Int32) (a2 : Int32) (a3 : Int32) (h : AH) : OK G n y_H_low (7) φI [.ref 0, .int a1, .int a2, .int a3] h (f_H_low a1 a2 a3 h) := by
  refine ok_of (y := y_H_low) (lv0 := [some (.ref 0), some (.int a1), some (.int a2), some (.int a3)]) (by decide +kernel) (Nat.le_of_ble_eq_true rfl) ⟨rfl, ⟨rfl, ⟨rfl, ⟨rfl, trivial⟩⟩⟩⟩ ?_
  rw [f_H_low]
  refine r_aload_n (pc := 0) (i := 0) d_H_low_0 rfl rfl ?_
  refine r_iload_n (pc := 1) (i := 1) d_H_low_1 rfl rfl ?_
  refine r_iload_n (pc := 2) (i := 2) d_H_low_2 rfl rfl ?_
  refine r_iload_n (pc := 3) (i := 3) d_H_low_3 rfl rfl ?_
  refine r_iconst (pc := 4) (v := 1) d_H_low_4 (by rfl) ?_
  refine r_cVi (pc := 5) (T := F_11) (N := 13) (st := []) (ok_H_bestHour hn a1 a2 a3 (1 : Int32) h) (fun s => Std.k s (lc hn rfl) kq_0) rfl w_830 w_1 w_827 w_829 ws_28 hy_H_bestHour ⟨Nat.le_of_ble_eq_true rfl, Nat.le_of_ble_eq_true rfl⟩ ⟨Nat.le_of_ble_eq_true rfl, Nat.le_of_ble_eq_true rfl⟩ rfl (Nat.le_of_ble_eq_true rfl) d_H_low_5 (fun rq1 hq2 => ?_)
  exact r_iret (pc := 8) rfl d_H_low_8

def f_H_high  (a1 : Int32) (a2 : Int32) (a3 : Int32) (h : AH) : Option (Int32 × AH) :=
  bI (f_H_bestHour a1 a2 a3 (-1 : Int32) h) fun rq1 hq2 =>
  some (rq1, hq2)
set_option maxHeartbeats 2000000 in
theorem ok_H_high {G : AE} {n : Nat} (hn : NN ≤ n)  (a1 : Int32) (a2 : Int32) (a3 : Int32) (h : AH) : OK G n y_H_high (7) φI [.ref 0, .int a1, .int a2, .int a3] h (f_H_high a1 a2 a3 h) := by
  refine ok_of (y := y_H_high) (lv0 := [some (.ref 0), some (.int a1), some (.int a2), some (.int a3)]) (by decide +kernel) (Nat.le_of_ble_eq_true rfl) ⟨rfl, ⟨rfl, ⟨rfl, ⟨rfl, trivial⟩⟩⟩⟩ ?_
  rw [f_H_high]
  refine r_aload_n (pc := 0) (i := 0) d_H_high_0 rfl rfl ?_
  refine r_iload_n (pc := 1) (i := 1) d_H_high_1 rfl rfl ?_
  refine r_iload_n (pc := 2) (i := 2) d_H_high_2 rfl rfl ?_
  refine r_iload_n (pc := 3) (i := 3) d_H_high_3 rfl rfl ?_
  refine r_iconst (pc := 4) (v := -1) d_H_high_4 (by rfl) ?_
  refine r_cVi (pc := 5) (T := F_11) (N := 13) (st := []) (ok_H_bestHour hn a1 a2 a3 (-1 : Int32) h) (fun s => Std.k s (lc hn rfl) kq_0) rfl w_830 w_1 w_827 w_829 ws_28 hy_H_bestHour ⟨Nat.le_of_ble_eq_true rfl, Nat.le_of_ble_eq_true rfl⟩ ⟨Nat.le_of_ble_eq_true rfl, Nat.le_of_ble_eq_true rfl⟩ rfl (Nat.le_of_ble_eq_true rfl) d_H_high_5 (fun rq1 hq2 => ?_)
  exact r_iret (pc := 8) rfl d_H_high_8

def f_H_hearPrices_l14  (a1 : Int32) (a2 : Int32) (a3 : Int32)  : Nat → Int32 → AH → Option AH
  | 0, _, _ => none
  | n + 1, x4, h =>
    if a3 ≤ x4 then
      some h
    else
      gd h 0 1 7 fun cq1 =>
      bV (f_Choir_tune cq1 44 h) fun hq2 =>
      bI (f_Choir_half a1 a2 hq2) fun rq3 hq4 =>
      gx x4 25 <|
      lt (sI hq4 382 (ix x4) rq3) fun hq6 =>
      gd hq6 0 1 7 fun cq7 =>
      bV (f_Yard_pass1 44 cq7 hq6) fun hq8 =>
      lt (x4 + (1 : Int32)) fun xq9 =>
      f_H_hearPrices_l14 a1 a2 a3 n xq9 hq8
set_option maxHeartbeats 2000000 in
theorem o_H_hearPrices_l14 {G : AE} {n : Nat} (hn : NN ≤ n)  {a1 : Int32} {a2 : Int32} {a3 : Int32}   : ∀ (n0 : Nat) (x4 : Int32) (h : AH), AJ G n y_H_hearPrices (6) φV 14 [some (.ref 0), some (.int a1), some (.int a2), some (.int a3), some (.int x4)] [] h (f_H_hearPrices_l14 a1 a2 a3 n0 x4 h) := by
  intro n0
  induction n0 with
  | zero => intros; exact r_none
  | succ n0 ih =>
    intro x4 h
    rw [f_H_hearPrices_l14]
    refine r_iload (pc := 14) d_H_hearPrices_14 rfl ?_
    refine r_iload_n (pc := 16) (i := 3) d_H_hearPrices_16 rfl rfl ?_
    refine r_icmp_ge (pc := 17) (tgt := 68) d_H_hearPrices_17 (by rfl) ?_ ?_
    · exact r_vret (pc := 68) rfl d_H_hearPrices_68
    · refine r_aload_n (pc := 20) (i := 0) d_H_hearPrices_20 rfl rfl ?_
      refine r_getf (pc := 21) (ci := 11) (k := 5) (C := "CricketHay") (T := F_11) (N := 13) (v := .ref 51) (fun s => Std.k s (lc hn rfl) kq_0) rfl (Nat.le_of_ble_eq_true rfl) rfl w_427 (fun s => vr rfl (Std.r s (lc hn rfl) rq_0_5)) d_H_hearPrices_21 ?_
      refine r_aload_n (pc := 24) (i := 0) d_H_hearPrices_24 rfl rfl ?_
      refine r_gd (fun cq1 rcq1 kcq1 => ?_)
      refine r_getf (pc := 25) (ci := 11) (k := 1) (C := "CricketHay") (T := F_11) (N := 13) (v := .ref cq1) (fun s => Std.k s (lc hn rfl) kq_0) rfl (Nat.le_of_ble_eq_true rfl) rfl w_423 (fun _ => vr rfl rcq1) d_H_hearPrices_25 ?_
      refine r_aload_n (pc := 28) (i := 0) d_H_hearPrices_28 rfl rfl ?_
      refine r_getf (pc := 29) (ci := 11) (k := 4) (C := "CricketHay") (T := F_11) (N := 13) (v := .ref 44) (fun s => Std.k s (lc hn rfl) kq_0) rfl (Nat.le_of_ble_eq_true rfl) rfl w_426 (fun s => vr rfl (Std.r s (lc hn rfl) rq_0_4)) d_H_hearPrices_29 ?_
      refine r_cVv (pc := 32) (T := F_2) (N := 2) (st := []) (ok_Choir_tune hn cq1 kcq1 44 kq_44 h) (fun s => Std.k s (lc hn rfl) kq_51) rfl w_668 w_6 w_665 w_666 w_667 hy_Choir_tune ⟨Nat.le_of_ble_eq_true rfl, Nat.le_of_ble_eq_true rfl⟩ ⟨Nat.le_of_ble_eq_true rfl, Nat.le_of_ble_eq_true rfl⟩ rfl (Nat.le_of_ble_eq_true rfl) d_H_hearPrices_32 (fun hq2 => ?_)
      refine r_aload_n (pc := 35) (i := 0) d_H_hearPrices_35 rfl rfl ?_
      refine r_getf (pc := 36) (ci := 11) (k := 12) (C := "CricketHay") (T := F_11) (N := 13) (v := .ref 382) (fun s => Std.k s (lc hn rfl) kq_0) rfl (Nat.le_of_ble_eq_true rfl) rfl w_434 (fun s => vr rfl (Std.r s (lc hn rfl) rq_0_12)) d_H_hearPrices_36 ?_
      refine r_iload (pc := 39) d_H_hearPrices_39 rfl ?_
      refine r_aload_n (pc := 41) (i := 0) d_H_hearPrices_41 rfl rfl ?_
      refine r_getf (pc := 42) (ci := 11) (k := 5) (C := "CricketHay") (T := F_11) (N := 13) (v := .ref 51) (fun s => Std.k s (lc hn rfl) kq_0) rfl (Nat.le_of_ble_eq_true rfl) rfl w_427 (fun s => vr rfl (Std.r s (lc hn rfl) rq_0_5)) d_H_hearPrices_42 ?_
      refine r_iload_n (pc := 45) (i := 1) d_H_hearPrices_45 rfl rfl ?_
      refine r_iload_n (pc := 46) (i := 2) d_H_hearPrices_46 rfl rfl ?_
      refine r_cVi (pc := 47) (T := F_2) (N := 2) (st := [.int x4, .ref 382]) (ok_Choir_half hn a1 a2 hq2) (fun s => Std.k s (lc hn rfl) kq_51) rfl w_726 w_6 w_723 w_724 w_725 hy_Choir_half ⟨Nat.le_of_ble_eq_true rfl, Nat.le_of_ble_eq_true rfl⟩ ⟨Nat.le_of_ble_eq_true rfl, Nat.le_of_ble_eq_true rfl⟩ rfl (Nat.le_of_ble_eq_true rfl) d_H_hearPrices_47 (fun rq3 hq4 => ?_)
      refine r_gx (fun zq5 => ?_)
      refine r_iast (pc := 50) (n := 25) (i0 := (ix x4)) (fun s => Std.k s (lc hn rfl) kq_382) zq5 rfl (fun s => Std.sI s _ _ _) d_H_hearPrices_50 ?_
      refine r_ltH (fun hq6 => ?_)
      refine r_aload_n (pc := 51) (i := 0) d_H_hearPrices_51 rfl rfl ?_
      refine r_getf (pc := 52) (ci := 11) (k := 4) (C := "CricketHay") (T := F_11) (N := 13) (v := .ref 44) (fun s => Std.k s (lc hn rfl) kq_0) rfl (Nat.le_of_ble_eq_true rfl) rfl w_426 (fun s => vr rfl (Std.r s (lc hn rfl) rq_0_4)) d_H_hearPrices_52 ?_
      refine r_aload_n (pc := 55) (i := 0) d_H_hearPrices_55 rfl rfl ?_
      refine r_gd (fun cq7 rcq7 kcq7 => ?_)
      refine r_getf (pc := 56) (ci := 11) (k := 1) (C := "CricketHay") (T := F_11) (N := 13) (v := .ref cq7) (fun s => Std.k s (lc hn rfl) kq_0) rfl (Nat.le_of_ble_eq_true rfl) rfl w_423 (fun _ => vr rfl rcq7) d_H_hearPrices_56 ?_
      refine r_cVv (pc := 59) (T := F_10) (N := 10) (st := []) (ok_Yard_pass1 hn 44 kq_44 cq7 kcq7 hq6) (fun s => Std.k s (lc hn rfl) kq_44) rfl w_781 w_5 w_778 w_779 w_780 hy_Yard_pass1 ⟨Nat.le_of_ble_eq_true rfl, Nat.le_of_ble_eq_true rfl⟩ ⟨Nat.le_of_ble_eq_true rfl, Nat.le_of_ble_eq_true rfl⟩ rfl (Nat.le_of_ble_eq_true rfl) d_H_hearPrices_59 (fun hq8 => ?_)
      refine r_ltE (fun xq9 exq9 => ?_)
      refine r_iinc (pc := 62) (v := xq9) (lv1 := [some (.ref 0), some (.int a1), some (.int a2), some (.int a3), some (.int xq9)]) d_H_hearPrices_62 rfl exq9.symm (Nat.le_of_ble_eq_true rfl) rfl ?_
      refine r_goto (pc := 65) (tgt := 14) d_H_hearPrices_65 (by rfl) ?_
      exact r_wk (ih xq9 hq8) ⟨rfl, ⟨rfl, ⟨rfl, ⟨rfl, ⟨rfl, trivial⟩⟩⟩⟩⟩
def f_H_hearPrices  (a1 : Int32) (a2 : Int32) (a3 : Int32) (h : AH) : Option AH :=
  bV (f_Yard_copy 44 37 h) fun hq1 =>
  f_H_hearPrices_l14 a1 a2 a3 FU (0 : Int32) hq1
set_option maxHeartbeats 2000000 in
theorem ok_H_hearPrices {G : AE} {n : Nat} (hn : NN ≤ n)  (a1 : Int32) (a2 : Int32) (a3 : Int32) (h : AH) : OK G n y_H_hearPrices (6) φV [.ref 0, .int a1, .int a2, .int a3] h (f_H_hearPrices a1 a2 a3 h) := by
  refine ok_of (y := y_H_hearPrices) (lv0 := [some (.ref 0), some (.int a1), some (.int a2), some (.int a3), none]) (by decide +kernel) (Nat.le_of_ble_eq_true rfl) ⟨rfl, ⟨rfl, ⟨rfl, ⟨rfl, trivial⟩⟩⟩⟩ ?_
  rw [f_H_hearPrices]
  refine r_aload_n (pc := 0) (i := 0) d_H_hearPrices_0 rfl rfl ?_
  refine r_getf (pc := 1) (ci := 11) (k := 4) (C := "CricketHay") (T := F_11) (N := 13) (v := .ref 44) (fun s => Std.k s (lc hn rfl) kq_0) rfl (Nat.le_of_ble_eq_true rfl) rfl w_426 (fun s => vr rfl (Std.r s (lc hn rfl) rq_0_4)) d_H_hearPrices_1 ?_
  refine r_aload_n (pc := 4) (i := 0) d_H_hearPrices_4 rfl rfl ?_
  refine r_getf (pc := 5) (ci := 11) (k := 3) (C := "CricketHay") (T := F_11) (N := 13) (v := .ref 37) (fun s => Std.k s (lc hn rfl) kq_0) rfl (Nat.le_of_ble_eq_true rfl) rfl w_425 (fun s => vr rfl (Std.r s (lc hn rfl) rq_0_3)) d_H_hearPrices_5 ?_
  refine r_cVv (pc := 8) (T := F_10) (N := 10) (st := []) (ok_Yard_copy hn 44 kq_44 37 kq_37 h) (fun s => Std.k s (lc hn rfl) kq_44) rfl w_762 w_5 w_822 w_760 w_761 hy_Yard_copy ⟨Nat.le_of_ble_eq_true rfl, Nat.le_of_ble_eq_true rfl⟩ ⟨Nat.le_of_ble_eq_true rfl, Nat.le_of_ble_eq_true rfl⟩ rfl (Nat.le_of_ble_eq_true rfl) d_H_hearPrices_8 (fun hq1 => ?_)
  refine r_iconst (pc := 11) (v := 0) d_H_hearPrices_11 (by rfl) ?_
  refine r_istore (pc := 12) (lv1 := [some (.ref 0), some (.int a1), some (.int a2), some (.int a3), some (.int (0 : Int32))]) d_H_hearPrices_12 (Nat.le_of_ble_eq_true rfl) rfl ?_
  exact r_wk (o_H_hearPrices_l14 hn FU (0 : Int32) hq1) ⟨rfl, ⟨rfl, ⟨rfl, ⟨rfl, ⟨rfl, trivial⟩⟩⟩⟩⟩

def f_Lie_add  (a1 : Int32) (h : AH) : Option AH :=
  if (nI 12) ≤ (hI h 380 1) then
    some h
  else
    gx (hI h 380 1) 12 <|
    lt (sI h 381 (ix (hI h 380 1)) a1) fun hq2 =>
    lt (sI hq2 380 1 ((hI hq2 380 1) + (1 : Int32))) fun hq3 =>
    some hq3
set_option maxHeartbeats 2000000 in
theorem ok_Lie_add {G : AE} {n : Nat} (hn : NN ≤ n)  (a1 : Int32) (h : AH) : OK G n y_Lie_add (1) φV [.ref 380, .int a1] h (f_Lie_add a1 h) := by
  refine ok_of (y := y_Lie_add) (lv0 := [some (.ref 380), some (.int a1)]) (by decide +kernel) (Nat.le_of_ble_eq_true rfl) ⟨rfl, ⟨rfl, trivial⟩⟩ ?_
  rw [f_Lie_add]
  refine r_aload_n (pc := 0) (i := 0) d_Lie_add_0 rfl rfl ?_
  refine r_getf (pc := 1) (ci := 6) (k := 1) (C := "CricketHay$Lie") (T := F_6) (N := 2) (v := .int (hI h 380 1)) (fun s => Std.k s (lc hn rfl) kq_380) rfl (Nat.le_of_ble_eq_true rfl) rfl w_411 (fun _ => rfl) d_Lie_add_1 ?_
  refine r_aload_n (pc := 4) (i := 0) d_Lie_add_4 rfl rfl ?_
  refine r_getf (pc := 5) (ci := 6) (k := 0) (C := "CricketHay$Lie") (T := F_6) (N := 2) (v := .ref 381) (fun s => Std.k s (lc hn rfl) kq_380) rfl (Nat.le_of_ble_eq_true rfl) rfl w_409 (fun s => vr rfl (Std.r s (lc hn rfl) rq_380_0)) d_Lie_add_5 ?_
  refine r_alen (pc := 8) (n := 12) (fun s => Std.k s (lc hn rfl) kq_381) d_Lie_add_8 ?_
  refine r_icmp_ge (pc := 9) (tgt := 32) d_Lie_add_9 (by rfl) ?_ ?_
  · exact r_vret (pc := 32) rfl d_Lie_add_32
  · refine r_aload_n (pc := 12) (i := 0) d_Lie_add_12 rfl rfl ?_
    refine r_getf (pc := 13) (ci := 6) (k := 0) (C := "CricketHay$Lie") (T := F_6) (N := 2) (v := .ref 381) (fun s => Std.k s (lc hn rfl) kq_380) rfl (Nat.le_of_ble_eq_true rfl) rfl w_409 (fun s => vr rfl (Std.r s (lc hn rfl) rq_380_0)) d_Lie_add_13 ?_
    refine r_aload_n (pc := 16) (i := 0) d_Lie_add_16 rfl rfl ?_
    refine r_getf (pc := 17) (ci := 6) (k := 1) (C := "CricketHay$Lie") (T := F_6) (N := 2) (v := .int (hI h 380 1)) (fun s => Std.k s (lc hn rfl) kq_380) rfl (Nat.le_of_ble_eq_true rfl) rfl w_411 (fun _ => rfl) d_Lie_add_17 ?_
    refine r_iload_n (pc := 20) (i := 1) d_Lie_add_20 rfl rfl ?_
    refine r_gx (fun zq1 => ?_)
    refine r_iast (pc := 21) (n := 12) (i0 := (ix (hI h 380 1))) (fun s => Std.k s (lc hn rfl) kq_381) zq1 rfl (fun s => Std.sI s _ _ _) d_Lie_add_21 ?_
    refine r_ltH (fun hq2 => ?_)
    refine r_aload_n (pc := 22) (i := 0) d_Lie_add_22 rfl rfl ?_
    refine r_dup (pc := 23) d_Lie_add_23 rfl ?_
    refine r_getf (pc := 24) (ci := 6) (k := 1) (C := "CricketHay$Lie") (T := F_6) (N := 2) (v := .int (hI hq2 380 1)) (fun s => Std.k s (lc hn rfl) kq_380) rfl (Nat.le_of_ble_eq_true rfl) rfl w_411 (fun _ => rfl) d_Lie_add_24 ?_
    refine r_iconst (pc := 27) (v := 1) d_Lie_add_27 (by rfl) ?_
    refine r_iadd (pc := 28) d_Lie_add_28 ?_
    refine r_putI (pc := 29) (ci := 6) (k := 1) (C := "CricketHay$Lie") (T := F_6) (N := 2) (fun s => Std.k s (lc hn rfl) kq_380) rfl (Nat.le_of_ble_eq_true rfl) rfl rfl w_411 (fun _ _ => rfl) (fun _ => rfl) (fun _ => rfl) (fun s => Std.sI s _ _ _) d_Lie_add_29 ?_
    refine r_ltH (fun hq3 => ?_)
    exact r_vret (pc := 32) rfl d_Lie_add_32

def f_H_cheapestUnused_l4  (a1 : Int32)  : Nat → Int32 → Int32 → AH → Option (Int32 × AH)
  | 0, _, _, _ => none
  | n + 1, x2, x3, h =>
    if a1 ≤ x3 then
      some ((mx x2 (0 : Int32)), h)
    else
      gx x3 12 <|
      if ¬ (hI h 381 (ix x3)) = 0 then
        lt (x3 + (1 : Int32)) fun xq2 =>
        f_H_cheapestUnused_l4 a1 n x2 xq2 h
      else
        if x2 = (-1 : Int32) then
          lt (x3 + (1 : Int32)) fun xq3 =>
          f_H_cheapestUnused_l4 a1 n x3 xq3 h
        else
          gx x3 25 <|
          gx x2 25 <|
          if (hI h 382 (ix x2)) ≤ (hI h 382 (ix x3)) then
            lt (x3 + (1 : Int32)) fun xq6 =>
            f_H_cheapestUnused_l4 a1 n x2 xq6 h
          else
            lt (x3 + (1 : Int32)) fun xq7 =>
            f_H_cheapestUnused_l4 a1 n x3 xq7 h
set_option maxHeartbeats 2000000 in
theorem o_H_cheapestUnused_l4 {G : AE} {n : Nat} (hn : NN ≤ n)  {a1 : Int32}   : ∀ (n0 : Nat) (x2 : Int32) (x3 : Int32) (h : AH), AJ G n y_H_cheapestUnused (2) φI 4 [some (.ref 0), some (.int a1), some (.int x2), some (.int x3)] [] h (f_H_cheapestUnused_l4 a1 n0 x2 x3 h) := by
  intro n0
  induction n0 with
  | zero => intros; exact r_none
  | succ n0 ih =>
    intro x2 x3 h
    rw [f_H_cheapestUnused_l4]
    refine r_iload_n (pc := 4) (i := 3) d_H_cheapestUnused_4 rfl rfl ?_
    refine r_iload_n (pc := 5) (i := 1) d_H_cheapestUnused_5 rfl rfl ?_
    refine r_icmp_ge (pc := 6) (tgt := 49) d_H_cheapestUnused_6 (by rfl) ?_ ?_
    · refine r_iload_n (pc := 49) (i := 2) d_H_cheapestUnused_49 rfl rfl ?_
      refine r_iconst (pc := 50) (v := 0) d_H_cheapestUnused_50 (by rfl) ?_
      refine r_mmax (pc := 51) w_851 w_698 w_18 w_699 (Nat.le_of_ble_eq_true rfl) (Nat.le_of_ble_eq_true rfl) ⟨Nat.le_of_ble_eq_true rfl, Nat.le_of_ble_eq_true rfl⟩ d_H_cheapestUnused_51 ?_
      exact r_iret (pc := 54) rfl d_H_cheapestUnused_54
    · refine r_aload_n (pc := 9) (i := 0) d_H_cheapestUnused_9 rfl rfl ?_
      refine r_getf (pc := 10) (ci := 11) (k := 11) (C := "CricketHay") (T := F_11) (N := 13) (v := .ref 380) (fun s => Std.k s (lc hn rfl) kq_0) rfl (Nat.le_of_ble_eq_true rfl) rfl w_433 (fun s => vr rfl (Std.r s (lc hn rfl) rq_0_11)) d_H_cheapestUnused_10 ?_
      refine r_getf (pc := 13) (ci := 6) (k := 0) (C := "CricketHay$Lie") (T := F_6) (N := 2) (v := .ref 381) (fun s => Std.k s (lc hn rfl) kq_380) rfl (Nat.le_of_ble_eq_true rfl) rfl w_410 (fun s => vr rfl (Std.r s (lc hn rfl) rq_380_0)) d_H_cheapestUnused_13 ?_
      refine r_iload_n (pc := 16) (i := 3) d_H_cheapestUnused_16 rfl rfl ?_
      refine r_gx (fun zq1 => ?_)
      refine r_iald (pc := 17) (n := 12) (i0 := (ix x3)) (fun s => Std.k s (lc hn rfl) kq_381) zq1 rfl d_H_cheapestUnused_17 ?_
      refine r_if_ne (pc := 18) (tgt := 43) d_H_cheapestUnused_18 (by rfl) ?_ ?_
      · refine r_ltE (fun xq2 exq2 => ?_)
        refine r_iinc (pc := 43) (v := xq2) (lv1 := [some (.ref 0), some (.int a1), some (.int x2), some (.int xq2)]) d_H_cheapestUnused_43 rfl exq2.symm (Nat.le_of_ble_eq_true rfl) rfl ?_
        refine r_goto (pc := 46) (tgt := 4) d_H_cheapestUnused_46 (by rfl) ?_
        exact r_wk (ih x2 xq2 h) ⟨rfl, ⟨rfl, ⟨rfl, ⟨rfl, trivial⟩⟩⟩⟩
      · refine r_iload_n (pc := 21) (i := 2) d_H_cheapestUnused_21 rfl rfl ?_
        refine r_iconst (pc := 22) (v := -1) d_H_cheapestUnused_22 (by rfl) ?_
        refine r_icmp_eq (pc := 23) (tgt := 41) d_H_cheapestUnused_23 (by rfl) ?_ ?_
        · refine r_iload_n (pc := 41) (i := 3) d_H_cheapestUnused_41 rfl rfl ?_
          refine r_istore_n (pc := 42) (i := 2) (lv1 := [some (.ref 0), some (.int a1), some (.int x3), some (.int x3)]) d_H_cheapestUnused_42 rfl (Nat.le_of_ble_eq_true rfl) rfl ?_
          refine r_ltE (fun xq3 exq3 => ?_)
          refine r_iinc (pc := 43) (v := xq3) (lv1 := [some (.ref 0), some (.int a1), some (.int x3), some (.int xq3)]) d_H_cheapestUnused_43 rfl exq3.symm (Nat.le_of_ble_eq_true rfl) rfl ?_
          refine r_goto (pc := 46) (tgt := 4) d_H_cheapestUnused_46 (by rfl) ?_
          exact r_wk (ih x3 xq3 h) ⟨rfl, ⟨rfl, ⟨rfl, ⟨rfl, trivial⟩⟩⟩⟩
        · refine r_aload_n (pc := 26) (i := 0) d_H_cheapestUnused_26 rfl rfl ?_
          refine r_getf (pc := 27) (ci := 11) (k := 12) (C := "CricketHay") (T := F_11) (N := 13) (v := .ref 382) (fun s => Std.k s (lc hn rfl) kq_0) rfl (Nat.le_of_ble_eq_true rfl) rfl w_434 (fun s => vr rfl (Std.r s (lc hn rfl) rq_0_12)) d_H_cheapestUnused_27 ?_
          refine r_iload_n (pc := 30) (i := 3) d_H_cheapestUnused_30 rfl rfl ?_
          refine r_gx (fun zq4 => ?_)
          refine r_iald (pc := 31) (n := 25) (i0 := (ix x3)) (fun s => Std.k s (lc hn rfl) kq_382) zq4 rfl d_H_cheapestUnused_31 ?_
          refine r_aload_n (pc := 32) (i := 0) d_H_cheapestUnused_32 rfl rfl ?_
          refine r_getf (pc := 33) (ci := 11) (k := 12) (C := "CricketHay") (T := F_11) (N := 13) (v := .ref 382) (fun s => Std.k s (lc hn rfl) kq_0) rfl (Nat.le_of_ble_eq_true rfl) rfl w_434 (fun s => vr rfl (Std.r s (lc hn rfl) rq_0_12)) d_H_cheapestUnused_33 ?_
          refine r_iload_n (pc := 36) (i := 2) d_H_cheapestUnused_36 rfl rfl ?_
          refine r_gx (fun zq5 => ?_)
          refine r_iald (pc := 37) (n := 25) (i0 := (ix x2)) (fun s => Std.k s (lc hn rfl) kq_382) zq5 rfl d_H_cheapestUnused_37 ?_
          refine r_icmp_ge (pc := 38) (tgt := 43) d_H_cheapestUnused_38 (by rfl) ?_ ?_
          · refine r_ltE (fun xq6 exq6 => ?_)
            refine r_iinc (pc := 43) (v := xq6) (lv1 := [some (.ref 0), some (.int a1), some (.int x2), some (.int xq6)]) d_H_cheapestUnused_43 rfl exq6.symm (Nat.le_of_ble_eq_true rfl) rfl ?_
            refine r_goto (pc := 46) (tgt := 4) d_H_cheapestUnused_46 (by rfl) ?_
            exact r_wk (ih x2 xq6 h) ⟨rfl, ⟨rfl, ⟨rfl, ⟨rfl, trivial⟩⟩⟩⟩
          · refine r_iload_n (pc := 41) (i := 3) d_H_cheapestUnused_41 rfl rfl ?_
            refine r_istore_n (pc := 42) (i := 2) (lv1 := [some (.ref 0), some (.int a1), some (.int x3), some (.int x3)]) d_H_cheapestUnused_42 rfl (Nat.le_of_ble_eq_true rfl) rfl ?_
            refine r_ltE (fun xq7 exq7 => ?_)
            refine r_iinc (pc := 43) (v := xq7) (lv1 := [some (.ref 0), some (.int a1), some (.int x3), some (.int xq7)]) d_H_cheapestUnused_43 rfl exq7.symm (Nat.le_of_ble_eq_true rfl) rfl ?_
            refine r_goto (pc := 46) (tgt := 4) d_H_cheapestUnused_46 (by rfl) ?_
            exact r_wk (ih x3 xq7 h) ⟨rfl, ⟨rfl, ⟨rfl, ⟨rfl, trivial⟩⟩⟩⟩
def f_H_cheapestUnused  (a1 : Int32) (h : AH) : Option (Int32 × AH) :=
  f_H_cheapestUnused_l4 a1 FU (-1 : Int32) (0 : Int32) h
set_option maxHeartbeats 2000000 in
theorem ok_H_cheapestUnused {G : AE} {n : Nat} (hn : NN ≤ n)  (a1 : Int32) (h : AH) : OK G n y_H_cheapestUnused (2) φI [.ref 0, .int a1] h (f_H_cheapestUnused a1 h) := by
  refine ok_of (y := y_H_cheapestUnused) (lv0 := [some (.ref 0), some (.int a1), none, none]) (by decide +kernel) (Nat.le_of_ble_eq_true rfl) ⟨rfl, ⟨rfl, trivial⟩⟩ ?_
  rw [f_H_cheapestUnused]
  refine r_iconst (pc := 0) (v := -1) d_H_cheapestUnused_0 (by rfl) ?_
  refine r_istore_n (pc := 1) (i := 2) (lv1 := [some (.ref 0), some (.int a1), some (.int (-1 : Int32)), none]) d_H_cheapestUnused_1 rfl (Nat.le_of_ble_eq_true rfl) rfl ?_
  refine r_iconst (pc := 2) (v := 0) d_H_cheapestUnused_2 (by rfl) ?_
  refine r_istore_n (pc := 3) (i := 3) (lv1 := [some (.ref 0), some (.int a1), some (.int (-1 : Int32)), some (.int (0 : Int32))]) d_H_cheapestUnused_3 rfl (Nat.le_of_ble_eq_true rfl) rfl ?_
  exact r_wk (o_H_cheapestUnused_l4 hn FU (-1 : Int32) (0 : Int32) h) ⟨rfl, ⟨rfl, ⟨rfl, ⟨rfl, trivial⟩⟩⟩⟩

def f_H_plan_l94  (a1 : Int32) (a2 : Int32) (a3 : Int32) (a4 : Int32)  : Nat → Int32 → Int32 → Int32 → AH → Option (Int32 × AH)
  | 0, _, _, _, _ => none
  | n + 1, x5, x6, x7, h =>
    if a4 ≤ x7 then
      some (x5, h)
    else
      if x6 ≤ 0 then
        some (x5, h)
      else
        bI (f_H_cheapestUnused a4 h) fun rq1 hq2 =>
        gd hq2 0 1 7 fun cq3 =>
        lt (mn x6 (hI hq2 cq3 14)) fun xq4 =>
        gx rq1 12 <|
        lt (sI hq2 381 (ix rq1) xq4) fun hq6 =>
        gx rq1 25 <|
        lt (x5 + (xq4 * (hI hq6 382 (ix rq1)))) fun xq8 =>
        lt (x6 - xq4) fun xq9 =>
        lt (x7 + (1 : Int32)) fun xq10 =>
        f_H_plan_l94 a1 a2 a3 a4 n xq8 xq9 xq10 hq6
set_option maxHeartbeats 2000000 in
theorem o_H_plan_l94 {G : AE} {n : Nat} (hn : NN ≤ n)  {a1 : Int32} {a2 : Int32} {a3 : Int32} {a4 : Int32}   : ∀ (n0 : Nat) (x5 : Int32) (x6 : Int32) (x7 : Int32) (h : AH), AJ G n y_H_plan (7) φI 94 [some (.ref 0), none, none, none, some (.int a4), some (.int x5), some (.int x6), some (.int x7), none, none] [] h (f_H_plan_l94 a1 a2 a3 a4 n0 x5 x6 x7 h) := by
  intro n0
  induction n0 with
  | zero => intros; exact r_none
  | succ n0 ih =>
    intro x5 x6 x7 h
    rw [f_H_plan_l94]
    refine r_iload (pc := 94) d_H_plan_94 rfl ?_
    refine r_iload (pc := 96) d_H_plan_96 rfl ?_
    refine r_icmp_ge (pc := 98) (tgt := 168) d_H_plan_98 (by rfl) ?_ ?_
    · refine r_iload (pc := 168) d_H_plan_168 rfl ?_
      exact r_iret (pc := 170) rfl d_H_plan_170
    · refine r_iload (pc := 101) d_H_plan_101 rfl ?_
      refine r_if_le (pc := 103) (tgt := 168) d_H_plan_103 (by rfl) ?_ ?_
      · refine r_iload (pc := 168) d_H_plan_168 rfl ?_
        exact r_iret (pc := 170) rfl d_H_plan_170
      · refine r_aload_n (pc := 106) (i := 0) d_H_plan_106 rfl rfl ?_
        refine r_iload (pc := 107) d_H_plan_107 rfl ?_
        refine r_cVi (pc := 109) (T := F_11) (N := 13) (st := []) (ok_H_cheapestUnused hn a4 h) (fun s => Std.k s (lc hn rfl) kq_0) rfl w_850 w_1 w_847 w_849 ws_30 hy_H_cheapestUnused ⟨Nat.le_of_ble_eq_true rfl, Nat.le_of_ble_eq_true rfl⟩ ⟨Nat.le_of_ble_eq_true rfl, Nat.le_of_ble_eq_true rfl⟩ rfl (Nat.le_of_ble_eq_true rfl) d_H_plan_109 (fun rq1 hq2 => ?_)
        refine r_istore (pc := 112) (lv1 := [some (.ref 0), none, none, none, some (.int a4), some (.int x5), some (.int x6), some (.int x7), some (.int rq1), none]) d_H_plan_112 (Nat.le_of_ble_eq_true rfl) rfl ?_
        refine r_iload (pc := 114) d_H_plan_114 rfl ?_
        refine r_aload_n (pc := 116) (i := 0) d_H_plan_116 rfl rfl ?_
        refine r_gd (fun cq3 rcq3 kcq3 => ?_)
        refine r_getf (pc := 117) (ci := 11) (k := 1) (C := "CricketHay") (T := F_11) (N := 13) (v := .ref cq3) (fun s => Std.k s (lc hn rfl) kq_0) rfl (Nat.le_of_ble_eq_true rfl) rfl w_423 (fun _ => vr rfl rcq3) d_H_plan_117 ?_
        refine r_getf (pc := 120) (ci := 7) (k := 14) (C := "CricketHay$Market") (T := F_7) (N := 16) (v := .int (hI hq2 cq3 14)) (fun s => Std.k s (ltn (cm hn) (kl_M kcq3)) kcq3) rfl (Nat.le_of_ble_eq_true rfl) rfl w_166 (fun _ => rfl) d_H_plan_120 ?_
        refine r_mmin (pc := 123) w_852 w_695 w_18 w_696 (Nat.le_of_ble_eq_true rfl) (Nat.le_of_ble_eq_true rfl) ⟨Nat.le_of_ble_eq_true rfl, Nat.le_of_ble_eq_true rfl⟩ d_H_plan_123 ?_
        refine r_ltI (fun xq4 => ?_)
        refine r_istore (pc := 126) (lv1 := [some (.ref 0), none, none, none, some (.int a4), some (.int x5), some (.int x6), some (.int x7), some (.int rq1), some (.int xq4)]) d_H_plan_126 (Nat.le_of_ble_eq_true rfl) rfl ?_
        refine r_aload_n (pc := 128) (i := 0) d_H_plan_128 rfl rfl ?_
        refine r_getf (pc := 129) (ci := 11) (k := 11) (C := "CricketHay") (T := F_11) (N := 13) (v := .ref 380) (fun s => Std.k s (lc hn rfl) kq_0) rfl (Nat.le_of_ble_eq_true rfl) rfl w_433 (fun s => vr rfl (Std.r s (lc hn rfl) rq_0_11)) d_H_plan_129 ?_
        refine r_getf (pc := 132) (ci := 6) (k := 0) (C := "CricketHay$Lie") (T := F_6) (N := 2) (v := .ref 381) (fun s => Std.k s (lc hn rfl) kq_380) rfl (Nat.le_of_ble_eq_true rfl) rfl w_410 (fun s => vr rfl (Std.r s (lc hn rfl) rq_380_0)) d_H_plan_132 ?_
        refine r_iload (pc := 135) d_H_plan_135 rfl ?_
        refine r_iload (pc := 137) d_H_plan_137 rfl ?_
        refine r_gx (fun zq5 => ?_)
        refine r_iast (pc := 139) (n := 12) (i0 := (ix rq1)) (fun s => Std.k s (lc hn rfl) kq_381) zq5 rfl (fun s => Std.sI s _ _ _) d_H_plan_139 ?_
        refine r_ltH (fun hq6 => ?_)
        refine r_iload (pc := 140) d_H_plan_140 rfl ?_
        refine r_iload (pc := 142) d_H_plan_142 rfl ?_
        refine r_aload_n (pc := 144) (i := 0) d_H_plan_144 rfl rfl ?_
        refine r_getf (pc := 145) (ci := 11) (k := 12) (C := "CricketHay") (T := F_11) (N := 13) (v := .ref 382) (fun s => Std.k s (lc hn rfl) kq_0) rfl (Nat.le_of_ble_eq_true rfl) rfl w_434 (fun s => vr rfl (Std.r s (lc hn rfl) rq_0_12)) d_H_plan_145 ?_
        refine r_iload (pc := 148) d_H_plan_148 rfl ?_
        refine r_gx (fun zq7 => ?_)
        refine r_iald (pc := 150) (n := 25) (i0 := (ix rq1)) (fun s => Std.k s (lc hn rfl) kq_382) zq7 rfl d_H_plan_150 ?_
        refine r_imul (pc := 151) d_H_plan_151 ?_
        refine r_iadd (pc := 152) d_H_plan_152 ?_
        refine r_ltI (fun xq8 => ?_)
        refine r_istore (pc := 153) (lv1 := [some (.ref 0), none, none, none, some (.int a4), some (.int xq8), some (.int x6), some (.int x7), some (.int rq1), some (.int xq4)]) d_H_plan_153 (Nat.le_of_ble_eq_true rfl) rfl ?_
        refine r_iload (pc := 155) d_H_plan_155 rfl ?_
        refine r_iload (pc := 157) d_H_plan_157 rfl ?_
        refine r_isub (pc := 159) d_H_plan_159 ?_
        refine r_ltI (fun xq9 => ?_)
        refine r_istore (pc := 160) (lv1 := [some (.ref 0), none, none, none, some (.int a4), some (.int xq8), some (.int xq9), some (.int x7), some (.int rq1), some (.int xq4)]) d_H_plan_160 (Nat.le_of_ble_eq_true rfl) rfl ?_
        refine r_ltE (fun xq10 exq10 => ?_)
        refine r_iinc (pc := 162) (v := xq10) (lv1 := [some (.ref 0), none, none, none, some (.int a4), some (.int xq8), some (.int xq9), some (.int xq10), some (.int rq1), some (.int xq4)]) d_H_plan_162 rfl exq10.symm (Nat.le_of_ble_eq_true rfl) rfl ?_
        refine r_goto (pc := 165) (tgt := 94) d_H_plan_165 (by rfl) ?_
        exact r_wk (ih xq8 xq9 xq10 hq6) ⟨rfl, ⟨rfl, ⟨rfl, ⟨rfl, ⟨rfl, trivial⟩⟩⟩⟩⟩
def f_H_plan_l64  (a1 : Int32) (a2 : Int32) (a3 : Int32) (a4 : Int32)  : Nat → Int32 → AH → Option (Int32 × AH)
  | 0, _, _ => none
  | n + 1, x5, h =>
    if a4 ≤ x5 then
      f_H_plan_l94 a1 a2 a3 a4 FU (0 : Int32) a3 (0 : Int32) h
    else
      bV (f_Lie_add (0 : Int32) h) fun hq1 =>
      lt (x5 + (1 : Int32)) fun xq2 =>
      f_H_plan_l64 a1 a2 a3 a4 n xq2 hq1
set_option maxHeartbeats 2000000 in
theorem o_H_plan_l64 {G : AE} {n : Nat} (hn : NN ≤ n)  {a1 : Int32} {a2 : Int32} {a3 : Int32} {a4 : Int32}   : ∀ (n0 : Nat) (x5 : Int32) (h : AH), AJ G n y_H_plan (7) φI 64 [some (.ref 0), none, none, some (.int a3), some (.int a4), some (.int x5), none, none, none, none] [] h (f_H_plan_l64 a1 a2 a3 a4 n0 x5 h) := by
  intro n0
  induction n0 with
  | zero => intros; exact r_none
  | succ n0 ih =>
    intro x5 h
    rw [f_H_plan_l64]
    refine r_iload (pc := 64) d_H_plan_64 rfl ?_
    refine r_iload (pc := 66) d_H_plan_66 rfl ?_
    refine r_icmp_ge (pc := 68) (tgt := 85) d_H_plan_68 (by rfl) ?_ ?_
    · refine r_iconst (pc := 85) (v := 0) d_H_plan_85 (by rfl) ?_
      refine r_istore (pc := 86) (lv1 := [some (.ref 0), none, none, some (.int a3), some (.int a4), some (.int (0 : Int32)), none, none, none, none]) d_H_plan_86 (Nat.le_of_ble_eq_true rfl) rfl ?_
      refine r_iload_n (pc := 88) (i := 3) d_H_plan_88 rfl rfl ?_
      refine r_istore (pc := 89) (lv1 := [some (.ref 0), none, none, some (.int a3), some (.int a4), some (.int (0 : Int32)), some (.int a3), none, none, none]) d_H_plan_89 (Nat.le_of_ble_eq_true rfl) rfl ?_
      refine r_iconst (pc := 91) (v := 0) d_H_plan_91 (by rfl) ?_
      refine r_istore (pc := 92) (lv1 := [some (.ref 0), none, none, some (.int a3), some (.int a4), some (.int (0 : Int32)), some (.int a3), some (.int (0 : Int32)), none, none]) d_H_plan_92 (Nat.le_of_ble_eq_true rfl) rfl ?_
      exact r_wk (o_H_plan_l94 hn FU (0 : Int32) a3 (0 : Int32) h) ⟨rfl, ⟨rfl, ⟨rfl, ⟨rfl, ⟨rfl, trivial⟩⟩⟩⟩⟩
    · refine r_aload_n (pc := 71) (i := 0) d_H_plan_71 rfl rfl ?_
      refine r_getf (pc := 72) (ci := 11) (k := 11) (C := "CricketHay") (T := F_11) (N := 13) (v := .ref 380) (fun s => Std.k s (lc hn rfl) kq_0) rfl (Nat.le_of_ble_eq_true rfl) rfl w_433 (fun s => vr rfl (Std.r s (lc hn rfl) rq_0_11)) d_H_plan_72 ?_
      refine r_iconst (pc := 75) (v := 0) d_H_plan_75 (by rfl) ?_
      refine r_cVv (pc := 76) (T := F_6) (N := 2) (st := []) (ok_Lie_add hn (0 : Int32) h) (fun s => Std.k s (lc hn rfl) kq_380) rfl w_846 w_12 w_843 w_844 w_845 hy_Lie_add ⟨Nat.le_of_ble_eq_true rfl, Nat.le_of_ble_eq_true rfl⟩ ⟨Nat.le_of_ble_eq_true rfl, Nat.le_of_ble_eq_true rfl⟩ rfl (Nat.le_of_ble_eq_true rfl) d_H_plan_76 (fun hq1 => ?_)
      refine r_ltE (fun xq2 exq2 => ?_)
      refine r_iinc (pc := 79) (v := xq2) (lv1 := [some (.ref 0), none, none, some (.int a3), some (.int a4), some (.int xq2), none, none, none, none]) d_H_plan_79 rfl exq2.symm (Nat.le_of_ble_eq_true rfl) rfl ?_
      refine r_goto (pc := 82) (tgt := 64) d_H_plan_82 (by rfl) ?_
      exact r_wk (ih xq2 hq1) ⟨rfl, ⟨rfl, ⟨rfl, ⟨rfl, trivial⟩⟩⟩⟩
def f_H_plan  (a1 : Int32) (a2 : Int32) (a3 : Int32) (a4 : Int32) (h : AH) : Option (Int32 × AH) :=
  bV (f_Lie_wipe h) fun hq1 =>
  bI (f_H_areTwo a1 a2 hq1) fun rq2 hq3 =>
  if rq2 = 0 then
    some ((-1 : Int32), hq3)
  else
    bI (f_H_within a3 (1 : Int32) (20 : Int32) hq3) fun rq4 hq5 =>
    if rq4 = 0 then
      some ((-1 : Int32), hq5)
    else
      bI (f_H_within a4 (1 : Int32) (12 : Int32) hq5) fun rq6 hq7 =>
      if rq6 = 0 then
        some ((-1 : Int32), hq7)
      else
        gd hq7 0 1 7 fun cq8 =>
        if a3 ≤ ((hI hq7 cq8 14) * a4) then
          bV (f_H_hearPrices a1 a2 a4 hq7) fun hq9 =>
          f_H_plan_l64 a1 a2 a3 a4 FU (0 : Int32) hq9
        else
          some ((-1 : Int32), hq7)
set_option maxHeartbeats 2000000 in
theorem ok_H_plan {G : AE} {n : Nat} (hn : NN ≤ n)  (a1 : Int32) (a2 : Int32) (a3 : Int32) (a4 : Int32) (h : AH) : OK G n y_H_plan (7) φI [.ref 0, .int a1, .int a2, .int a3, .int a4] h (f_H_plan a1 a2 a3 a4 h) := by
  refine ok_of (y := y_H_plan) (lv0 := [some (.ref 0), some (.int a1), some (.int a2), some (.int a3), some (.int a4), none, none, none, none, none]) (by decide +kernel) (Nat.le_of_ble_eq_true rfl) ⟨rfl, ⟨rfl, ⟨rfl, ⟨rfl, ⟨rfl, trivial⟩⟩⟩⟩⟩ ?_
  rw [f_H_plan]
  refine r_aload_n (pc := 0) (i := 0) d_H_plan_0 rfl rfl ?_
  refine r_getf (pc := 1) (ci := 11) (k := 11) (C := "CricketHay") (T := F_11) (N := 13) (v := .ref 380) (fun s => Std.k s (lc hn rfl) kq_0) rfl (Nat.le_of_ble_eq_true rfl) rfl w_433 (fun s => vr rfl (Std.r s (lc hn rfl) rq_0_11)) d_H_plan_1 ?_
  refine r_cVv (pc := 4) (T := F_6) (N := 2) (st := []) (ok_Lie_wipe hn h) (fun s => Std.k s (lc hn rfl) kq_380) rfl w_651 w_12 w_648 w_649 w_650 hy_Lie_wipe ⟨Nat.le_of_ble_eq_true rfl, Nat.le_of_ble_eq_true rfl⟩ ⟨Nat.le_of_ble_eq_true rfl, Nat.le_of_ble_eq_true rfl⟩ rfl (Nat.le_of_ble_eq_true rfl) d_H_plan_4 (fun hq1 => ?_)
  refine r_aload_n (pc := 7) (i := 0) d_H_plan_7 rfl rfl ?_
  refine r_iload_n (pc := 8) (i := 1) d_H_plan_8 rfl rfl ?_
  refine r_iload_n (pc := 9) (i := 2) d_H_plan_9 rfl rfl ?_
  refine r_cVi (pc := 10) (T := F_11) (N := 13) (st := []) (ok_H_areTwo hn a1 a2 hq1) (fun s => Std.k s (lc hn rfl) kq_0) rfl w_722 w_1 w_719 w_721 ws_23 hy_H_areTwo ⟨Nat.le_of_ble_eq_true rfl, Nat.le_of_ble_eq_true rfl⟩ ⟨Nat.le_of_ble_eq_true rfl, Nat.le_of_ble_eq_true rfl⟩ rfl (Nat.le_of_ble_eq_true rfl) d_H_plan_10 (fun rq2 hq3 => ?_)
  refine r_if_eq (pc := 13) (tgt := 51) d_H_plan_13 (by rfl) ?_ ?_
  · refine r_iconst (pc := 51) (v := -1) d_H_plan_51 (by rfl) ?_
    exact r_iret (pc := 52) rfl d_H_plan_52
  · refine r_iload_n (pc := 16) (i := 3) d_H_plan_16 rfl rfl ?_
    refine r_iconst (pc := 17) (v := 1) d_H_plan_17 (by rfl) ?_
    refine r_bipush (pc := 18) (v := 20) d_H_plan_18 (by rfl) ?_
    refine r_cSi (pc := 20) (st := []) (ok_H_within hn a3 (1 : Int32) (20 : Int32) hq3) w_817 w_1 w_815 w_816 hy_H_within ⟨Nat.le_of_ble_eq_true rfl, Nat.le_of_ble_eq_true rfl⟩ ⟨Nat.le_of_ble_eq_true rfl, Nat.le_of_ble_eq_true rfl⟩ rfl (Nat.le_of_ble_eq_true rfl) d_H_plan_20 (fun rq4 hq5 => ?_)
    refine r_if_eq (pc := 23) (tgt := 51) d_H_plan_23 (by rfl) ?_ ?_
    · refine r_iconst (pc := 51) (v := -1) d_H_plan_51 (by rfl) ?_
      exact r_iret (pc := 52) rfl d_H_plan_52
    · refine r_iload (pc := 26) d_H_plan_26 rfl ?_
      refine r_iconst (pc := 28) (v := 1) d_H_plan_28 (by rfl) ?_
      refine r_bipush (pc := 29) (v := 12) d_H_plan_29 (by rfl) ?_
      refine r_cSi (pc := 31) (st := []) (ok_H_within hn a4 (1 : Int32) (12 : Int32) hq5) w_817 w_1 w_815 w_816 hy_H_within ⟨Nat.le_of_ble_eq_true rfl, Nat.le_of_ble_eq_true rfl⟩ ⟨Nat.le_of_ble_eq_true rfl, Nat.le_of_ble_eq_true rfl⟩ rfl (Nat.le_of_ble_eq_true rfl) d_H_plan_31 (fun rq6 hq7 => ?_)
      refine r_if_eq (pc := 34) (tgt := 51) d_H_plan_34 (by rfl) ?_ ?_
      · refine r_iconst (pc := 51) (v := -1) d_H_plan_51 (by rfl) ?_
        exact r_iret (pc := 52) rfl d_H_plan_52
      · refine r_iload_n (pc := 37) (i := 3) d_H_plan_37 rfl rfl ?_
        refine r_aload_n (pc := 38) (i := 0) d_H_plan_38 rfl rfl ?_
        refine r_gd (fun cq8 rcq8 kcq8 => ?_)
        refine r_getf (pc := 39) (ci := 11) (k := 1) (C := "CricketHay") (T := F_11) (N := 13) (v := .ref cq8) (fun s => Std.k s (lc hn rfl) kq_0) rfl (Nat.le_of_ble_eq_true rfl) rfl w_423 (fun _ => vr rfl rcq8) d_H_plan_39 ?_
        refine r_getf (pc := 42) (ci := 7) (k := 14) (C := "CricketHay$Market") (T := F_7) (N := 16) (v := .int (hI hq7 cq8 14)) (fun s => Std.k s (ltn (cm hn) (kl_M kcq8)) kcq8) rfl (Nat.le_of_ble_eq_true rfl) rfl w_166 (fun _ => rfl) d_H_plan_42 ?_
        refine r_iload (pc := 45) d_H_plan_45 rfl ?_
        refine r_imul (pc := 47) d_H_plan_47 ?_
        refine r_icmp_le (pc := 48) (tgt := 53) d_H_plan_48 (by rfl) ?_ ?_
        · refine r_aload_n (pc := 53) (i := 0) d_H_plan_53 rfl rfl ?_
          refine r_iload_n (pc := 54) (i := 1) d_H_plan_54 rfl rfl ?_
          refine r_iload_n (pc := 55) (i := 2) d_H_plan_55 rfl rfl ?_
          refine r_iload (pc := 56) d_H_plan_56 rfl ?_
          refine r_cVv (pc := 58) (T := F_11) (N := 13) (st := []) (ok_H_hearPrices hn a1 a2 a4 hq7) (fun s => Std.k s (lc hn rfl) kq_0) rfl w_842 w_1 w_839 w_841 ws_29 hy_H_hearPrices ⟨Nat.le_of_ble_eq_true rfl, Nat.le_of_ble_eq_true rfl⟩ ⟨Nat.le_of_ble_eq_true rfl, Nat.le_of_ble_eq_true rfl⟩ rfl (Nat.le_of_ble_eq_true rfl) d_H_plan_58 (fun hq9 => ?_)
          refine r_iconst (pc := 61) (v := 0) d_H_plan_61 (by rfl) ?_
          refine r_istore (pc := 62) (lv1 := [some (.ref 0), some (.int a1), some (.int a2), some (.int a3), some (.int a4), some (.int (0 : Int32)), none, none, none, none]) d_H_plan_62 (Nat.le_of_ble_eq_true rfl) rfl ?_
          exact r_wk (o_H_plan_l64 hn FU (0 : Int32) hq9) ⟨rfl, ⟨rfl, ⟨rfl, ⟨rfl, trivial⟩⟩⟩⟩
        · refine r_iconst (pc := 51) (v := -1) d_H_plan_51 (by rfl) ?_
          exact r_iret (pc := 52) rfl d_H_plan_52

def f_H_canDeal  (a1 : Int32) (a2 : Int32) (a3 : Int32) (h : AH) : Option (Int32 × AH) :=
  if a3 = a1 then
    some ((0 : Int32), h)
  else
    if a3 = a2 then
      some ((0 : Int32), h)
    else
      bI (f_H_canBuyOne a1 a2 h) fun rq1 hq2 =>
      if rq1 = 0 then
        some ((0 : Int32), hq2)
      else
        bI (f_Choir_half a1 a3 hq2) fun rq3 hq4 =>
        gx a3 6 <|
        if (hI hq4 38 (ix a3)) < rq3 then
          some ((0 : Int32), hq4)
        else
          some ((1 : Int32), hq4)
set_option maxHeartbeats 2000000 in
theorem ok_H_canDeal {G : AE} {n : Nat} (hn : NN ≤ n)  (a1 : Int32) (a2 : Int32) (a3 : Int32) (h : AH) : OK G n y_H_canDeal (3) φI [.ref 0, .int a1, .int a2, .int a3] h (f_H_canDeal a1 a2 a3 h) := by
  refine ok_of (y := y_H_canDeal) (lv0 := [some (.ref 0), some (.int a1), some (.int a2), some (.int a3)]) (by decide +kernel) (Nat.le_of_ble_eq_true rfl) ⟨rfl, ⟨rfl, ⟨rfl, ⟨rfl, trivial⟩⟩⟩⟩ ?_
  rw [f_H_canDeal]
  refine r_iload_n (pc := 0) (i := 3) d_H_canDeal_0 rfl rfl ?_
  refine r_iload_n (pc := 1) (i := 1) d_H_canDeal_1 rfl rfl ?_
  refine r_icmp_eq (pc := 2) (tgt := 44) d_H_canDeal_2 (by rfl) ?_ ?_
  · refine r_iconst (pc := 44) (v := 0) d_H_canDeal_44 (by rfl) ?_
    exact r_zret (pc := 45) rfl rfl d_H_canDeal_45
  · refine r_iload_n (pc := 5) (i := 3) d_H_canDeal_5 rfl rfl ?_
    refine r_iload_n (pc := 6) (i := 2) d_H_canDeal_6 rfl rfl ?_
    refine r_icmp_eq (pc := 7) (tgt := 44) d_H_canDeal_7 (by rfl) ?_ ?_
    · refine r_iconst (pc := 44) (v := 0) d_H_canDeal_44 (by rfl) ?_
      exact r_zret (pc := 45) rfl rfl d_H_canDeal_45
    · refine r_aload_n (pc := 10) (i := 0) d_H_canDeal_10 rfl rfl ?_
      refine r_iload_n (pc := 11) (i := 1) d_H_canDeal_11 rfl rfl ?_
      refine r_iload_n (pc := 12) (i := 2) d_H_canDeal_12 rfl rfl ?_
      refine r_cVi (pc := 13) (T := F_11) (N := 13) (st := []) (ok_H_canBuyOne hn a1 a2 h) (fun s => Std.k s (lc hn rfl) kq_0) rfl w_734 w_1 w_731 w_733 ws_24 hy_H_canBuyOne ⟨Nat.le_of_ble_eq_true rfl, Nat.le_of_ble_eq_true rfl⟩ ⟨Nat.le_of_ble_eq_true rfl, Nat.le_of_ble_eq_true rfl⟩ rfl (Nat.le_of_ble_eq_true rfl) d_H_canDeal_13 (fun rq1 hq2 => ?_)
      refine r_if_eq (pc := 16) (tgt := 44) d_H_canDeal_16 (by rfl) ?_ ?_
      · refine r_iconst (pc := 44) (v := 0) d_H_canDeal_44 (by rfl) ?_
        exact r_zret (pc := 45) rfl rfl d_H_canDeal_45
      · refine r_aload_n (pc := 19) (i := 0) d_H_canDeal_19 rfl rfl ?_
        refine r_getf (pc := 20) (ci := 11) (k := 5) (C := "CricketHay") (T := F_11) (N := 13) (v := .ref 51) (fun s => Std.k s (lc hn rfl) kq_0) rfl (Nat.le_of_ble_eq_true rfl) rfl w_427 (fun s => vr rfl (Std.r s (lc hn rfl) rq_0_5)) d_H_canDeal_20 ?_
        refine r_iload_n (pc := 23) (i := 1) d_H_canDeal_23 rfl rfl ?_
        refine r_iload_n (pc := 24) (i := 3) d_H_canDeal_24 rfl rfl ?_
        refine r_cVi (pc := 25) (T := F_2) (N := 2) (st := []) (ok_Choir_half hn a1 a3 hq2) (fun s => Std.k s (lc hn rfl) kq_51) rfl w_726 w_6 w_723 w_724 w_725 hy_Choir_half ⟨Nat.le_of_ble_eq_true rfl, Nat.le_of_ble_eq_true rfl⟩ ⟨Nat.le_of_ble_eq_true rfl, Nat.le_of_ble_eq_true rfl⟩ rfl (Nat.le_of_ble_eq_true rfl) d_H_canDeal_25 (fun rq3 hq4 => ?_)
        refine r_aload_n (pc := 28) (i := 0) d_H_canDeal_28 rfl rfl ?_
        refine r_getf (pc := 29) (ci := 11) (k := 3) (C := "CricketHay") (T := F_11) (N := 13) (v := .ref 37) (fun s => Std.k s (lc hn rfl) kq_0) rfl (Nat.le_of_ble_eq_true rfl) rfl w_425 (fun s => vr rfl (Std.r s (lc hn rfl) rq_0_3)) d_H_canDeal_29 ?_
        refine r_getf (pc := 32) (ci := 10) (k := 0) (C := "CricketHay$Yard") (T := F_10) (N := 10) (v := .ref 38) (fun s => Std.k s (lc hn rfl) kq_37) rfl (Nat.le_of_ble_eq_true rfl) rfl w_212 (fun s => vr rfl (Std.r s (lc hn rfl) rq_37_0)) d_H_canDeal_32 ?_
        refine r_iload_n (pc := 35) (i := 3) d_H_canDeal_35 rfl rfl ?_
        refine r_gx (fun zq5 => ?_)
        refine r_iald (pc := 36) (n := 6) (i0 := (ix a3)) (fun s => Std.k s (lc hn rfl) kq_38) zq5 rfl d_H_canDeal_36 ?_
        refine r_icmp_gt (pc := 37) (tgt := 44) d_H_canDeal_37 (by rfl) ?_ ?_
        · refine r_iconst (pc := 44) (v := 0) d_H_canDeal_44 (by rfl) ?_
          exact r_zret (pc := 45) rfl rfl d_H_canDeal_45
        · refine r_iconst (pc := 40) (v := 1) d_H_canDeal_40 (by rfl) ?_
          refine r_goto (pc := 41) (tgt := 45) d_H_canDeal_41 (by rfl) ?_
          exact r_zret (pc := 45) rfl rfl d_H_canDeal_45

def f_H_gain_l57  (a1 : Int32) (k43 : Int32 → Int32 → AH → Option (Int32 × AH)) : Nat → Int32 → Int32 → Int32 → AH → Option (Int32 × AH)
  | 0, _, _, _, _ => none
  | n + 1, x2, x3, x4, h =>
    gd h 0 1 7 fun cq1 =>
    if (hI h cq1 11) ≤ x4 then
      lt (x3 + (1 : Int32)) fun xq2 =>
      k43 x2 xq2 h
    else
      bI (f_Choir_half a1 x4 h) fun rq3 hq4 =>
      bI (f_Choir_half a1 x3 hq4) fun rq5 hq6 =>
      lt (rq3 - rq5) fun xq7 =>
      bI (f_H_canDeal a1 x3 x4 hq6) fun rq8 hq9 =>
      if rq8 = 0 then
        lt (x4 + (1 : Int32)) fun xq10 =>
        f_H_gain_l57 a1 k43 n x2 x3 xq10 hq9
      else
        if xq7 ≤ x2 then
          lt (x4 + (1 : Int32)) fun xq11 =>
          f_H_gain_l57 a1 k43 n x2 x3 xq11 hq9
        else
          bV (f_Lie_wipe hq9) fun hq12 =>
          bV (f_Lie_add x3 hq12) fun hq13 =>
          bV (f_Lie_add x4 hq13) fun hq14 =>
          lt (x4 + (1 : Int32)) fun xq15 =>
          f_H_gain_l57 a1 k43 n xq7 x3 xq15 hq14
set_option maxHeartbeats 2000000 in
theorem o_H_gain_l57 {G : AE} {n : Nat} (hn : NN ≤ n)  {a1 : Int32}  {k43 : Int32 → Int32 → AH → Option (Int32 × AH)} (hk43 : ∀ (x2 : Int32) (x3 : Int32) (h : AH), AJ G n y_H_gain (6) φI 43 [some (.ref 0), some (.int a1), some (.int x2), some (.int x3), none, none] [] h (k43 x2 x3 h)) : ∀ (n0 : Nat) (x2 : Int32) (x3 : Int32) (x4 : Int32) (h : AH), AJ G n y_H_gain (6) φI 57 [some (.ref 0), some (.int a1), some (.int x2), some (.int x3), some (.int x4), none] [] h (f_H_gain_l57 a1 k43 n0 x2 x3 x4 h) := by
  intro n0
  induction n0 with
  | zero => intros; exact r_none
  | succ n0 ih =>
    intro x2 x3 x4 h
    rw [f_H_gain_l57]
    refine r_iload (pc := 57) d_H_gain_57 rfl ?_
    refine r_aload_n (pc := 59) (i := 0) d_H_gain_59 rfl rfl ?_
    refine r_gd (fun cq1 rcq1 kcq1 => ?_)
    refine r_getf (pc := 60) (ci := 11) (k := 1) (C := "CricketHay") (T := F_11) (N := 13) (v := .ref cq1) (fun s => Std.k s (lc hn rfl) kq_0) rfl (Nat.le_of_ble_eq_true rfl) rfl w_423 (fun _ => vr rfl rcq1) d_H_gain_60 ?_
    refine r_getf (pc := 63) (ci := 7) (k := 11) (C := "CricketHay$Market") (T := F_7) (N := 16) (v := .int (hI h cq1 11)) (fun s => Std.k s (ltn (cm hn) (kl_M kcq1)) kcq1) rfl (Nat.le_of_ble_eq_true rfl) rfl w_155 (fun _ => rfl) d_H_gain_63 ?_
    refine r_icmp_ge (pc := 66) (tgt := 141) d_H_gain_66 (by rfl) ?_ ?_
    · refine r_ltE (fun xq2 exq2 => ?_)
      refine r_iinc (pc := 141) (v := xq2) (lv1 := [some (.ref 0), some (.int a1), some (.int x2), some (.int xq2), some (.int x4), none]) d_H_gain_141 rfl exq2.symm (Nat.le_of_ble_eq_true rfl) rfl ?_
      refine r_goto (pc := 144) (tgt := 43) d_H_gain_144 (by rfl) ?_
      exact r_wk (hk43 x2 xq2 h) ⟨rfl, ⟨rfl, ⟨rfl, ⟨rfl, trivial⟩⟩⟩⟩
    · refine r_aload_n (pc := 69) (i := 0) d_H_gain_69 rfl rfl ?_
      refine r_getf (pc := 70) (ci := 11) (k := 5) (C := "CricketHay") (T := F_11) (N := 13) (v := .ref 51) (fun s => Std.k s (lc hn rfl) kq_0) rfl (Nat.le_of_ble_eq_true rfl) rfl w_427 (fun s => vr rfl (Std.r s (lc hn rfl) rq_0_5)) d_H_gain_70 ?_
      refine r_iload_n (pc := 73) (i := 1) d_H_gain_73 rfl rfl ?_
      refine r_iload (pc := 74) d_H_gain_74 rfl ?_
      refine r_cVi (pc := 76) (T := F_2) (N := 2) (st := []) (ok_Choir_half hn a1 x4 h) (fun s => Std.k s (lc hn rfl) kq_51) rfl w_726 w_6 w_723 w_724 w_725 hy_Choir_half ⟨Nat.le_of_ble_eq_true rfl, Nat.le_of_ble_eq_true rfl⟩ ⟨Nat.le_of_ble_eq_true rfl, Nat.le_of_ble_eq_true rfl⟩ rfl (Nat.le_of_ble_eq_true rfl) d_H_gain_76 (fun rq3 hq4 => ?_)
      refine r_aload_n (pc := 79) (i := 0) d_H_gain_79 rfl rfl ?_
      refine r_getf (pc := 80) (ci := 11) (k := 5) (C := "CricketHay") (T := F_11) (N := 13) (v := .ref 51) (fun s => Std.k s (lc hn rfl) kq_0) rfl (Nat.le_of_ble_eq_true rfl) rfl w_427 (fun s => vr rfl (Std.r s (lc hn rfl) rq_0_5)) d_H_gain_80 ?_
      refine r_iload_n (pc := 83) (i := 1) d_H_gain_83 rfl rfl ?_
      refine r_iload_n (pc := 84) (i := 3) d_H_gain_84 rfl rfl ?_
      refine r_cVi (pc := 85) (T := F_2) (N := 2) (st := [.int rq3]) (ok_Choir_half hn a1 x3 hq4) (fun s => Std.k s (lc hn rfl) kq_51) rfl w_726 w_6 w_723 w_724 w_725 hy_Choir_half ⟨Nat.le_of_ble_eq_true rfl, Nat.le_of_ble_eq_true rfl⟩ ⟨Nat.le_of_ble_eq_true rfl, Nat.le_of_ble_eq_true rfl⟩ rfl (Nat.le_of_ble_eq_true rfl) d_H_gain_85 (fun rq5 hq6 => ?_)
      refine r_isub (pc := 88) d_H_gain_88 ?_
      refine r_ltI (fun xq7 => ?_)
      refine r_istore (pc := 89) (lv1 := [some (.ref 0), some (.int a1), some (.int x2), some (.int x3), some (.int x4), some (.int xq7)]) d_H_gain_89 (Nat.le_of_ble_eq_true rfl) rfl ?_
      refine r_aload_n (pc := 91) (i := 0) d_H_gain_91 rfl rfl ?_
      refine r_iload_n (pc := 92) (i := 1) d_H_gain_92 rfl rfl ?_
      refine r_iload_n (pc := 93) (i := 3) d_H_gain_93 rfl rfl ?_
      refine r_iload (pc := 94) d_H_gain_94 rfl ?_
      refine r_cVi (pc := 96) (T := F_11) (N := 13) (st := []) (ok_H_canDeal hn a1 x3 x4 hq6) (fun s => Std.k s (lc hn rfl) kq_0) rfl w_860 w_1 w_857 w_859 ws_31 hy_H_canDeal ⟨Nat.le_of_ble_eq_true rfl, Nat.le_of_ble_eq_true rfl⟩ ⟨Nat.le_of_ble_eq_true rfl, Nat.le_of_ble_eq_true rfl⟩ rfl (Nat.le_of_ble_eq_true rfl) d_H_gain_96 (fun rq8 hq9 => ?_)
      refine r_if_eq (pc := 99) (tgt := 135) d_H_gain_99 (by rfl) ?_ ?_
      · refine r_ltE (fun xq10 exq10 => ?_)
        refine r_iinc (pc := 135) (v := xq10) (lv1 := [some (.ref 0), some (.int a1), some (.int x2), some (.int x3), some (.int xq10), some (.int xq7)]) d_H_gain_135 rfl exq10.symm (Nat.le_of_ble_eq_true rfl) rfl ?_
        refine r_goto (pc := 138) (tgt := 57) d_H_gain_138 (by rfl) ?_
        exact r_wk (ih x2 x3 xq10 hq9) ⟨rfl, ⟨rfl, ⟨rfl, ⟨rfl, ⟨rfl, trivial⟩⟩⟩⟩⟩
      · refine r_iload (pc := 102) d_H_gain_102 rfl ?_
        refine r_iload_n (pc := 104) (i := 2) d_H_gain_104 rfl rfl ?_
        refine r_icmp_le (pc := 105) (tgt := 135) d_H_gain_105 (by rfl) ?_ ?_
        · refine r_ltE (fun xq11 exq11 => ?_)
          refine r_iinc (pc := 135) (v := xq11) (lv1 := [some (.ref 0), some (.int a1), some (.int x2), some (.int x3), some (.int xq11), some (.int xq7)]) d_H_gain_135 rfl exq11.symm (Nat.le_of_ble_eq_true rfl) rfl ?_
          refine r_goto (pc := 138) (tgt := 57) d_H_gain_138 (by rfl) ?_
          exact r_wk (ih x2 x3 xq11 hq9) ⟨rfl, ⟨rfl, ⟨rfl, ⟨rfl, ⟨rfl, trivial⟩⟩⟩⟩⟩
        · refine r_iload (pc := 108) d_H_gain_108 rfl ?_
          refine r_istore_n (pc := 110) (i := 2) (lv1 := [some (.ref 0), some (.int a1), some (.int xq7), some (.int x3), some (.int x4), some (.int xq7)]) d_H_gain_110 rfl (Nat.le_of_ble_eq_true rfl) rfl ?_
          refine r_aload_n (pc := 111) (i := 0) d_H_gain_111 rfl rfl ?_
          refine r_getf (pc := 112) (ci := 11) (k := 11) (C := "CricketHay") (T := F_11) (N := 13) (v := .ref 380) (fun s => Std.k s (lc hn rfl) kq_0) rfl (Nat.le_of_ble_eq_true rfl) rfl w_433 (fun s => vr rfl (Std.r s (lc hn rfl) rq_0_11)) d_H_gain_112 ?_
          refine r_cVv (pc := 115) (T := F_6) (N := 2) (st := []) (ok_Lie_wipe hn hq9) (fun s => Std.k s (lc hn rfl) kq_380) rfl w_651 w_12 w_648 w_649 w_650 hy_Lie_wipe ⟨Nat.le_of_ble_eq_true rfl, Nat.le_of_ble_eq_true rfl⟩ ⟨Nat.le_of_ble_eq_true rfl, Nat.le_of_ble_eq_true rfl⟩ rfl (Nat.le_of_ble_eq_true rfl) d_H_gain_115 (fun hq12 => ?_)
          refine r_aload_n (pc := 118) (i := 0) d_H_gain_118 rfl rfl ?_
          refine r_getf (pc := 119) (ci := 11) (k := 11) (C := "CricketHay") (T := F_11) (N := 13) (v := .ref 380) (fun s => Std.k s (lc hn rfl) kq_0) rfl (Nat.le_of_ble_eq_true rfl) rfl w_433 (fun s => vr rfl (Std.r s (lc hn rfl) rq_0_11)) d_H_gain_119 ?_
          refine r_iload_n (pc := 122) (i := 3) d_H_gain_122 rfl rfl ?_
          refine r_cVv (pc := 123) (T := F_6) (N := 2) (st := []) (ok_Lie_add hn x3 hq12) (fun s => Std.k s (lc hn rfl) kq_380) rfl w_846 w_12 w_843 w_844 w_845 hy_Lie_add ⟨Nat.le_of_ble_eq_true rfl, Nat.le_of_ble_eq_true rfl⟩ ⟨Nat.le_of_ble_eq_true rfl, Nat.le_of_ble_eq_true rfl⟩ rfl (Nat.le_of_ble_eq_true rfl) d_H_gain_123 (fun hq13 => ?_)
          refine r_aload_n (pc := 126) (i := 0) d_H_gain_126 rfl rfl ?_
          refine r_getf (pc := 127) (ci := 11) (k := 11) (C := "CricketHay") (T := F_11) (N := 13) (v := .ref 380) (fun s => Std.k s (lc hn rfl) kq_0) rfl (Nat.le_of_ble_eq_true rfl) rfl w_433 (fun s => vr rfl (Std.r s (lc hn rfl) rq_0_11)) d_H_gain_127 ?_
          refine r_iload (pc := 130) d_H_gain_130 rfl ?_
          refine r_cVv (pc := 132) (T := F_6) (N := 2) (st := []) (ok_Lie_add hn x4 hq13) (fun s => Std.k s (lc hn rfl) kq_380) rfl w_846 w_12 w_843 w_844 w_845 hy_Lie_add ⟨Nat.le_of_ble_eq_true rfl, Nat.le_of_ble_eq_true rfl⟩ ⟨Nat.le_of_ble_eq_true rfl, Nat.le_of_ble_eq_true rfl⟩ rfl (Nat.le_of_ble_eq_true rfl) d_H_gain_132 (fun hq14 => ?_)
          refine r_ltE (fun xq15 exq15 => ?_)
          refine r_iinc (pc := 135) (v := xq15) (lv1 := [some (.ref 0), some (.int a1), some (.int xq7), some (.int x3), some (.int xq15), some (.int xq7)]) d_H_gain_135 rfl exq15.symm (Nat.le_of_ble_eq_true rfl) rfl ?_
          refine r_goto (pc := 138) (tgt := 57) d_H_gain_138 (by rfl) ?_
          exact r_wk (ih xq7 x3 xq15 hq14) ⟨rfl, ⟨rfl, ⟨rfl, ⟨rfl, ⟨rfl, trivial⟩⟩⟩⟩⟩
def f_H_gain_l43  (a1 : Int32)  : Nat → Int32 → Int32 → AH → Option (Int32 × AH)
  | 0, _, _, _ => none
  | n + 1, x2, x3, h =>
    gd h 0 1 7 fun cq1 =>
    if (hI h cq1 11) ≤ x3 then
      some (x2, h)
    else
      f_H_gain_l57 a1 (f_H_gain_l43 a1 n) FU x2 x3 (0 : Int32) h
set_option maxHeartbeats 2000000 in
theorem o_H_gain_l43 {G : AE} {n : Nat} (hn : NN ≤ n)  {a1 : Int32}   : ∀ (n0 : Nat) (x2 : Int32) (x3 : Int32) (h : AH), AJ G n y_H_gain (6) φI 43 [some (.ref 0), some (.int a1), some (.int x2), some (.int x3), none, none] [] h (f_H_gain_l43 a1 n0 x2 x3 h) := by
  intro n0
  induction n0 with
  | zero => intros; exact r_none
  | succ n0 ih =>
    intro x2 x3 h
    rw [f_H_gain_l43]
    refine r_iload_n (pc := 43) (i := 3) d_H_gain_43 rfl rfl ?_
    refine r_aload_n (pc := 44) (i := 0) d_H_gain_44 rfl rfl ?_
    refine r_gd (fun cq1 rcq1 kcq1 => ?_)
    refine r_getf (pc := 45) (ci := 11) (k := 1) (C := "CricketHay") (T := F_11) (N := 13) (v := .ref cq1) (fun s => Std.k s (lc hn rfl) kq_0) rfl (Nat.le_of_ble_eq_true rfl) rfl w_423 (fun _ => vr rfl rcq1) d_H_gain_45 ?_
    refine r_getf (pc := 48) (ci := 7) (k := 11) (C := "CricketHay$Market") (T := F_7) (N := 16) (v := .int (hI h cq1 11)) (fun s => Std.k s (ltn (cm hn) (kl_M kcq1)) kcq1) rfl (Nat.le_of_ble_eq_true rfl) rfl w_155 (fun _ => rfl) d_H_gain_48 ?_
    refine r_icmp_ge (pc := 51) (tgt := 147) d_H_gain_51 (by rfl) ?_ ?_
    · refine r_iload_n (pc := 147) (i := 2) d_H_gain_147 rfl rfl ?_
      exact r_iret (pc := 148) rfl d_H_gain_148
    · refine r_iconst (pc := 54) (v := 0) d_H_gain_54 (by rfl) ?_
      refine r_istore (pc := 55) (lv1 := [some (.ref 0), some (.int a1), some (.int x2), some (.int x3), some (.int (0 : Int32)), none]) d_H_gain_55 (Nat.le_of_ble_eq_true rfl) rfl ?_
      exact r_wk (o_H_gain_l57 hn ih FU x2 x3 (0 : Int32) h) ⟨rfl, ⟨rfl, ⟨rfl, ⟨rfl, ⟨rfl, trivial⟩⟩⟩⟩⟩
def f_H_gain  (a1 : Int32) (h : AH) : Option (Int32 × AH) :=
  bV (f_Lie_wipe h) fun hq1 =>
  gd hq1 0 1 7 fun cq2 =>
  bI (f_Market_has cq2 a1 hq1) fun rq3 hq4 =>
  if ¬ rq3 = 0 then
    gd hq4 0 1 7 fun cq5 =>
    bV (f_Choir_tune cq5 37 hq4) fun hq6 =>
    f_H_gain_l43 a1 FU (-1000 : Int32) (0 : Int32) hq6
  else
    some ((-1000 : Int32), hq4)
set_option maxHeartbeats 2000000 in
theorem ok_H_gain {G : AE} {n : Nat} (hn : NN ≤ n)  (a1 : Int32) (h : AH) : OK G n y_H_gain (6) φI [.ref 0, .int a1] h (f_H_gain a1 h) := by
  refine ok_of (y := y_H_gain) (lv0 := [some (.ref 0), some (.int a1), none, none, none, none]) (by decide +kernel) (Nat.le_of_ble_eq_true rfl) ⟨rfl, ⟨rfl, trivial⟩⟩ ?_
  rw [f_H_gain]
  refine r_aload_n (pc := 0) (i := 0) d_H_gain_0 rfl rfl ?_
  refine r_getf (pc := 1) (ci := 11) (k := 11) (C := "CricketHay") (T := F_11) (N := 13) (v := .ref 380) (fun s => Std.k s (lc hn rfl) kq_0) rfl (Nat.le_of_ble_eq_true rfl) rfl w_433 (fun s => vr rfl (Std.r s (lc hn rfl) rq_0_11)) d_H_gain_1 ?_
  refine r_cVv (pc := 4) (T := F_6) (N := 2) (st := []) (ok_Lie_wipe hn h) (fun s => Std.k s (lc hn rfl) kq_380) rfl w_651 w_12 w_648 w_649 w_650 hy_Lie_wipe ⟨Nat.le_of_ble_eq_true rfl, Nat.le_of_ble_eq_true rfl⟩ ⟨Nat.le_of_ble_eq_true rfl, Nat.le_of_ble_eq_true rfl⟩ rfl (Nat.le_of_ble_eq_true rfl) d_H_gain_4 (fun hq1 => ?_)
  refine r_aload_n (pc := 7) (i := 0) d_H_gain_7 rfl rfl ?_
  refine r_gd (fun cq2 rcq2 kcq2 => ?_)
  refine r_getf (pc := 8) (ci := 11) (k := 1) (C := "CricketHay") (T := F_11) (N := 13) (v := .ref cq2) (fun s => Std.k s (lc hn rfl) kq_0) rfl (Nat.le_of_ble_eq_true rfl) rfl w_423 (fun _ => vr rfl rcq2) d_H_gain_8 ?_
  refine r_iload_n (pc := 11) (i := 1) d_H_gain_11 rfl rfl ?_
  refine r_cVi (pc := 12) (T := F_7) (N := 16) (st := []) (ok_Market_has hn cq2 kcq2 a1 hq1) (fun s => Std.k s (ltn (cm hn) (kl_M kcq2)) kcq2) rfl w_664 w_3 w_661 w_662 w_663 hy_Market_has ⟨Nat.le_of_ble_eq_true rfl, Nat.le_of_ble_eq_true rfl⟩ ⟨Nat.le_of_ble_eq_true rfl, Nat.le_of_ble_eq_true rfl⟩ rfl (Nat.le_of_ble_eq_true rfl) d_H_gain_12 (fun rq3 hq4 => ?_)
  refine r_if_ne (pc := 15) (tgt := 22) d_H_gain_15 (by rfl) ?_ ?_
  · refine r_aload_n (pc := 22) (i := 0) d_H_gain_22 rfl rfl ?_
    refine r_getf (pc := 23) (ci := 11) (k := 5) (C := "CricketHay") (T := F_11) (N := 13) (v := .ref 51) (fun s => Std.k s (lc hn rfl) kq_0) rfl (Nat.le_of_ble_eq_true rfl) rfl w_427 (fun s => vr rfl (Std.r s (lc hn rfl) rq_0_5)) d_H_gain_23 ?_
    refine r_aload_n (pc := 26) (i := 0) d_H_gain_26 rfl rfl ?_
    refine r_gd (fun cq5 rcq5 kcq5 => ?_)
    refine r_getf (pc := 27) (ci := 11) (k := 1) (C := "CricketHay") (T := F_11) (N := 13) (v := .ref cq5) (fun s => Std.k s (lc hn rfl) kq_0) rfl (Nat.le_of_ble_eq_true rfl) rfl w_423 (fun _ => vr rfl rcq5) d_H_gain_27 ?_
    refine r_aload_n (pc := 30) (i := 0) d_H_gain_30 rfl rfl ?_
    refine r_getf (pc := 31) (ci := 11) (k := 3) (C := "CricketHay") (T := F_11) (N := 13) (v := .ref 37) (fun s => Std.k s (lc hn rfl) kq_0) rfl (Nat.le_of_ble_eq_true rfl) rfl w_425 (fun s => vr rfl (Std.r s (lc hn rfl) rq_0_3)) d_H_gain_31 ?_
    refine r_cVv (pc := 34) (T := F_2) (N := 2) (st := []) (ok_Choir_tune hn cq5 kcq5 37 kq_37 hq4) (fun s => Std.k s (lc hn rfl) kq_51) rfl w_668 w_6 w_665 w_666 w_667 hy_Choir_tune ⟨Nat.le_of_ble_eq_true rfl, Nat.le_of_ble_eq_true rfl⟩ ⟨Nat.le_of_ble_eq_true rfl, Nat.le_of_ble_eq_true rfl⟩ rfl (Nat.le_of_ble_eq_true rfl) d_H_gain_34 (fun hq6 => ?_)
    refine r_sipush (pc := 37) (v := -1000) d_H_gain_37 (by rfl) ?_
    refine r_istore_n (pc := 40) (i := 2) (lv1 := [some (.ref 0), some (.int a1), some (.int (-1000 : Int32)), none, none, none]) d_H_gain_40 rfl (Nat.le_of_ble_eq_true rfl) rfl ?_
    refine r_iconst (pc := 41) (v := 0) d_H_gain_41 (by rfl) ?_
    refine r_istore_n (pc := 42) (i := 3) (lv1 := [some (.ref 0), some (.int a1), some (.int (-1000 : Int32)), some (.int (0 : Int32)), none, none]) d_H_gain_42 rfl (Nat.le_of_ble_eq_true rfl) rfl ?_
    exact r_wk (o_H_gain_l43 hn FU (-1000 : Int32) (0 : Int32) hq6) ⟨rfl, ⟨rfl, ⟨rfl, ⟨rfl, trivial⟩⟩⟩⟩
  · refine r_sipush (pc := 18) (v := -1000) d_H_gain_18 (by rfl) ?_
    exact r_iret (pc := 21) rfl d_H_gain_21

def f_Clearing_compare_b24  (a1 : Int32) (a2 : Int32)   (h : AH) : Option AH :=
  lt (sI h 376 6 a1) fun hq1 =>
  lt (sI hq1 376 7 a2) fun hq2 =>
  lt (sF hq2 379 (va_cpy (hI hq2 378) (hI hq2 379) 0 0 6)) fun hq3 =>
  some hq3
set_option maxHeartbeats 2000000 in
theorem o_Clearing_compare_b24 {G : AE} {n : Nat} (hn : NN ≤ n)  {a1 : Int32} {a2 : Int32}   : ∀  (h : AH), AJ G n y_Clearing_compare (2) φV 24 [some (.ref 376), some (.int a1), some (.int a2)] [] h (f_Clearing_compare_b24 a1 a2 h) := by
  intro  h
  rw [f_Clearing_compare_b24]
  refine r_aload_n (pc := 24) (i := 0) d_Clearing_compare_24 rfl rfl ?_
  refine r_iload_n (pc := 25) (i := 1) d_Clearing_compare_25 rfl rfl ?_
  refine r_putI (pc := 26) (ci := 3) (k := 6) (C := "CricketHay$Clearing") (T := F_3) (N := 8) (fun s => Std.k s (lc hn rfl) kq_376) rfl (Nat.le_of_ble_eq_true rfl) rfl rfl w_382 (fun _ _ => rfl) (fun _ => rfl) (fun _ => rfl) (fun s => Std.sI s _ _ _) d_Clearing_compare_26 ?_
  refine r_ltH (fun hq1 => ?_)
  refine r_aload_n (pc := 29) (i := 0) d_Clearing_compare_29 rfl rfl ?_
  refine r_iload_n (pc := 30) (i := 2) d_Clearing_compare_30 rfl rfl ?_
  refine r_putI (pc := 31) (ci := 3) (k := 7) (C := "CricketHay$Clearing") (T := F_3) (N := 8) (fun s => Std.k s (lc hn rfl) kq_376) rfl (Nat.le_of_ble_eq_true rfl) rfl rfl w_384 (fun _ _ => rfl) (fun _ => rfl) (fun _ => rfl) (fun s => Std.sI s _ _ _) d_Clearing_compare_31 ?_
  refine r_ltH (fun hq2 => ?_)
  refine r_aload_n (pc := 34) (i := 0) d_Clearing_compare_34 rfl rfl ?_
  refine r_getf (pc := 35) (ci := 3) (k := 1) (C := "CricketHay$Clearing") (T := F_3) (N := 8) (v := .ref 378) (fun s => Std.k s (lc hn rfl) kq_376) rfl (Nat.le_of_ble_eq_true rfl) rfl w_376 (fun s => vr rfl (Std.r s (lc hn rfl) rq_376_1)) d_Clearing_compare_35 ?_
  refine r_iconst (pc := 38) (v := 0) d_Clearing_compare_38 (by rfl) ?_
  refine r_aload_n (pc := 39) (i := 0) d_Clearing_compare_39 rfl rfl ?_
  refine r_getf (pc := 40) (ci := 3) (k := 2) (C := "CricketHay$Clearing") (T := F_3) (N := 8) (v := .ref 379) (fun s => Std.k s (lc hn rfl) kq_376) rfl (Nat.le_of_ble_eq_true rfl) rfl w_377 (fun s => vr rfl (Std.r s (lc hn rfl) rq_376_2)) d_Clearing_compare_40 ?_
  refine r_iconst (pc := 43) (v := 0) d_Clearing_compare_43 (by rfl) ?_
  refine r_bipush (pc := 44) (v := 6) d_Clearing_compare_44 (by rfl) ?_
  refine r_acopy (pc := 46) (k := 6) (fun s => Std.k s (lc hn rfl) kq_378) (fun s => Std.k s (lc hn rfl) kq_379) rfl (Nat.le_of_ble_eq_true rfl) (Nat.le_of_ble_eq_true rfl) w_877 w_765 w_764 w_19 (Nat.le_of_ble_eq_true rfl) (by decide) (fun s => Std.sF s _ _) d_Clearing_compare_46 ?_
  refine r_ltH (fun hq3 => ?_)
  exact r_vret (pc := 49) rfl d_Clearing_compare_49
def f_Clearing_compare  (a1 : Int32) (a2 : Int32) (h : AH) : Option AH :=
  if (hI h 376 6) < a1 then
    f_Clearing_compare_b24 a1 a2 h
  else
    if ¬ a1 = (hI h 376 6) then
      some h
    else
      if (hI h 376 7) ≤ a2 then
        some h
      else
        f_Clearing_compare_b24 a1 a2 h
set_option maxHeartbeats 2000000 in
theorem ok_Clearing_compare {G : AE} {n : Nat} (hn : NN ≤ n)  (a1 : Int32) (a2 : Int32) (h : AH) : OK G n y_Clearing_compare (2) φV [.ref 376, .int a1, .int a2] h (f_Clearing_compare a1 a2 h) := by
  refine ok_of (y := y_Clearing_compare) (lv0 := [some (.ref 376), some (.int a1), some (.int a2)]) (by decide +kernel) (Nat.le_of_ble_eq_true rfl) ⟨rfl, ⟨rfl, ⟨rfl, trivial⟩⟩⟩ ?_
  rw [f_Clearing_compare]
  refine r_iload_n (pc := 0) (i := 1) d_Clearing_compare_0 rfl rfl ?_
  refine r_aload_n (pc := 1) (i := 0) d_Clearing_compare_1 rfl rfl ?_
  refine r_getf (pc := 2) (ci := 3) (k := 6) (C := "CricketHay$Clearing") (T := F_3) (N := 8) (v := .int (hI h 376 6)) (fun s => Std.k s (lc hn rfl) kq_376) rfl (Nat.le_of_ble_eq_true rfl) rfl w_382 (fun _ => rfl) d_Clearing_compare_2 ?_
  refine r_icmp_gt (pc := 5) (tgt := 24) d_Clearing_compare_5 (by rfl) ?_ ?_
  · exact r_wk (o_Clearing_compare_b24 hn h) ⟨rfl, ⟨rfl, ⟨rfl, trivial⟩⟩⟩
  · refine r_iload_n (pc := 8) (i := 1) d_Clearing_compare_8 rfl rfl ?_
    refine r_aload_n (pc := 9) (i := 0) d_Clearing_compare_9 rfl rfl ?_
    refine r_getf (pc := 10) (ci := 3) (k := 6) (C := "CricketHay$Clearing") (T := F_3) (N := 8) (v := .int (hI h 376 6)) (fun s => Std.k s (lc hn rfl) kq_376) rfl (Nat.le_of_ble_eq_true rfl) rfl w_382 (fun _ => rfl) d_Clearing_compare_10 ?_
    refine r_icmp_ne (pc := 13) (tgt := 49) d_Clearing_compare_13 (by rfl) ?_ ?_
    · exact r_vret (pc := 49) rfl d_Clearing_compare_49
    · refine r_iload_n (pc := 16) (i := 2) d_Clearing_compare_16 rfl rfl ?_
      refine r_aload_n (pc := 17) (i := 0) d_Clearing_compare_17 rfl rfl ?_
      refine r_getf (pc := 18) (ci := 3) (k := 7) (C := "CricketHay$Clearing") (T := F_3) (N := 8) (v := .int (hI h 376 7)) (fun s => Std.k s (lc hn rfl) kq_376) rfl (Nat.le_of_ble_eq_true rfl) rfl w_384 (fun _ => rfl) d_Clearing_compare_18 ?_
      refine r_icmp_ge (pc := 21) (tgt := 49) d_Clearing_compare_21 (by rfl) ?_ ?_
      · exact r_vret (pc := 49) rfl d_Clearing_compare_49
      · exact r_wk (o_Clearing_compare_b24 hn h) ⟨rfl, ⟨rfl, ⟨rfl, trivial⟩⟩⟩

def f_Clearing_choose_l59 (rec : Int32 → Int32 → Int32 → AH → Option AH) (a1 : Int32) (a2 : Int32) (a3 : Int32)  : Nat → Int32 → AH → Option AH
  | 0, _, _ => none
  | n + 1, x4, h =>
    gd h 376 3 7 fun cq1 =>
    if (hI h cq1 11) ≤ x4 then
      some h
    else
      g1 h 376 5 51 <|
      bI (f_Choir_half a1 x4 h) fun rq3 hq4 =>
      gx x4 6 <|
      if (hI hq4 377 (ix x4)) ≤ 0 then
        lt (x4 + (1 : Int32)) fun xq6 =>
        f_Clearing_choose_l59 rec a1 a2 a3 n xq6 hq4
      else
        gd hq4 376 4 10 fun cq7 =>
        gx a1 6 <|
        if (hI hq4 (cq7 + 1) (ix a1)) < rq3 then
          lt (x4 + (1 : Int32)) fun xq9 =>
          f_Clearing_choose_l59 rec a1 a2 a3 n xq9 hq4
        else
          gx x4 6 <|
          gx x4 6 <|
          lt (sI hq4 377 (ix x4) ((hI hq4 377 (ix x4)) - (1 : Int32))) fun hq12 =>
          gx a1 6 <|
          lt (sI hq12 378 (ix a1) x4) fun hq14 =>
          bV (rec (a1 + (1 : Int32)) (a2 + (1 : Int32)) (a3 + rq3) hq14) fun hq15 =>
          gx x4 6 <|
          gx x4 6 <|
          lt (sI hq15 377 (ix x4) ((hI hq15 377 (ix x4)) + (1 : Int32))) fun hq18 =>
          lt (x4 + (1 : Int32)) fun xq19 =>
          f_Clearing_choose_l59 rec a1 a2 a3 n xq19 hq18
set_option maxHeartbeats 2000000 in
theorem o_Clearing_choose_l59 {G : AE} {n : Nat} (hn : NN ≤ n) {rec : Int32 → Int32 → Int32 → AH → Option AH} {dr : Nat} (hrec : ∀ (a1 a2 a3 : Int32) (h : AH), OK G n y_Clearing_choose dr φV [.ref 376, .int a1, .int a2, .int a3] h (rec a1 a2 a3 h)) {a1 : Int32} {a2 : Int32} {a3 : Int32}   : ∀ (n0 : Nat) (x4 : Int32) (h : AH), AJ G n y_Clearing_choose (dr + 3) φV 59 [some (.ref 376), some (.int a1), some (.int a2), some (.int a3), some (.int x4), none] [] h (f_Clearing_choose_l59 rec a1 a2 a3 n0 x4 h) := by
  intro n0
  induction n0 with
  | zero => intros; exact r_none
  | succ n0 ih =>
    intro x4 h
    rw [f_Clearing_choose_l59]
    refine r_iload (pc := 59) d_Clearing_choose_59 rfl ?_
    refine r_aload_n (pc := 61) (i := 0) d_Clearing_choose_61 rfl rfl ?_
    refine r_gd (fun cq1 rcq1 kcq1 => ?_)
    refine r_getf (pc := 62) (ci := 3) (k := 3) (C := "CricketHay$Clearing") (T := F_3) (N := 8) (v := .ref cq1) (fun s => Std.k s (lc hn rfl) kq_376) rfl (Nat.le_of_ble_eq_true rfl) rfl w_379 (fun _ => vr rfl rcq1) d_Clearing_choose_62 ?_
    refine r_getf (pc := 65) (ci := 7) (k := 11) (C := "CricketHay$Market") (T := F_7) (N := 16) (v := .int (hI h cq1 11)) (fun s => Std.k s (ltn (cm hn) (kl_M kcq1)) kcq1) rfl (Nat.le_of_ble_eq_true rfl) rfl w_154 (fun _ => rfl) d_Clearing_choose_65 ?_
    refine r_icmp_ge (pc := 68) (tgt := 157) d_Clearing_choose_68 (by rfl) ?_ ?_
    · exact r_vret (pc := 157) rfl d_Clearing_choose_157
    · refine r_aload_n (pc := 71) (i := 0) d_Clearing_choose_71 rfl rfl ?_
      refine r_g1 (fun rcq2 => ?_)
      refine r_getf (pc := 72) (ci := 3) (k := 5) (C := "CricketHay$Clearing") (T := F_3) (N := 8) (v := .ref 51) (fun s => Std.k s (lc hn rfl) kq_376) rfl (Nat.le_of_ble_eq_true rfl) rfl w_381 (fun _ => vr rfl rcq2) d_Clearing_choose_72 ?_
      refine r_iload_n (pc := 75) (i := 1) d_Clearing_choose_75 rfl rfl ?_
      refine r_iload (pc := 76) d_Clearing_choose_76 rfl ?_
      refine r_cVi (pc := 78) (T := F_2) (N := 2) (st := []) (ok_Choir_half hn a1 x4 h) (fun s => Std.k s (lc hn rfl) kq_51) rfl w_726 w_6 w_878 w_724 w_725 hy_Choir_half (hf_of (d2 := 1) (D := dr + 3) (by omega) (Nat.le_of_ble_eq_true rfl)) ⟨Nat.le_of_ble_eq_true rfl, Nat.le_of_ble_eq_true rfl⟩ rfl (Nat.le_of_ble_eq_true rfl) d_Clearing_choose_78 (fun rq3 hq4 => ?_)
      refine r_istore (pc := 81) (lv1 := [some (.ref 376), some (.int a1), some (.int a2), some (.int a3), some (.int x4), some (.int rq3)]) d_Clearing_choose_81 (Nat.le_of_ble_eq_true rfl) rfl ?_
      refine r_aload_n (pc := 83) (i := 0) d_Clearing_choose_83 rfl rfl ?_
      refine r_getf (pc := 84) (ci := 3) (k := 0) (C := "CricketHay$Clearing") (T := F_3) (N := 8) (v := .ref 377) (fun s => Std.k s (lc hn rfl) kq_376) rfl (Nat.le_of_ble_eq_true rfl) rfl w_375 (fun s => vr rfl (Std.r s (lc hn rfl) rq_376_0)) d_Clearing_choose_84 ?_
      refine r_iload (pc := 87) d_Clearing_choose_87 rfl ?_
      refine r_gx (fun zq5 => ?_)
      refine r_iald (pc := 89) (n := 6) (i0 := (ix x4)) (fun s => Std.k s (lc hn rfl) kq_377) zq5 rfl d_Clearing_choose_89 ?_
      refine r_if_le (pc := 90) (tgt := 151) d_Clearing_choose_90 (by rfl) ?_ ?_
      · refine r_ltE (fun xq6 exq6 => ?_)
        refine r_iinc (pc := 151) (v := xq6) (lv1 := [some (.ref 376), some (.int a1), some (.int a2), some (.int a3), some (.int xq6), some (.int rq3)]) d_Clearing_choose_151 rfl exq6.symm (Nat.le_of_ble_eq_true rfl) rfl ?_
        refine r_goto (pc := 154) (tgt := 59) d_Clearing_choose_154 (by rfl) ?_
        exact r_wk (ih xq6 hq4) ⟨rfl, ⟨rfl, ⟨rfl, ⟨rfl, ⟨rfl, trivial⟩⟩⟩⟩⟩
      · refine r_iload (pc := 93) d_Clearing_choose_93 rfl ?_
        refine r_aload_n (pc := 95) (i := 0) d_Clearing_choose_95 rfl rfl ?_
        refine r_gd (fun cq7 rcq7 kcq7 => ?_)
        refine r_getf (pc := 96) (ci := 3) (k := 4) (C := "CricketHay$Clearing") (T := F_3) (N := 8) (v := .ref cq7) (fun s => Std.k s (lc hn rfl) kq_376) rfl (Nat.le_of_ble_eq_true rfl) rfl w_380 (fun _ => vr rfl rcq7) d_Clearing_choose_96 ?_
        refine r_getf (pc := 99) (ci := 10) (k := 0) (C := "CricketHay$Yard") (T := F_10) (N := 10) (v := .ref (cq7 + 1)) (fun s => Std.k s (ltn (cm hn) (kl_Y kcq7)) kcq7) rfl (Nat.le_of_ble_eq_true rfl) rfl w_211 (fun s => vr rfl (Std.r s (ltn (cm hn) (kl_Y kcq7)) (rr_Y_0 kcq7))) d_Clearing_choose_99 ?_
        refine r_iload_n (pc := 102) (i := 1) d_Clearing_choose_102 rfl rfl ?_
        refine r_gx (fun zq8 => ?_)
        refine r_iald (pc := 103) (n := 6) (i0 := (ix a1)) (fun s => Std.k s (ltn (cm hn) (kj_Y_0 kcq7)) (kk_Y_0 kcq7)) zq8 rfl d_Clearing_choose_103 ?_
        refine r_icmp_gt (pc := 104) (tgt := 151) d_Clearing_choose_104 (by rfl) ?_ ?_
        · refine r_ltE (fun xq9 exq9 => ?_)
          refine r_iinc (pc := 151) (v := xq9) (lv1 := [some (.ref 376), some (.int a1), some (.int a2), some (.int a3), some (.int xq9), some (.int rq3)]) d_Clearing_choose_151 rfl exq9.symm (Nat.le_of_ble_eq_true rfl) rfl ?_
          refine r_goto (pc := 154) (tgt := 59) d_Clearing_choose_154 (by rfl) ?_
          exact r_wk (ih xq9 hq4) ⟨rfl, ⟨rfl, ⟨rfl, ⟨rfl, ⟨rfl, trivial⟩⟩⟩⟩⟩
        · refine r_aload_n (pc := 107) (i := 0) d_Clearing_choose_107 rfl rfl ?_
          refine r_getf (pc := 108) (ci := 3) (k := 0) (C := "CricketHay$Clearing") (T := F_3) (N := 8) (v := .ref 377) (fun s => Std.k s (lc hn rfl) kq_376) rfl (Nat.le_of_ble_eq_true rfl) rfl w_375 (fun s => vr rfl (Std.r s (lc hn rfl) rq_376_0)) d_Clearing_choose_108 ?_
          refine r_iload (pc := 111) d_Clearing_choose_111 rfl ?_
          refine r_dup2 (pc := 113) d_Clearing_choose_113 rfl rfl ?_
          refine r_gx (fun zq10 => ?_)
          refine r_iald (pc := 114) (n := 6) (i0 := (ix x4)) (fun s => Std.k s (lc hn rfl) kq_377) zq10 rfl d_Clearing_choose_114 ?_
          refine r_iconst (pc := 115) (v := 1) d_Clearing_choose_115 (by rfl) ?_
          refine r_isub (pc := 116) d_Clearing_choose_116 ?_
          refine r_gx (fun zq11 => ?_)
          refine r_iast (pc := 117) (n := 6) (i0 := (ix x4)) (fun s => Std.k s (lc hn rfl) kq_377) zq11 rfl (fun s => Std.sI s _ _ _) d_Clearing_choose_117 ?_
          refine r_ltH (fun hq12 => ?_)
          refine r_aload_n (pc := 118) (i := 0) d_Clearing_choose_118 rfl rfl ?_
          refine r_getf (pc := 119) (ci := 3) (k := 1) (C := "CricketHay$Clearing") (T := F_3) (N := 8) (v := .ref 378) (fun s => Std.k s (lc hn rfl) kq_376) rfl (Nat.le_of_ble_eq_true rfl) rfl w_376 (fun s => vr rfl (Std.r s (lc hn rfl) rq_376_1)) d_Clearing_choose_119 ?_
          refine r_iload_n (pc := 122) (i := 1) d_Clearing_choose_122 rfl rfl ?_
          refine r_iload (pc := 123) d_Clearing_choose_123 rfl ?_
          refine r_gx (fun zq13 => ?_)
          refine r_iast (pc := 125) (n := 6) (i0 := (ix a1)) (fun s => Std.k s (lc hn rfl) kq_378) zq13 rfl (fun s => Std.sI s _ _ _) d_Clearing_choose_125 ?_
          refine r_ltH (fun hq14 => ?_)
          refine r_aload_n (pc := 126) (i := 0) d_Clearing_choose_126 rfl rfl ?_
          refine r_iload_n (pc := 127) (i := 1) d_Clearing_choose_127 rfl rfl ?_
          refine r_iconst (pc := 128) (v := 1) d_Clearing_choose_128 (by rfl) ?_
          refine r_iadd (pc := 129) d_Clearing_choose_129 ?_
          refine r_iload_n (pc := 130) (i := 2) d_Clearing_choose_130 rfl rfl ?_
          refine r_iconst (pc := 131) (v := 1) d_Clearing_choose_131 (by rfl) ?_
          refine r_iadd (pc := 132) d_Clearing_choose_132 ?_
          refine r_iload_n (pc := 133) (i := 3) d_Clearing_choose_133 rfl rfl ?_
          refine r_iload (pc := 134) d_Clearing_choose_134 rfl ?_
          refine r_iadd (pc := 136) d_Clearing_choose_136 ?_
          refine r_cVv (pc := 137) (T := F_3) (N := 8) (st := []) (hrec (a1 + (1 : Int32)) (a2 + (1 : Int32)) (a3 + rq3) hq14) (fun s => Std.k s (lc hn rfl) kq_376) rfl w_872 w_11 w_869 w_871 ws_32 hy_Clearing_choose (hf_of (d2 := dr) (D := dr + 3) (by omega) (Nat.le_of_ble_eq_true rfl)) ⟨Nat.le_of_ble_eq_true rfl, Nat.le_of_ble_eq_true rfl⟩ rfl (Nat.le_of_ble_eq_true rfl) d_Clearing_choose_137 (fun hq15 => ?_)
          refine r_aload_n (pc := 140) (i := 0) d_Clearing_choose_140 rfl rfl ?_
          refine r_getf (pc := 141) (ci := 3) (k := 0) (C := "CricketHay$Clearing") (T := F_3) (N := 8) (v := .ref 377) (fun s => Std.k s (lc hn rfl) kq_376) rfl (Nat.le_of_ble_eq_true rfl) rfl w_375 (fun s => vr rfl (Std.r s (lc hn rfl) rq_376_0)) d_Clearing_choose_141 ?_
          refine r_iload (pc := 144) d_Clearing_choose_144 rfl ?_
          refine r_dup2 (pc := 146) d_Clearing_choose_146 rfl rfl ?_
          refine r_gx (fun zq16 => ?_)
          refine r_iald (pc := 147) (n := 6) (i0 := (ix x4)) (fun s => Std.k s (lc hn rfl) kq_377) zq16 rfl d_Clearing_choose_147 ?_
          refine r_iconst (pc := 148) (v := 1) d_Clearing_choose_148 (by rfl) ?_
          refine r_iadd (pc := 149) d_Clearing_choose_149 ?_
          refine r_gx (fun zq17 => ?_)
          refine r_iast (pc := 150) (n := 6) (i0 := (ix x4)) (fun s => Std.k s (lc hn rfl) kq_377) zq17 rfl (fun s => Std.sI s _ _ _) d_Clearing_choose_150 ?_
          refine r_ltH (fun hq18 => ?_)
          refine r_ltE (fun xq19 exq19 => ?_)
          refine r_iinc (pc := 151) (v := xq19) (lv1 := [some (.ref 376), some (.int a1), some (.int a2), some (.int a3), some (.int xq19), some (.int rq3)]) d_Clearing_choose_151 rfl exq19.symm (Nat.le_of_ble_eq_true rfl) rfl ?_
          refine r_goto (pc := 154) (tgt := 59) d_Clearing_choose_154 (by rfl) ?_
          exact r_wk (ih xq19 hq18) ⟨rfl, ⟨rfl, ⟨rfl, ⟨rfl, ⟨rfl, trivial⟩⟩⟩⟩⟩
def f_Clearing_choose_e (rec : Int32 → Int32 → Int32 → AH → Option AH) (a1 : Int32) (a2 : Int32) (a3 : Int32) (h : AH) : Option AH :=
  gd h 376 3 7 fun cq1 =>
  if a1 < (hI h cq1 11) then
    gx a1 6 <|
    lt (sI h 378 (ix a1) (-1 : Int32)) fun hq3 =>
    bV (rec (a1 + (1 : Int32)) a2 a3 hq3) fun hq4 =>
    gd hq4 376 4 10 fun cq5 =>
    gx a1 6 <|
    gd hq4 376 3 7 fun cq7 =>
    gx a1 6 <|
    if (hI hq4 (cq5 + 2) (ix a1)) < (hI hq4 (cq7 + 8) (ix a1)) then
      f_Clearing_choose_l59 rec a1 a2 a3 FU (0 : Int32) hq4
    else
      some hq4
  else
    bV (f_Clearing_compare a2 a3 h) fun hq9 =>
    some hq9
def f_Clearing_choose  : Nat → Int32 → Int32 → Int32 → AH → Option AH
  | 0, _, _, _, _ => none
  | n + 1, a1, a2, a3, h => f_Clearing_choose_e (f_Clearing_choose n) a1 a2 a3 h
set_option maxHeartbeats 2000000 in
theorem ok_Clearing_choose_e {G : AE} {n : Nat} (hn : NN ≤ n) {rec : Int32 → Int32 → Int32 → AH → Option AH} {dr : Nat} (hrec : ∀ (a1 a2 a3 : Int32) (h : AH), OK G n y_Clearing_choose dr φV [.ref 376, .int a1, .int a2, .int a3] h (rec a1 a2 a3 h)) (a1 : Int32) (a2 : Int32) (a3 : Int32) (h : AH) : OK G n y_Clearing_choose (dr + 3) φV [.ref 376, .int a1, .int a2, .int a3] h (f_Clearing_choose_e rec a1 a2 a3 h) := by
  refine ok_of (y := y_Clearing_choose) (lv0 := [some (.ref 376), some (.int a1), some (.int a2), some (.int a3), none, none]) (by decide +kernel) (Nat.le_of_ble_eq_true rfl) ⟨rfl, ⟨rfl, ⟨rfl, ⟨rfl, trivial⟩⟩⟩⟩ ?_
  rw [f_Clearing_choose_e]
  refine r_iload_n (pc := 0) (i := 1) d_Clearing_choose_0 rfl rfl ?_
  refine r_aload_n (pc := 1) (i := 0) d_Clearing_choose_1 rfl rfl ?_
  refine r_gd (fun cq1 rcq1 kcq1 => ?_)
  refine r_getf (pc := 2) (ci := 3) (k := 3) (C := "CricketHay$Clearing") (T := F_3) (N := 8) (v := .ref cq1) (fun s => Std.k s (lc hn rfl) kq_376) rfl (Nat.le_of_ble_eq_true rfl) rfl w_379 (fun _ => vr rfl rcq1) d_Clearing_choose_2 ?_
  refine r_getf (pc := 5) (ci := 7) (k := 11) (C := "CricketHay$Market") (T := F_7) (N := 16) (v := .int (hI h cq1 11)) (fun s => Std.k s (ltn (cm hn) (kl_M kcq1)) kcq1) rfl (Nat.le_of_ble_eq_true rfl) rfl w_154 (fun _ => rfl) d_Clearing_choose_5 ?_
  refine r_icmp_lt (pc := 8) (tgt := 18) d_Clearing_choose_8 (by rfl) ?_ ?_
  · refine r_aload_n (pc := 18) (i := 0) d_Clearing_choose_18 rfl rfl ?_
    refine r_getf (pc := 19) (ci := 3) (k := 1) (C := "CricketHay$Clearing") (T := F_3) (N := 8) (v := .ref 378) (fun s => Std.k s (lc hn rfl) kq_376) rfl (Nat.le_of_ble_eq_true rfl) rfl w_376 (fun s => vr rfl (Std.r s (lc hn rfl) rq_376_1)) d_Clearing_choose_19 ?_
    refine r_iload_n (pc := 22) (i := 1) d_Clearing_choose_22 rfl rfl ?_
    refine r_iconst (pc := 23) (v := -1) d_Clearing_choose_23 (by rfl) ?_
    refine r_gx (fun zq2 => ?_)
    refine r_iast (pc := 24) (n := 6) (i0 := (ix a1)) (fun s => Std.k s (lc hn rfl) kq_378) zq2 rfl (fun s => Std.sI s _ _ _) d_Clearing_choose_24 ?_
    refine r_ltH (fun hq3 => ?_)
    refine r_aload_n (pc := 25) (i := 0) d_Clearing_choose_25 rfl rfl ?_
    refine r_iload_n (pc := 26) (i := 1) d_Clearing_choose_26 rfl rfl ?_
    refine r_iconst (pc := 27) (v := 1) d_Clearing_choose_27 (by rfl) ?_
    refine r_iadd (pc := 28) d_Clearing_choose_28 ?_
    refine r_iload_n (pc := 29) (i := 2) d_Clearing_choose_29 rfl rfl ?_
    refine r_iload_n (pc := 30) (i := 3) d_Clearing_choose_30 rfl rfl ?_
    refine r_cVv (pc := 31) (T := F_3) (N := 8) (st := []) (hrec (a1 + (1 : Int32)) a2 a3 hq3) (fun s => Std.k s (lc hn rfl) kq_376) rfl w_872 w_11 w_869 w_871 ws_32 hy_Clearing_choose (hf_of (d2 := dr) (D := dr + 3) (by omega) (Nat.le_of_ble_eq_true rfl)) ⟨Nat.le_of_ble_eq_true rfl, Nat.le_of_ble_eq_true rfl⟩ rfl (Nat.le_of_ble_eq_true rfl) d_Clearing_choose_31 (fun hq4 => ?_)
    refine r_aload_n (pc := 34) (i := 0) d_Clearing_choose_34 rfl rfl ?_
    refine r_gd (fun cq5 rcq5 kcq5 => ?_)
    refine r_getf (pc := 35) (ci := 3) (k := 4) (C := "CricketHay$Clearing") (T := F_3) (N := 8) (v := .ref cq5) (fun s => Std.k s (lc hn rfl) kq_376) rfl (Nat.le_of_ble_eq_true rfl) rfl w_380 (fun _ => vr rfl rcq5) d_Clearing_choose_35 ?_
    refine r_getf (pc := 38) (ci := 10) (k := 1) (C := "CricketHay$Yard") (T := F_10) (N := 10) (v := .ref (cq5 + 2)) (fun s => Std.k s (ltn (cm hn) (kl_Y kcq5)) kcq5) rfl (Nat.le_of_ble_eq_true rfl) rfl w_214 (fun s => vr rfl (Std.r s (ltn (cm hn) (kl_Y kcq5)) (rr_Y_1 kcq5))) d_Clearing_choose_38 ?_
    refine r_iload_n (pc := 41) (i := 1) d_Clearing_choose_41 rfl rfl ?_
    refine r_gx (fun zq6 => ?_)
    refine r_iald (pc := 42) (n := 6) (i0 := (ix a1)) (fun s => Std.k s (ltn (cm hn) (kj_Y_1 kcq5)) (kk_Y_1 kcq5)) zq6 rfl d_Clearing_choose_42 ?_
    refine r_aload_n (pc := 43) (i := 0) d_Clearing_choose_43 rfl rfl ?_
    refine r_gd (fun cq7 rcq7 kcq7 => ?_)
    refine r_getf (pc := 44) (ci := 3) (k := 3) (C := "CricketHay$Clearing") (T := F_3) (N := 8) (v := .ref cq7) (fun s => Std.k s (lc hn rfl) kq_376) rfl (Nat.le_of_ble_eq_true rfl) rfl w_379 (fun _ => vr rfl rcq7) d_Clearing_choose_44 ?_
    refine r_getf (pc := 47) (ci := 7) (k := 7) (C := "CricketHay$Market") (T := F_7) (N := 16) (v := .ref (cq7 + 8)) (fun s => Std.k s (ltn (cm hn) (kl_M kcq7)) kcq7) rfl (Nat.le_of_ble_eq_true rfl) rfl w_139 (fun s => vr rfl (Std.r s (ltn (cm hn) (kl_M kcq7)) (rr_M_7 kcq7))) d_Clearing_choose_47 ?_
    refine r_iload_n (pc := 50) (i := 1) d_Clearing_choose_50 rfl rfl ?_
    refine r_gx (fun zq8 => ?_)
    refine r_iald (pc := 51) (n := 6) (i0 := (ix a1)) (fun s => Std.k s (ltn (cm hn) (kj_M_7 kcq7)) (kk_M_7 kcq7)) zq8 rfl d_Clearing_choose_51 ?_
    refine r_icmp_lt (pc := 52) (tgt := 56) d_Clearing_choose_52 (by rfl) ?_ ?_
    · refine r_iconst (pc := 56) (v := 0) d_Clearing_choose_56 (by rfl) ?_
      refine r_istore (pc := 57) (lv1 := [some (.ref 376), some (.int a1), some (.int a2), some (.int a3), some (.int (0 : Int32)), none]) d_Clearing_choose_57 (Nat.le_of_ble_eq_true rfl) rfl ?_
      exact r_wk (o_Clearing_choose_l59 hn hrec FU (0 : Int32) hq4) ⟨rfl, ⟨rfl, ⟨rfl, ⟨rfl, ⟨rfl, trivial⟩⟩⟩⟩⟩
    · exact r_vret (pc := 55) rfl d_Clearing_choose_55
  · refine r_aload_n (pc := 11) (i := 0) d_Clearing_choose_11 rfl rfl ?_
    refine r_iload_n (pc := 12) (i := 2) d_Clearing_choose_12 rfl rfl ?_
    refine r_iload_n (pc := 13) (i := 3) d_Clearing_choose_13 rfl rfl ?_
    refine r_cVv (pc := 14) (T := F_3) (N := 8) (st := []) (ok_Clearing_compare hn a2 a3 h) (fun s => Std.k s (lc hn rfl) kq_376) rfl w_876 w_11 w_873 w_875 ws_33 hy_Clearing_compare (hf_of (d2 := 2) (D := dr + 3) (by omega) (Nat.le_of_ble_eq_true rfl)) ⟨Nat.le_of_ble_eq_true rfl, Nat.le_of_ble_eq_true rfl⟩ rfl (Nat.le_of_ble_eq_true rfl) d_Clearing_choose_14 (fun hq9 => ?_)
    exact r_vret (pc := 17) rfl d_Clearing_choose_17

theorem ok_Clearing_choose {G : AE} {n : Nat} (hn : NN ≤ n) : ∀ (d : Nat) (a1 a2 a3 : Int32) (h : AH), OK G n y_Clearing_choose (3 * d) φV [.ref 376, .int a1, .int a2, .int a3] h (f_Clearing_choose d a1 a2 a3 h) := by
  intro d
  induction d with
  | zero => intro a1 a2 a3 h a hX; cases hX
  | succ d ih => intro a1 a2 a3 h; exact ok_Clearing_choose_e hn (dr := 3 * d) ih a1 a2 a3 h

def f_Clearing_settle_l28  (a1 : Nat) (a2 : Nat)  : Nat → Int32 → AH → Option AH
  | 0, _, _ => none
  | n + 1, x4, h =>
    gd h 376 3 7 fun cq1 =>
    if (hI h cq1 11) ≤ x4 then
      bV (f_Clearing_choose 8 (0 : Int32) (0 : Int32) (0 : Int32) h) fun hq2 =>
      some hq2
    else
      gd h 376 4 10 fun cq3 =>
      gx x4 6 <|
      gd h 376 3 7 fun cq5 =>
      gx x4 6 <|
      gx x4 6 <|
      lt (sI h 377 (ix x4) ((hI h (cq3 + 2) (ix x4)) - (hI h (cq5 + 8) (ix x4)))) fun hq8 =>
      lt (x4 + (1 : Int32)) fun xq9 =>
      f_Clearing_settle_l28 a1 a2 n xq9 hq8
set_option maxHeartbeats 2000000 in
theorem o_Clearing_settle_l28 {G : AE} {n : Nat} (hn : NN ≤ n)  {a1 : Nat} {a2 : Nat} (ha1 : kdF a1 = .inr 7) (ha2 : kdF a2 = .inr 10)  : ∀ (n0 : Nat) (x4 : Int32) (h : AH), AJ G n y_Clearing_settle (25) φV 28 [some (.ref 376), none, none, none, some (.int x4)] [] h (f_Clearing_settle_l28 a1 a2 n0 x4 h) := by
  intro n0
  induction n0 with
  | zero => intros; exact r_none
  | succ n0 ih =>
    intro x4 h
    rw [f_Clearing_settle_l28]
    refine r_iload (pc := 28) d_Clearing_settle_28 rfl ?_
    refine r_aload_n (pc := 30) (i := 0) d_Clearing_settle_30 rfl rfl ?_
    refine r_gd (fun cq1 rcq1 kcq1 => ?_)
    refine r_getf (pc := 31) (ci := 3) (k := 3) (C := "CricketHay$Clearing") (T := F_3) (N := 8) (v := .ref cq1) (fun s => Std.k s (lc hn rfl) kq_376) rfl (Nat.le_of_ble_eq_true rfl) rfl w_379 (fun _ => vr rfl rcq1) d_Clearing_settle_31 ?_
    refine r_getf (pc := 34) (ci := 7) (k := 11) (C := "CricketHay$Market") (T := F_7) (N := 16) (v := .int (hI h cq1 11)) (fun s => Std.k s (ltn (cm hn) (kl_M kcq1)) kcq1) rfl (Nat.le_of_ble_eq_true rfl) rfl w_154 (fun _ => rfl) d_Clearing_settle_34 ?_
    refine r_icmp_ge (pc := 37) (tgt := 74) d_Clearing_settle_37 (by rfl) ?_ ?_
    · refine r_aload_n (pc := 74) (i := 0) d_Clearing_settle_74 rfl rfl ?_
      refine r_iconst (pc := 75) (v := 0) d_Clearing_settle_75 (by rfl) ?_
      refine r_iconst (pc := 76) (v := 0) d_Clearing_settle_76 (by rfl) ?_
      refine r_iconst (pc := 77) (v := 0) d_Clearing_settle_77 (by rfl) ?_
      refine r_cVv (pc := 78) (T := F_3) (N := 8) (st := []) (ok_Clearing_choose hn 8 (0 : Int32) (0 : Int32) (0 : Int32) h) (fun s => Std.k s (lc hn rfl) kq_376) rfl w_872 w_11 w_869 w_871 ws_32 hy_Clearing_choose ⟨Nat.le_of_ble_eq_true rfl, Nat.le_of_ble_eq_true rfl⟩ ⟨Nat.le_of_ble_eq_true rfl, Nat.le_of_ble_eq_true rfl⟩ rfl (Nat.le_of_ble_eq_true rfl) d_Clearing_settle_78 (fun hq2 => ?_)
      exact r_vret (pc := 81) rfl d_Clearing_settle_81
    · refine r_aload_n (pc := 40) (i := 0) d_Clearing_settle_40 rfl rfl ?_
      refine r_getf (pc := 41) (ci := 3) (k := 0) (C := "CricketHay$Clearing") (T := F_3) (N := 8) (v := .ref 377) (fun s => Std.k s (lc hn rfl) kq_376) rfl (Nat.le_of_ble_eq_true rfl) rfl w_375 (fun s => vr rfl (Std.r s (lc hn rfl) rq_376_0)) d_Clearing_settle_41 ?_
      refine r_iload (pc := 44) d_Clearing_settle_44 rfl ?_
      refine r_aload_n (pc := 46) (i := 0) d_Clearing_settle_46 rfl rfl ?_
      refine r_gd (fun cq3 rcq3 kcq3 => ?_)
      refine r_getf (pc := 47) (ci := 3) (k := 4) (C := "CricketHay$Clearing") (T := F_3) (N := 8) (v := .ref cq3) (fun s => Std.k s (lc hn rfl) kq_376) rfl (Nat.le_of_ble_eq_true rfl) rfl w_380 (fun _ => vr rfl rcq3) d_Clearing_settle_47 ?_
      refine r_getf (pc := 50) (ci := 10) (k := 1) (C := "CricketHay$Yard") (T := F_10) (N := 10) (v := .ref (cq3 + 2)) (fun s => Std.k s (ltn (cm hn) (kl_Y kcq3)) kcq3) rfl (Nat.le_of_ble_eq_true rfl) rfl w_214 (fun s => vr rfl (Std.r s (ltn (cm hn) (kl_Y kcq3)) (rr_Y_1 kcq3))) d_Clearing_settle_50 ?_
      refine r_iload (pc := 53) d_Clearing_settle_53 rfl ?_
      refine r_gx (fun zq4 => ?_)
      refine r_iald (pc := 55) (n := 6) (i0 := (ix x4)) (fun s => Std.k s (ltn (cm hn) (kj_Y_1 kcq3)) (kk_Y_1 kcq3)) zq4 rfl d_Clearing_settle_55 ?_
      refine r_aload_n (pc := 56) (i := 0) d_Clearing_settle_56 rfl rfl ?_
      refine r_gd (fun cq5 rcq5 kcq5 => ?_)
      refine r_getf (pc := 57) (ci := 3) (k := 3) (C := "CricketHay$Clearing") (T := F_3) (N := 8) (v := .ref cq5) (fun s => Std.k s (lc hn rfl) kq_376) rfl (Nat.le_of_ble_eq_true rfl) rfl w_379 (fun _ => vr rfl rcq5) d_Clearing_settle_57 ?_
      refine r_getf (pc := 60) (ci := 7) (k := 7) (C := "CricketHay$Market") (T := F_7) (N := 16) (v := .ref (cq5 + 8)) (fun s => Std.k s (ltn (cm hn) (kl_M kcq5)) kcq5) rfl (Nat.le_of_ble_eq_true rfl) rfl w_139 (fun s => vr rfl (Std.r s (ltn (cm hn) (kl_M kcq5)) (rr_M_7 kcq5))) d_Clearing_settle_60 ?_
      refine r_iload (pc := 63) d_Clearing_settle_63 rfl ?_
      refine r_gx (fun zq6 => ?_)
      refine r_iald (pc := 65) (n := 6) (i0 := (ix x4)) (fun s => Std.k s (ltn (cm hn) (kj_M_7 kcq5)) (kk_M_7 kcq5)) zq6 rfl d_Clearing_settle_65 ?_
      refine r_isub (pc := 66) d_Clearing_settle_66 ?_
      refine r_gx (fun zq7 => ?_)
      refine r_iast (pc := 67) (n := 6) (i0 := (ix x4)) (fun s => Std.k s (lc hn rfl) kq_377) zq7 rfl (fun s => Std.sI s _ _ _) d_Clearing_settle_67 ?_
      refine r_ltH (fun hq8 => ?_)
      refine r_ltE (fun xq9 exq9 => ?_)
      refine r_iinc (pc := 68) (v := xq9) (lv1 := [some (.ref 376), none, none, none, some (.int xq9)]) d_Clearing_settle_68 rfl exq9.symm (Nat.le_of_ble_eq_true rfl) rfl ?_
      refine r_goto (pc := 71) (tgt := 28) d_Clearing_settle_71 (by rfl) ?_
      exact r_wk (ih xq9 hq8) ⟨rfl, ⟨rfl, trivial⟩⟩
def f_Clearing_settle  (a1 : Nat) (a2 : Nat) (h : AH) : Option AH :=
  lt (sR h 376 3 (some a1)) fun hq1 =>
  lt (sR hq1 376 4 (some a2)) fun hq2 =>
  lt (sR hq2 376 5 (some 51)) fun hq3 =>
  lt (sI hq3 376 6 (-1 : Int32)) fun hq4 =>
  lt (sI hq4 376 7 (0 : Int32)) fun hq5 =>
  f_Clearing_settle_l28 a1 a2 FU (0 : Int32) hq5
set_option maxHeartbeats 2000000 in
theorem ok_Clearing_settle {G : AE} {n : Nat} (hn : NN ≤ n)  (a1 : Nat) (ha1 : kdF a1 = .inr 7) (a2 : Nat) (ha2 : kdF a2 = .inr 10) (h : AH) : OK G n y_Clearing_settle (25) φV [.ref 376, .ref a1, .ref a2, .ref 51] h (f_Clearing_settle a1 a2 h) := by
  refine ok_of (y := y_Clearing_settle) (lv0 := [some (.ref 376), some (.ref a1), some (.ref a2), some (.ref 51), none]) (by decide +kernel) (Nat.le_of_ble_eq_true rfl) ⟨rfl, ⟨rfl, ⟨rfl, ⟨rfl, trivial⟩⟩⟩⟩ ?_
  rw [f_Clearing_settle]
  refine r_aload_n (pc := 0) (i := 0) d_Clearing_settle_0 rfl rfl ?_
  refine r_aload_n (pc := 1) (i := 1) d_Clearing_settle_1 rfl rfl ?_
  refine r_putR (pc := 2) (ci := 3) (k := 3) (C := "CricketHay$Clearing") (T := F_3) (N := 8) (fun s => Std.k s (lc hn rfl) kq_376) rfl (Nat.le_of_ble_eq_true rfl) rfl rfl w_379 (fun _ _ => rfl) (fun _ => rfl) (fun _ => rfl) (fun s => Std.sR s _ _ _ (by decide +kernel)) d_Clearing_settle_2 ?_
  refine r_ltH (fun hq1 => ?_)
  refine r_aload_n (pc := 5) (i := 0) d_Clearing_settle_5 rfl rfl ?_
  refine r_aload_n (pc := 6) (i := 2) d_Clearing_settle_6 rfl rfl ?_
  refine r_putR (pc := 7) (ci := 3) (k := 4) (C := "CricketHay$Clearing") (T := F_3) (N := 8) (fun s => Std.k s (lc hn rfl) kq_376) rfl (Nat.le_of_ble_eq_true rfl) rfl rfl w_380 (fun _ _ => rfl) (fun _ => rfl) (fun _ => rfl) (fun s => Std.sR s _ _ _ (by decide +kernel)) d_Clearing_settle_7 ?_
  refine r_ltH (fun hq2 => ?_)
  refine r_aload_n (pc := 10) (i := 0) d_Clearing_settle_10 rfl rfl ?_
  refine r_aload_n (pc := 11) (i := 3) d_Clearing_settle_11 rfl rfl ?_
  refine r_putR (pc := 12) (ci := 3) (k := 5) (C := "CricketHay$Clearing") (T := F_3) (N := 8) (fun s => Std.k s (lc hn rfl) kq_376) rfl (Nat.le_of_ble_eq_true rfl) rfl rfl w_381 (fun _ _ => rfl) (fun _ => rfl) (fun _ => rfl) (fun s => Std.sR s _ _ _ (by decide +kernel)) d_Clearing_settle_12 ?_
  refine r_ltH (fun hq3 => ?_)
  refine r_aload_n (pc := 15) (i := 0) d_Clearing_settle_15 rfl rfl ?_
  refine r_iconst (pc := 16) (v := -1) d_Clearing_settle_16 (by rfl) ?_
  refine r_putI (pc := 17) (ci := 3) (k := 6) (C := "CricketHay$Clearing") (T := F_3) (N := 8) (fun s => Std.k s (lc hn rfl) kq_376) rfl (Nat.le_of_ble_eq_true rfl) rfl rfl w_382 (fun _ _ => rfl) (fun _ => rfl) (fun _ => rfl) (fun s => Std.sI s _ _ _) d_Clearing_settle_17 ?_
  refine r_ltH (fun hq4 => ?_)
  refine r_aload_n (pc := 20) (i := 0) d_Clearing_settle_20 rfl rfl ?_
  refine r_iconst (pc := 21) (v := 0) d_Clearing_settle_21 (by rfl) ?_
  refine r_putI (pc := 22) (ci := 3) (k := 7) (C := "CricketHay$Clearing") (T := F_3) (N := 8) (fun s => Std.k s (lc hn rfl) kq_376) rfl (Nat.le_of_ble_eq_true rfl) rfl rfl w_384 (fun _ _ => rfl) (fun _ => rfl) (fun _ => rfl) (fun s => Std.sI s _ _ _) d_Clearing_settle_22 ?_
  refine r_ltH (fun hq5 => ?_)
  refine r_iconst (pc := 25) (v := 0) d_Clearing_settle_25 (by rfl) ?_
  refine r_istore (pc := 26) (lv1 := [some (.ref 376), some (.ref a1), some (.ref a2), some (.ref 51), some (.int (0 : Int32))]) d_Clearing_settle_26 (Nat.le_of_ble_eq_true rfl) rfl ?_
  exact r_wk (o_Clearing_settle_l28 hn ha1 ha2 FU (0 : Int32) hq5) ⟨rfl, ⟨rfl, trivial⟩⟩

def f_H_clear_l54  (a1 : Int32)  : Nat → Int32 → AH → Option (Int32 × AH)
  | 0, _, _ => none
  | n + 1, x2, h =>
    gd h 0 1 7 fun cq1 =>
    if (hI h cq1 11) ≤ x2 then
      if ¬ a1 = 0 then
        some ((hI h 376 7), h)
      else
        some ((hI h 376 6), h)
    else
      gx x2 6 <|
      bV (f_Lie_add (hI h 379 (ix x2)) h) fun hq3 =>
      lt (x2 + (1 : Int32)) fun xq4 =>
      f_H_clear_l54 a1 n xq4 hq3
set_option maxHeartbeats 2000000 in
theorem o_H_clear_l54 {G : AE} {n : Nat} (hn : NN ≤ n)  {a1 : Int32}   : ∀ (n0 : Nat) (x2 : Int32) (h : AH), AJ G n y_H_clear (26) φI 54 [some (.ref 0), some (.int a1), some (.int x2)] [] h (f_H_clear_l54 a1 n0 x2 h) := by
  intro n0
  induction n0 with
  | zero => intros; exact r_none
  | succ n0 ih =>
    intro x2 h
    rw [f_H_clear_l54]
    refine r_iload_n (pc := 54) (i := 2) d_H_clear_54 rfl rfl ?_
    refine r_aload_n (pc := 55) (i := 0) d_H_clear_55 rfl rfl ?_
    refine r_gd (fun cq1 rcq1 kcq1 => ?_)
    refine r_getf (pc := 56) (ci := 11) (k := 1) (C := "CricketHay") (T := F_11) (N := 13) (v := .ref cq1) (fun s => Std.k s (lc hn rfl) kq_0) rfl (Nat.le_of_ble_eq_true rfl) rfl w_423 (fun _ => vr rfl rcq1) d_H_clear_56 ?_
    refine r_getf (pc := 59) (ci := 7) (k := 11) (C := "CricketHay$Market") (T := F_7) (N := 16) (v := .int (hI h cq1 11)) (fun s => Std.k s (ltn (cm hn) (kl_M kcq1)) kcq1) rfl (Nat.le_of_ble_eq_true rfl) rfl w_155 (fun _ => rfl) d_H_clear_59 ?_
    refine r_icmp_ge (pc := 62) (tgt := 87) d_H_clear_62 (by rfl) ?_ ?_
    · refine r_iload_n (pc := 87) (i := 1) d_H_clear_87 rfl rfl ?_
      refine r_if_ne (pc := 88) (tgt := 101) d_H_clear_88 (by rfl) ?_ ?_
      · refine r_aload_n (pc := 101) (i := 0) d_H_clear_101 rfl rfl ?_
        refine r_getf (pc := 102) (ci := 11) (k := 10) (C := "CricketHay") (T := F_11) (N := 13) (v := .ref 376) (fun s => Std.k s (lc hn rfl) kq_0) rfl (Nat.le_of_ble_eq_true rfl) rfl w_432 (fun s => vr rfl (Std.r s (lc hn rfl) rq_0_10)) d_H_clear_102 ?_
        refine r_getf (pc := 105) (ci := 3) (k := 7) (C := "CricketHay$Clearing") (T := F_3) (N := 8) (v := .int (hI h 376 7)) (fun s => Std.k s (lc hn rfl) kq_376) rfl (Nat.le_of_ble_eq_true rfl) rfl w_385 (fun _ => rfl) d_H_clear_105 ?_
        exact r_iret (pc := 108) rfl d_H_clear_108
      · refine r_aload_n (pc := 91) (i := 0) d_H_clear_91 rfl rfl ?_
        refine r_getf (pc := 92) (ci := 11) (k := 10) (C := "CricketHay") (T := F_11) (N := 13) (v := .ref 376) (fun s => Std.k s (lc hn rfl) kq_0) rfl (Nat.le_of_ble_eq_true rfl) rfl w_432 (fun s => vr rfl (Std.r s (lc hn rfl) rq_0_10)) d_H_clear_92 ?_
        refine r_getf (pc := 95) (ci := 3) (k := 6) (C := "CricketHay$Clearing") (T := F_3) (N := 8) (v := .int (hI h 376 6)) (fun s => Std.k s (lc hn rfl) kq_376) rfl (Nat.le_of_ble_eq_true rfl) rfl w_383 (fun _ => rfl) d_H_clear_95 ?_
        refine r_goto (pc := 98) (tgt := 108) d_H_clear_98 (by rfl) ?_
        exact r_iret (pc := 108) rfl d_H_clear_108
    · refine r_aload_n (pc := 65) (i := 0) d_H_clear_65 rfl rfl ?_
      refine r_getf (pc := 66) (ci := 11) (k := 11) (C := "CricketHay") (T := F_11) (N := 13) (v := .ref 380) (fun s => Std.k s (lc hn rfl) kq_0) rfl (Nat.le_of_ble_eq_true rfl) rfl w_433 (fun s => vr rfl (Std.r s (lc hn rfl) rq_0_11)) d_H_clear_66 ?_
      refine r_aload_n (pc := 69) (i := 0) d_H_clear_69 rfl rfl ?_
      refine r_getf (pc := 70) (ci := 11) (k := 10) (C := "CricketHay") (T := F_11) (N := 13) (v := .ref 376) (fun s => Std.k s (lc hn rfl) kq_0) rfl (Nat.le_of_ble_eq_true rfl) rfl w_432 (fun s => vr rfl (Std.r s (lc hn rfl) rq_0_10)) d_H_clear_70 ?_
      refine r_getf (pc := 73) (ci := 3) (k := 2) (C := "CricketHay$Clearing") (T := F_3) (N := 8) (v := .ref 379) (fun s => Std.k s (lc hn rfl) kq_376) rfl (Nat.le_of_ble_eq_true rfl) rfl w_378 (fun s => vr rfl (Std.r s (lc hn rfl) rq_376_2)) d_H_clear_73 ?_
      refine r_iload_n (pc := 76) (i := 2) d_H_clear_76 rfl rfl ?_
      refine r_gx (fun zq2 => ?_)
      refine r_iald (pc := 77) (n := 6) (i0 := (ix x2)) (fun s => Std.k s (lc hn rfl) kq_379) zq2 rfl d_H_clear_77 ?_
      refine r_cVv (pc := 78) (T := F_6) (N := 2) (st := []) (ok_Lie_add hn (hI h 379 (ix x2)) h) (fun s => Std.k s (lc hn rfl) kq_380) rfl w_846 w_12 w_843 w_844 w_845 hy_Lie_add ⟨Nat.le_of_ble_eq_true rfl, Nat.le_of_ble_eq_true rfl⟩ ⟨Nat.le_of_ble_eq_true rfl, Nat.le_of_ble_eq_true rfl⟩ rfl (Nat.le_of_ble_eq_true rfl) d_H_clear_78 (fun hq3 => ?_)
      refine r_ltE (fun xq4 exq4 => ?_)
      refine r_iinc (pc := 81) (v := xq4) (lv1 := [some (.ref 0), some (.int a1), some (.int xq4)]) d_H_clear_81 rfl exq4.symm (Nat.le_of_ble_eq_true rfl) rfl ?_
      refine r_goto (pc := 84) (tgt := 54) d_H_clear_84 (by rfl) ?_
      exact r_wk (ih xq4 hq3) ⟨rfl, ⟨rfl, ⟨rfl, trivial⟩⟩⟩
def f_H_clear_b18  (a1 : Int32)   (h : AH) : Option (Int32 × AH) :=
  gd h 0 1 7 fun cq1 =>
  bV (f_Choir_tune cq1 37 h) fun hq2 =>
  gd hq2 0 1 7 fun cq3 =>
  bV (f_Clearing_settle cq3 37 hq2) fun hq4 =>
  f_H_clear_l54 a1 FU (0 : Int32) hq4
set_option maxHeartbeats 2000000 in
theorem o_H_clear_b18 {G : AE} {n : Nat} (hn : NN ≤ n)  {a1 : Int32}   : ∀  (h : AH), AJ G n y_H_clear (26) φI 18 [some (.ref 0), some (.int a1), none] [] h (f_H_clear_b18 a1 h) := by
  intro  h
  rw [f_H_clear_b18]
  refine r_aload_n (pc := 18) (i := 0) d_H_clear_18 rfl rfl ?_
  refine r_getf (pc := 19) (ci := 11) (k := 5) (C := "CricketHay") (T := F_11) (N := 13) (v := .ref 51) (fun s => Std.k s (lc hn rfl) kq_0) rfl (Nat.le_of_ble_eq_true rfl) rfl w_427 (fun s => vr rfl (Std.r s (lc hn rfl) rq_0_5)) d_H_clear_19 ?_
  refine r_aload_n (pc := 22) (i := 0) d_H_clear_22 rfl rfl ?_
  refine r_gd (fun cq1 rcq1 kcq1 => ?_)
  refine r_getf (pc := 23) (ci := 11) (k := 1) (C := "CricketHay") (T := F_11) (N := 13) (v := .ref cq1) (fun s => Std.k s (lc hn rfl) kq_0) rfl (Nat.le_of_ble_eq_true rfl) rfl w_423 (fun _ => vr rfl rcq1) d_H_clear_23 ?_
  refine r_aload_n (pc := 26) (i := 0) d_H_clear_26 rfl rfl ?_
  refine r_getf (pc := 27) (ci := 11) (k := 3) (C := "CricketHay") (T := F_11) (N := 13) (v := .ref 37) (fun s => Std.k s (lc hn rfl) kq_0) rfl (Nat.le_of_ble_eq_true rfl) rfl w_425 (fun s => vr rfl (Std.r s (lc hn rfl) rq_0_3)) d_H_clear_27 ?_
  refine r_cVv (pc := 30) (T := F_2) (N := 2) (st := []) (ok_Choir_tune hn cq1 kcq1 37 kq_37 h) (fun s => Std.k s (lc hn rfl) kq_51) rfl w_668 w_6 w_665 w_666 w_667 hy_Choir_tune ⟨Nat.le_of_ble_eq_true rfl, Nat.le_of_ble_eq_true rfl⟩ ⟨Nat.le_of_ble_eq_true rfl, Nat.le_of_ble_eq_true rfl⟩ rfl (Nat.le_of_ble_eq_true rfl) d_H_clear_30 (fun hq2 => ?_)
  refine r_aload_n (pc := 33) (i := 0) d_H_clear_33 rfl rfl ?_
  refine r_getf (pc := 34) (ci := 11) (k := 10) (C := "CricketHay") (T := F_11) (N := 13) (v := .ref 376) (fun s => Std.k s (lc hn rfl) kq_0) rfl (Nat.le_of_ble_eq_true rfl) rfl w_432 (fun s => vr rfl (Std.r s (lc hn rfl) rq_0_10)) d_H_clear_34 ?_
  refine r_aload_n (pc := 37) (i := 0) d_H_clear_37 rfl rfl ?_
  refine r_gd (fun cq3 rcq3 kcq3 => ?_)
  refine r_getf (pc := 38) (ci := 11) (k := 1) (C := "CricketHay") (T := F_11) (N := 13) (v := .ref cq3) (fun s => Std.k s (lc hn rfl) kq_0) rfl (Nat.le_of_ble_eq_true rfl) rfl w_423 (fun _ => vr rfl rcq3) d_H_clear_38 ?_
  refine r_aload_n (pc := 41) (i := 0) d_H_clear_41 rfl rfl ?_
  refine r_getf (pc := 42) (ci := 11) (k := 3) (C := "CricketHay") (T := F_11) (N := 13) (v := .ref 37) (fun s => Std.k s (lc hn rfl) kq_0) rfl (Nat.le_of_ble_eq_true rfl) rfl w_425 (fun s => vr rfl (Std.r s (lc hn rfl) rq_0_3)) d_H_clear_42 ?_
  refine r_aload_n (pc := 45) (i := 0) d_H_clear_45 rfl rfl ?_
  refine r_getf (pc := 46) (ci := 11) (k := 5) (C := "CricketHay") (T := F_11) (N := 13) (v := .ref 51) (fun s => Std.k s (lc hn rfl) kq_0) rfl (Nat.le_of_ble_eq_true rfl) rfl w_427 (fun s => vr rfl (Std.r s (lc hn rfl) rq_0_5)) d_H_clear_46 ?_
  refine r_cVv (pc := 49) (T := F_3) (N := 8) (st := []) (ok_Clearing_settle hn cq3 kcq3 37 kq_37 hq2) (fun s => Std.k s (lc hn rfl) kq_376) rfl w_868 w_11 w_865 w_866 w_867 hy_Clearing_settle ⟨Nat.le_of_ble_eq_true rfl, Nat.le_of_ble_eq_true rfl⟩ ⟨Nat.le_of_ble_eq_true rfl, Nat.le_of_ble_eq_true rfl⟩ rfl (Nat.le_of_ble_eq_true rfl) d_H_clear_49 (fun hq4 => ?_)
  refine r_iconst (pc := 52) (v := 0) d_H_clear_52 (by rfl) ?_
  refine r_istore_n (pc := 53) (i := 2) (lv1 := [some (.ref 0), some (.int a1), some (.int (0 : Int32))]) d_H_clear_53 rfl (Nat.le_of_ble_eq_true rfl) rfl ?_
  exact r_wk (o_H_clear_l54 hn FU (0 : Int32) hq4) ⟨rfl, ⟨rfl, ⟨rfl, trivial⟩⟩⟩
def f_H_clear  (a1 : Int32) (h : AH) : Option (Int32 × AH) :=
  bV (f_Lie_wipe h) fun hq1 =>
  if a1 = 0 then
    f_H_clear_b18 a1 hq1
  else
    if a1 = (1 : Int32) then
      f_H_clear_b18 a1 hq1
    else
      some ((-1 : Int32), hq1)
set_option maxHeartbeats 2000000 in
theorem ok_H_clear {G : AE} {n : Nat} (hn : NN ≤ n)  (a1 : Int32) (h : AH) : OK G n y_H_clear (26) φI [.ref 0, .int a1] h (f_H_clear a1 h) := by
  refine ok_of (y := y_H_clear) (lv0 := [some (.ref 0), some (.int a1), none]) (by decide +kernel) (Nat.le_of_ble_eq_true rfl) ⟨rfl, ⟨rfl, trivial⟩⟩ ?_
  rw [f_H_clear]
  refine r_aload_n (pc := 0) (i := 0) d_H_clear_0 rfl rfl ?_
  refine r_getf (pc := 1) (ci := 11) (k := 11) (C := "CricketHay") (T := F_11) (N := 13) (v := .ref 380) (fun s => Std.k s (lc hn rfl) kq_0) rfl (Nat.le_of_ble_eq_true rfl) rfl w_433 (fun s => vr rfl (Std.r s (lc hn rfl) rq_0_11)) d_H_clear_1 ?_
  refine r_cVv (pc := 4) (T := F_6) (N := 2) (st := []) (ok_Lie_wipe hn h) (fun s => Std.k s (lc hn rfl) kq_380) rfl w_651 w_12 w_648 w_649 w_650 hy_Lie_wipe ⟨Nat.le_of_ble_eq_true rfl, Nat.le_of_ble_eq_true rfl⟩ ⟨Nat.le_of_ble_eq_true rfl, Nat.le_of_ble_eq_true rfl⟩ rfl (Nat.le_of_ble_eq_true rfl) d_H_clear_4 (fun hq1 => ?_)
  refine r_iload_n (pc := 7) (i := 1) d_H_clear_7 rfl rfl ?_
  refine r_if_eq (pc := 8) (tgt := 18) d_H_clear_8 (by rfl) ?_ ?_
  · exact r_wk (o_H_clear_b18 hn hq1) ⟨rfl, ⟨rfl, trivial⟩⟩
  · refine r_iload_n (pc := 11) (i := 1) d_H_clear_11 rfl rfl ?_
    refine r_iconst (pc := 12) (v := 1) d_H_clear_12 (by rfl) ?_
    refine r_icmp_eq (pc := 13) (tgt := 18) d_H_clear_13 (by rfl) ?_ ?_
    · exact r_wk (o_H_clear_b18 hn hq1) ⟨rfl, ⟨rfl, trivial⟩⟩
    · refine r_iconst (pc := 16) (v := -1) d_H_clear_16 (by rfl) ?_
      exact r_iret (pc := 17) rfl d_H_clear_17

def f_Choir_byLaw  (a1 : Int32) (a2 : Int32) (a3 : Int32) (h : AH) : Option (Int32 × AH) :=
  if a1 = (1 : Int32) then
    gx a2 6 <|
    gx a3 6 <|
    some ((mx (hI h 52 (ix a2)) (hI h 52 (ix a3))), h)
  else
  if a1 = (2 : Int32) then
    gx a2 6 <|
    gx a3 6 <|
    some ((mn (hI h 52 (ix a2)) (hI h 52 (ix a3))), h)
  else
  if a1 = (3 : Int32) then
    gx a2 6 <|
    gx a3 6 <|
    some (((hI h 52 (ix a2)) + (hI h 52 (ix a3))), h)
  else
    bI (f_Choir_half a2 a3 h) fun rq10 hq11 =>
    some (rq10, hq11)
set_option maxHeartbeats 2000000 in
theorem ok_Choir_byLaw {G : AE} {n : Nat} (hn : NN ≤ n)  (a1 : Int32) (a2 : Int32) (a3 : Int32) (h : AH) : OK G n y_Choir_byLaw (2) φI [.ref 51, .int a1, .int a2, .int a3] h (f_Choir_byLaw a1 a2 a3 h) := by
  refine ok_of (y := y_Choir_byLaw) (lv0 := [some (.ref 51), some (.int a1), some (.int a2), some (.int a3)]) (by decide +kernel) (Nat.le_of_ble_eq_true rfl) ⟨rfl, ⟨rfl, ⟨rfl, ⟨rfl, trivial⟩⟩⟩⟩ ?_
  rw [f_Choir_byLaw]
  refine r_iload_n (pc := 0) (i := 1) d_Choir_byLaw_0 rfl rfl ?_
  refine r_split (fun cq1 => ?_) (fun cq1 => ?_)
  · refine r_tableIn (pc := 1) (tgt := 28) d_Choir_byLaw_1 (by rw [cq1]; decide) (by rw [cq1]; decide) (by rw [cq1] <;> rfl) (by rfl) ?_
    refine r_aload_n (pc := 28) (i := 0) d_Choir_byLaw_28 rfl rfl ?_
    refine r_getf (pc := 29) (ci := 2) (k := 0) (C := "CricketHay$Choir") (T := F_2) (N := 2) (v := .ref 52) (fun s => Std.k s (lc hn rfl) kq_51) rfl (Nat.le_of_ble_eq_true rfl) rfl w_266 (fun s => vr rfl (Std.r s (lc hn rfl) rq_51_0)) d_Choir_byLaw_29 ?_
    refine r_iload_n (pc := 32) (i := 2) d_Choir_byLaw_32 rfl rfl ?_
    refine r_gx (fun zq2 => ?_)
    refine r_iald (pc := 33) (n := 6) (i0 := (ix a2)) (fun s => Std.k s (lc hn rfl) kq_52) zq2 rfl d_Choir_byLaw_33 ?_
    refine r_aload_n (pc := 34) (i := 0) d_Choir_byLaw_34 rfl rfl ?_
    refine r_getf (pc := 35) (ci := 2) (k := 0) (C := "CricketHay$Choir") (T := F_2) (N := 2) (v := .ref 52) (fun s => Std.k s (lc hn rfl) kq_51) rfl (Nat.le_of_ble_eq_true rfl) rfl w_266 (fun s => vr rfl (Std.r s (lc hn rfl) rq_51_0)) d_Choir_byLaw_35 ?_
    refine r_iload_n (pc := 38) (i := 3) d_Choir_byLaw_38 rfl rfl ?_
    refine r_gx (fun zq3 => ?_)
    refine r_iald (pc := 39) (n := 6) (i0 := (ix a3)) (fun s => Std.k s (lc hn rfl) kq_52) zq3 rfl d_Choir_byLaw_39 ?_
    refine r_mmax (pc := 40) w_892 w_698 w_18 w_699 (Nat.le_of_ble_eq_true rfl) (Nat.le_of_ble_eq_true rfl) ⟨Nat.le_of_ble_eq_true rfl, Nat.le_of_ble_eq_true rfl⟩ d_Choir_byLaw_40 ?_
    exact r_iret (pc := 43) rfl d_Choir_byLaw_43
  refine r_split (fun cq4 => ?_) (fun cq4 => ?_)
  · refine r_tableIn (pc := 1) (tgt := 44) d_Choir_byLaw_1 (by rw [cq4]; decide) (by rw [cq4]; decide) (by rw [cq4] <;> rfl) (by rfl) ?_
    refine r_aload_n (pc := 44) (i := 0) d_Choir_byLaw_44 rfl rfl ?_
    refine r_getf (pc := 45) (ci := 2) (k := 0) (C := "CricketHay$Choir") (T := F_2) (N := 2) (v := .ref 52) (fun s => Std.k s (lc hn rfl) kq_51) rfl (Nat.le_of_ble_eq_true rfl) rfl w_266 (fun s => vr rfl (Std.r s (lc hn rfl) rq_51_0)) d_Choir_byLaw_45 ?_
    refine r_iload_n (pc := 48) (i := 2) d_Choir_byLaw_48 rfl rfl ?_
    refine r_gx (fun zq5 => ?_)
    refine r_iald (pc := 49) (n := 6) (i0 := (ix a2)) (fun s => Std.k s (lc hn rfl) kq_52) zq5 rfl d_Choir_byLaw_49 ?_
    refine r_aload_n (pc := 50) (i := 0) d_Choir_byLaw_50 rfl rfl ?_
    refine r_getf (pc := 51) (ci := 2) (k := 0) (C := "CricketHay$Choir") (T := F_2) (N := 2) (v := .ref 52) (fun s => Std.k s (lc hn rfl) kq_51) rfl (Nat.le_of_ble_eq_true rfl) rfl w_266 (fun s => vr rfl (Std.r s (lc hn rfl) rq_51_0)) d_Choir_byLaw_51 ?_
    refine r_iload_n (pc := 54) (i := 3) d_Choir_byLaw_54 rfl rfl ?_
    refine r_gx (fun zq6 => ?_)
    refine r_iald (pc := 55) (n := 6) (i0 := (ix a3)) (fun s => Std.k s (lc hn rfl) kq_52) zq6 rfl d_Choir_byLaw_55 ?_
    refine r_mmin (pc := 56) w_893 w_695 w_18 w_696 (Nat.le_of_ble_eq_true rfl) (Nat.le_of_ble_eq_true rfl) ⟨Nat.le_of_ble_eq_true rfl, Nat.le_of_ble_eq_true rfl⟩ d_Choir_byLaw_56 ?_
    exact r_iret (pc := 59) rfl d_Choir_byLaw_59
  refine r_split (fun cq7 => ?_) (fun cq7 => ?_)
  · refine r_tableIn (pc := 1) (tgt := 60) d_Choir_byLaw_1 (by rw [cq7]; decide) (by rw [cq7]; decide) (by rw [cq7] <;> rfl) (by rfl) ?_
    refine r_aload_n (pc := 60) (i := 0) d_Choir_byLaw_60 rfl rfl ?_
    refine r_getf (pc := 61) (ci := 2) (k := 0) (C := "CricketHay$Choir") (T := F_2) (N := 2) (v := .ref 52) (fun s => Std.k s (lc hn rfl) kq_51) rfl (Nat.le_of_ble_eq_true rfl) rfl w_266 (fun s => vr rfl (Std.r s (lc hn rfl) rq_51_0)) d_Choir_byLaw_61 ?_
    refine r_iload_n (pc := 64) (i := 2) d_Choir_byLaw_64 rfl rfl ?_
    refine r_gx (fun zq8 => ?_)
    refine r_iald (pc := 65) (n := 6) (i0 := (ix a2)) (fun s => Std.k s (lc hn rfl) kq_52) zq8 rfl d_Choir_byLaw_65 ?_
    refine r_aload_n (pc := 66) (i := 0) d_Choir_byLaw_66 rfl rfl ?_
    refine r_getf (pc := 67) (ci := 2) (k := 0) (C := "CricketHay$Choir") (T := F_2) (N := 2) (v := .ref 52) (fun s => Std.k s (lc hn rfl) kq_51) rfl (Nat.le_of_ble_eq_true rfl) rfl w_266 (fun s => vr rfl (Std.r s (lc hn rfl) rq_51_0)) d_Choir_byLaw_67 ?_
    refine r_iload_n (pc := 70) (i := 3) d_Choir_byLaw_70 rfl rfl ?_
    refine r_gx (fun zq9 => ?_)
    refine r_iald (pc := 71) (n := 6) (i0 := (ix a3)) (fun s => Std.k s (lc hn rfl) kq_52) zq9 rfl d_Choir_byLaw_71 ?_
    refine r_iadd (pc := 72) d_Choir_byLaw_72 ?_
    exact r_iret (pc := 73) rfl d_Choir_byLaw_73
  refine r_tableD (pc := 1) (tgt := 74) d_Choir_byLaw_1 [1, 2, 3] (List.forall_mem_cons.mpr ⟨lv_neT cq1 (show ((1 : Int32)).toInt = 1 from rfl), List.forall_mem_cons.mpr ⟨lv_neT cq4 (show ((2 : Int32)).toInt = 2 from rfl), List.forall_mem_cons.mpr ⟨lv_neT cq7 (show ((3 : Int32)).toInt = 3 from rfl), List.forall_mem_nil _⟩⟩⟩) (by decide) (by rfl) ?_
  refine r_aload_n (pc := 74) (i := 0) d_Choir_byLaw_74 rfl rfl ?_
  refine r_iload_n (pc := 75) (i := 2) d_Choir_byLaw_75 rfl rfl ?_
  refine r_iload_n (pc := 76) (i := 3) d_Choir_byLaw_76 rfl rfl ?_
  refine r_cVi (pc := 77) (T := F_2) (N := 2) (st := []) (ok_Choir_half hn a2 a3 h) (fun s => Std.k s (lc hn rfl) kq_51) rfl w_726 w_6 w_894 w_724 w_725 hy_Choir_half ⟨Nat.le_of_ble_eq_true rfl, Nat.le_of_ble_eq_true rfl⟩ ⟨Nat.le_of_ble_eq_true rfl, Nat.le_of_ble_eq_true rfl⟩ rfl (Nat.le_of_ble_eq_true rfl) d_Choir_byLaw_77 (fun rq10 hq11 => ?_)
  exact r_iret (pc := 80) rfl d_Choir_byLaw_80

def f_Choir_allPrices_l17  (a1 : Int32) (k4 : Int32 → Int32 → AH → Option (Int32 × AH)) : Nat → Int32 → Int32 → Int32 → AH → Option (Int32 × AH)
  | 0, _, _, _, _ => none
  | n + 1, x2, x3, x4, h =>
    if (hI h 51 1) ≤ x4 then
      lt (x3 + (1 : Int32)) fun xq1 =>
      k4 x2 xq1 h
    else
      bI (f_Choir_byLaw a1 x3 x4 h) fun rq2 hq3 =>
      lt (x2 + rq2) fun xq4 =>
      lt (x4 + (1 : Int32)) fun xq5 =>
      f_Choir_allPrices_l17 a1 k4 n xq4 x3 xq5 hq3
set_option maxHeartbeats 2000000 in
theorem o_Choir_allPrices_l17 {G : AE} {n : Nat} (hn : NN ≤ n)  {a1 : Int32}  {k4 : Int32 → Int32 → AH → Option (Int32 × AH)} (hk4 : ∀ (x2 : Int32) (x3 : Int32) (h : AH), AJ G n y_Choir_allPrices (3) φI 4 [some (.ref 51), some (.int a1), some (.int x2), some (.int x3), none] [] h (k4 x2 x3 h)) : ∀ (n0 : Nat) (x2 : Int32) (x3 : Int32) (x4 : Int32) (h : AH), AJ G n y_Choir_allPrices (3) φI 17 [some (.ref 51), some (.int a1), some (.int x2), some (.int x3), some (.int x4)] [] h (f_Choir_allPrices_l17 a1 k4 n0 x2 x3 x4 h) := by
  intro n0
  induction n0 with
  | zero => intros; exact r_none
  | succ n0 ih =>
    intro x2 x3 x4 h
    rw [f_Choir_allPrices_l17]
    refine r_iload (pc := 17) d_Choir_allPrices_17 rfl ?_
    refine r_aload_n (pc := 19) (i := 0) d_Choir_allPrices_19 rfl rfl ?_
    refine r_getf (pc := 20) (ci := 2) (k := 1) (C := "CricketHay$Choir") (T := F_2) (N := 2) (v := .int (hI h 51 1)) (fun s => Std.k s (lc hn rfl) kq_51) rfl (Nat.le_of_ble_eq_true rfl) rfl w_268 (fun _ => rfl) d_Choir_allPrices_20 ?_
    refine r_icmp_ge (pc := 23) (tgt := 43) d_Choir_allPrices_23 (by rfl) ?_ ?_
    · refine r_ltE (fun xq1 exq1 => ?_)
      refine r_iinc (pc := 43) (v := xq1) (lv1 := [some (.ref 51), some (.int a1), some (.int x2), some (.int xq1), some (.int x4)]) d_Choir_allPrices_43 rfl exq1.symm (Nat.le_of_ble_eq_true rfl) rfl ?_
      refine r_goto (pc := 46) (tgt := 4) d_Choir_allPrices_46 (by rfl) ?_
      exact r_wk (hk4 x2 xq1 h) ⟨rfl, ⟨rfl, ⟨rfl, ⟨rfl, trivial⟩⟩⟩⟩
    · refine r_iload_n (pc := 26) (i := 2) d_Choir_allPrices_26 rfl rfl ?_
      refine r_aload_n (pc := 27) (i := 0) d_Choir_allPrices_27 rfl rfl ?_
      refine r_iload_n (pc := 28) (i := 1) d_Choir_allPrices_28 rfl rfl ?_
      refine r_iload_n (pc := 29) (i := 3) d_Choir_allPrices_29 rfl rfl ?_
      refine r_iload (pc := 30) d_Choir_allPrices_30 rfl ?_
      refine r_cVi (pc := 32) (T := F_2) (N := 2) (st := [.int x2]) (ok_Choir_byLaw hn a1 x3 x4 h) (fun s => Std.k s (lc hn rfl) kq_51) rfl w_891 w_6 w_888 w_890 ws_34 hy_Choir_byLaw ⟨Nat.le_of_ble_eq_true rfl, Nat.le_of_ble_eq_true rfl⟩ ⟨Nat.le_of_ble_eq_true rfl, Nat.le_of_ble_eq_true rfl⟩ rfl (Nat.le_of_ble_eq_true rfl) d_Choir_allPrices_32 (fun rq2 hq3 => ?_)
      refine r_iadd (pc := 35) d_Choir_allPrices_35 ?_
      refine r_ltI (fun xq4 => ?_)
      refine r_istore_n (pc := 36) (i := 2) (lv1 := [some (.ref 51), some (.int a1), some (.int xq4), some (.int x3), some (.int x4)]) d_Choir_allPrices_36 rfl (Nat.le_of_ble_eq_true rfl) rfl ?_
      refine r_ltE (fun xq5 exq5 => ?_)
      refine r_iinc (pc := 37) (v := xq5) (lv1 := [some (.ref 51), some (.int a1), some (.int xq4), some (.int x3), some (.int xq5)]) d_Choir_allPrices_37 rfl exq5.symm (Nat.le_of_ble_eq_true rfl) rfl ?_
      refine r_goto (pc := 40) (tgt := 17) d_Choir_allPrices_40 (by rfl) ?_
      exact r_wk (ih xq4 x3 xq5 hq3) ⟨rfl, ⟨rfl, ⟨rfl, ⟨rfl, ⟨rfl, trivial⟩⟩⟩⟩⟩
def f_Choir_allPrices_l4  (a1 : Int32)  : Nat → Int32 → Int32 → AH → Option (Int32 × AH)
  | 0, _, _, _ => none
  | n + 1, x2, x3, h =>
    if (hI h 51 1) ≤ x3 then
      some (x2, h)
    else
      lt (x3 + (1 : Int32)) fun xq1 =>
      f_Choir_allPrices_l17 a1 (f_Choir_allPrices_l4 a1 n) FU x2 x3 xq1 h
set_option maxHeartbeats 2000000 in
theorem o_Choir_allPrices_l4 {G : AE} {n : Nat} (hn : NN ≤ n)  {a1 : Int32}   : ∀ (n0 : Nat) (x2 : Int32) (x3 : Int32) (h : AH), AJ G n y_Choir_allPrices (3) φI 4 [some (.ref 51), some (.int a1), some (.int x2), some (.int x3), none] [] h (f_Choir_allPrices_l4 a1 n0 x2 x3 h) := by
  intro n0
  induction n0 with
  | zero => intros; exact r_none
  | succ n0 ih =>
    intro x2 x3 h
    rw [f_Choir_allPrices_l4]
    refine r_iload_n (pc := 4) (i := 3) d_Choir_allPrices_4 rfl rfl ?_
    refine r_aload_n (pc := 5) (i := 0) d_Choir_allPrices_5 rfl rfl ?_
    refine r_getf (pc := 6) (ci := 2) (k := 1) (C := "CricketHay$Choir") (T := F_2) (N := 2) (v := .int (hI h 51 1)) (fun s => Std.k s (lc hn rfl) kq_51) rfl (Nat.le_of_ble_eq_true rfl) rfl w_268 (fun _ => rfl) d_Choir_allPrices_6 ?_
    refine r_icmp_ge (pc := 9) (tgt := 49) d_Choir_allPrices_9 (by rfl) ?_ ?_
    · refine r_iload_n (pc := 49) (i := 2) d_Choir_allPrices_49 rfl rfl ?_
      exact r_iret (pc := 50) rfl d_Choir_allPrices_50
    · refine r_iload_n (pc := 12) (i := 3) d_Choir_allPrices_12 rfl rfl ?_
      refine r_iconst (pc := 13) (v := 1) d_Choir_allPrices_13 (by rfl) ?_
      refine r_iadd (pc := 14) d_Choir_allPrices_14 ?_
      refine r_ltI (fun xq1 => ?_)
      refine r_istore (pc := 15) (lv1 := [some (.ref 51), some (.int a1), some (.int x2), some (.int x3), some (.int xq1)]) d_Choir_allPrices_15 (Nat.le_of_ble_eq_true rfl) rfl ?_
      exact r_wk (o_Choir_allPrices_l17 hn ih FU x2 x3 xq1 h) ⟨rfl, ⟨rfl, ⟨rfl, ⟨rfl, ⟨rfl, trivial⟩⟩⟩⟩⟩
def f_Choir_allPrices  (a1 : Int32) (h : AH) : Option (Int32 × AH) :=
  f_Choir_allPrices_l4 a1 FU (0 : Int32) (0 : Int32) h
set_option maxHeartbeats 2000000 in
theorem ok_Choir_allPrices {G : AE} {n : Nat} (hn : NN ≤ n)  (a1 : Int32) (h : AH) : OK G n y_Choir_allPrices (3) φI [.ref 51, .int a1] h (f_Choir_allPrices a1 h) := by
  refine ok_of (y := y_Choir_allPrices) (lv0 := [some (.ref 51), some (.int a1), none, none, none]) (by decide +kernel) (Nat.le_of_ble_eq_true rfl) ⟨rfl, ⟨rfl, trivial⟩⟩ ?_
  rw [f_Choir_allPrices]
  refine r_iconst (pc := 0) (v := 0) d_Choir_allPrices_0 (by rfl) ?_
  refine r_istore_n (pc := 1) (i := 2) (lv1 := [some (.ref 51), some (.int a1), some (.int (0 : Int32)), none, none]) d_Choir_allPrices_1 rfl (Nat.le_of_ble_eq_true rfl) rfl ?_
  refine r_iconst (pc := 2) (v := 0) d_Choir_allPrices_2 (by rfl) ?_
  refine r_istore_n (pc := 3) (i := 3) (lv1 := [some (.ref 51), some (.int a1), some (.int (0 : Int32)), some (.int (0 : Int32)), none]) d_Choir_allPrices_3 rfl (Nat.le_of_ble_eq_true rfl) rfl ?_
  exact r_wk (o_Choir_allPrices_l4 hn FU (0 : Int32) (0 : Int32) h) ⟨rfl, ⟨rfl, ⟨rfl, ⟨rfl, trivial⟩⟩⟩⟩

def f_H_spoils  (a1 : Int32) (h : AH) : Option (Int32 × AH) :=
  gd h 0 1 7 fun cq1 =>
  bI (f_Market_has cq1 a1 h) fun rq2 hq3 =>
  if rq2 = 0 then
    some ((-1000000 : Int32), hq3)
  else
    gx a1 6 <|
    if (hI hq3 43 (ix a1)) = 0 then
      gd hq3 0 1 7 fun cq5 =>
      bV (f_Choir_tune cq5 37 hq3) fun hq6 =>
      bI (f_Choir_allPrices (0 : Int32) hq6) fun rq7 hq8 =>
      bV (f_Yard_copy 44 37 hq8) fun hq9 =>
      gx a1 6 <|
      lt (sI hq9 50 (ix a1) (1 : Int32)) fun hq11 =>
      gd hq11 0 1 7 fun cq12 =>
      bV (f_Choir_tune cq12 44 hq11) fun hq13 =>
      bI (f_Choir_allPrices (0 : Int32) hq13) fun rq14 hq15 =>
      some ((rq7 - rq14), hq15)
    else
      some ((-1000000 : Int32), hq3)
set_option maxHeartbeats 2000000 in
theorem ok_H_spoils {G : AE} {n : Nat} (hn : NN ≤ n)  (a1 : Int32) (h : AH) : OK G n y_H_spoils (6) φI [.ref 0, .int a1] h (f_H_spoils a1 h) := by
  refine ok_of (y := y_H_spoils) (lv0 := [some (.ref 0), some (.int a1), none]) (by decide +kernel) (Nat.le_of_ble_eq_true rfl) ⟨rfl, ⟨rfl, trivial⟩⟩ ?_
  rw [f_H_spoils]
  refine r_aload_n (pc := 0) (i := 0) d_H_spoils_0 rfl rfl ?_
  refine r_gd (fun cq1 rcq1 kcq1 => ?_)
  refine r_getf (pc := 1) (ci := 11) (k := 1) (C := "CricketHay") (T := F_11) (N := 13) (v := .ref cq1) (fun s => Std.k s (lc hn rfl) kq_0) rfl (Nat.le_of_ble_eq_true rfl) rfl w_423 (fun _ => vr rfl rcq1) d_H_spoils_1 ?_
  refine r_iload_n (pc := 4) (i := 1) d_H_spoils_4 rfl rfl ?_
  refine r_cVi (pc := 5) (T := F_7) (N := 16) (st := []) (ok_Market_has hn cq1 kcq1 a1 h) (fun s => Std.k s (ltn (cm hn) (kl_M kcq1)) kcq1) rfl w_664 w_3 w_661 w_662 w_663 hy_Market_has ⟨Nat.le_of_ble_eq_true rfl, Nat.le_of_ble_eq_true rfl⟩ ⟨Nat.le_of_ble_eq_true rfl, Nat.le_of_ble_eq_true rfl⟩ rfl (Nat.le_of_ble_eq_true rfl) d_H_spoils_5 (fun rq2 hq3 => ?_)
  refine r_if_eq (pc := 8) (tgt := 23) d_H_spoils_8 (by rfl) ?_ ?_
  · refine r_ldc (pc := 23) w_883 d_H_spoils_23 ?_
    exact r_iret (pc := 25) rfl d_H_spoils_25
  · refine r_aload_n (pc := 11) (i := 0) d_H_spoils_11 rfl rfl ?_
    refine r_getf (pc := 12) (ci := 11) (k := 3) (C := "CricketHay") (T := F_11) (N := 13) (v := .ref 37) (fun s => Std.k s (lc hn rfl) kq_0) rfl (Nat.le_of_ble_eq_true rfl) rfl w_425 (fun s => vr rfl (Std.r s (lc hn rfl) rq_0_3)) d_H_spoils_12 ?_
    refine r_getf (pc := 15) (ci := 10) (k := 5) (C := "CricketHay$Yard") (T := F_10) (N := 10) (v := .ref 43) (fun s => Std.k s (lc hn rfl) kq_37) rfl (Nat.le_of_ble_eq_true rfl) rfl w_226 (fun s => vr rfl (Std.r s (lc hn rfl) rq_37_5)) d_H_spoils_15 ?_
    refine r_iload_n (pc := 18) (i := 1) d_H_spoils_18 rfl rfl ?_
    refine r_gx (fun zq4 => ?_)
    refine r_iald (pc := 19) (n := 6) (i0 := (ix a1)) (fun s => Std.k s (lc hn rfl) kq_43) zq4 rfl d_H_spoils_19 ?_
    refine r_if_eq (pc := 20) (tgt := 26) d_H_spoils_20 (by rfl) ?_ ?_
    · refine r_aload_n (pc := 26) (i := 0) d_H_spoils_26 rfl rfl ?_
      refine r_getf (pc := 27) (ci := 11) (k := 5) (C := "CricketHay") (T := F_11) (N := 13) (v := .ref 51) (fun s => Std.k s (lc hn rfl) kq_0) rfl (Nat.le_of_ble_eq_true rfl) rfl w_427 (fun s => vr rfl (Std.r s (lc hn rfl) rq_0_5)) d_H_spoils_27 ?_
      refine r_aload_n (pc := 30) (i := 0) d_H_spoils_30 rfl rfl ?_
      refine r_gd (fun cq5 rcq5 kcq5 => ?_)
      refine r_getf (pc := 31) (ci := 11) (k := 1) (C := "CricketHay") (T := F_11) (N := 13) (v := .ref cq5) (fun s => Std.k s (lc hn rfl) kq_0) rfl (Nat.le_of_ble_eq_true rfl) rfl w_423 (fun _ => vr rfl rcq5) d_H_spoils_31 ?_
      refine r_aload_n (pc := 34) (i := 0) d_H_spoils_34 rfl rfl ?_
      refine r_getf (pc := 35) (ci := 11) (k := 3) (C := "CricketHay") (T := F_11) (N := 13) (v := .ref 37) (fun s => Std.k s (lc hn rfl) kq_0) rfl (Nat.le_of_ble_eq_true rfl) rfl w_425 (fun s => vr rfl (Std.r s (lc hn rfl) rq_0_3)) d_H_spoils_35 ?_
      refine r_cVv (pc := 38) (T := F_2) (N := 2) (st := []) (ok_Choir_tune hn cq5 kcq5 37 kq_37 hq3) (fun s => Std.k s (lc hn rfl) kq_51) rfl w_668 w_6 w_665 w_666 w_667 hy_Choir_tune ⟨Nat.le_of_ble_eq_true rfl, Nat.le_of_ble_eq_true rfl⟩ ⟨Nat.le_of_ble_eq_true rfl, Nat.le_of_ble_eq_true rfl⟩ rfl (Nat.le_of_ble_eq_true rfl) d_H_spoils_38 (fun hq6 => ?_)
      refine r_aload_n (pc := 41) (i := 0) d_H_spoils_41 rfl rfl ?_
      refine r_getf (pc := 42) (ci := 11) (k := 5) (C := "CricketHay") (T := F_11) (N := 13) (v := .ref 51) (fun s => Std.k s (lc hn rfl) kq_0) rfl (Nat.le_of_ble_eq_true rfl) rfl w_427 (fun s => vr rfl (Std.r s (lc hn rfl) rq_0_5)) d_H_spoils_42 ?_
      refine r_iconst (pc := 45) (v := 0) d_H_spoils_45 (by rfl) ?_
      refine r_cVi (pc := 46) (T := F_2) (N := 2) (st := []) (ok_Choir_allPrices hn (0 : Int32) hq6) (fun s => Std.k s (lc hn rfl) kq_51) rfl w_887 w_6 w_884 w_885 w_886 hy_Choir_allPrices ⟨Nat.le_of_ble_eq_true rfl, Nat.le_of_ble_eq_true rfl⟩ ⟨Nat.le_of_ble_eq_true rfl, Nat.le_of_ble_eq_true rfl⟩ rfl (Nat.le_of_ble_eq_true rfl) d_H_spoils_46 (fun rq7 hq8 => ?_)
      refine r_istore_n (pc := 49) (i := 2) (lv1 := [some (.ref 0), some (.int a1), some (.int rq7)]) d_H_spoils_49 rfl (Nat.le_of_ble_eq_true rfl) rfl ?_
      refine r_aload_n (pc := 50) (i := 0) d_H_spoils_50 rfl rfl ?_
      refine r_getf (pc := 51) (ci := 11) (k := 4) (C := "CricketHay") (T := F_11) (N := 13) (v := .ref 44) (fun s => Std.k s (lc hn rfl) kq_0) rfl (Nat.le_of_ble_eq_true rfl) rfl w_426 (fun s => vr rfl (Std.r s (lc hn rfl) rq_0_4)) d_H_spoils_51 ?_
      refine r_aload_n (pc := 54) (i := 0) d_H_spoils_54 rfl rfl ?_
      refine r_getf (pc := 55) (ci := 11) (k := 3) (C := "CricketHay") (T := F_11) (N := 13) (v := .ref 37) (fun s => Std.k s (lc hn rfl) kq_0) rfl (Nat.le_of_ble_eq_true rfl) rfl w_425 (fun s => vr rfl (Std.r s (lc hn rfl) rq_0_3)) d_H_spoils_55 ?_
      refine r_cVv (pc := 58) (T := F_10) (N := 10) (st := []) (ok_Yard_copy hn 44 kq_44 37 kq_37 hq8) (fun s => Std.k s (lc hn rfl) kq_44) rfl w_762 w_5 w_822 w_760 w_761 hy_Yard_copy ⟨Nat.le_of_ble_eq_true rfl, Nat.le_of_ble_eq_true rfl⟩ ⟨Nat.le_of_ble_eq_true rfl, Nat.le_of_ble_eq_true rfl⟩ rfl (Nat.le_of_ble_eq_true rfl) d_H_spoils_58 (fun hq9 => ?_)
      refine r_aload_n (pc := 61) (i := 0) d_H_spoils_61 rfl rfl ?_
      refine r_getf (pc := 62) (ci := 11) (k := 4) (C := "CricketHay") (T := F_11) (N := 13) (v := .ref 44) (fun s => Std.k s (lc hn rfl) kq_0) rfl (Nat.le_of_ble_eq_true rfl) rfl w_426 (fun s => vr rfl (Std.r s (lc hn rfl) rq_0_4)) d_H_spoils_62 ?_
      refine r_getf (pc := 65) (ci := 10) (k := 5) (C := "CricketHay$Yard") (T := F_10) (N := 10) (v := .ref 50) (fun s => Std.k s (lc hn rfl) kq_44) rfl (Nat.le_of_ble_eq_true rfl) rfl w_226 (fun s => vr rfl (Std.r s (lc hn rfl) rq_44_5)) d_H_spoils_65 ?_
      refine r_iload_n (pc := 68) (i := 1) d_H_spoils_68 rfl rfl ?_
      refine r_iconst (pc := 69) (v := 1) d_H_spoils_69 (by rfl) ?_
      refine r_gx (fun zq10 => ?_)
      refine r_iast (pc := 70) (n := 6) (i0 := (ix a1)) (fun s => Std.k s (lc hn rfl) kq_50) zq10 rfl (fun s => Std.sI s _ _ _) d_H_spoils_70 ?_
      refine r_ltH (fun hq11 => ?_)
      refine r_aload_n (pc := 71) (i := 0) d_H_spoils_71 rfl rfl ?_
      refine r_getf (pc := 72) (ci := 11) (k := 5) (C := "CricketHay") (T := F_11) (N := 13) (v := .ref 51) (fun s => Std.k s (lc hn rfl) kq_0) rfl (Nat.le_of_ble_eq_true rfl) rfl w_427 (fun s => vr rfl (Std.r s (lc hn rfl) rq_0_5)) d_H_spoils_72 ?_
      refine r_aload_n (pc := 75) (i := 0) d_H_spoils_75 rfl rfl ?_
      refine r_gd (fun cq12 rcq12 kcq12 => ?_)
      refine r_getf (pc := 76) (ci := 11) (k := 1) (C := "CricketHay") (T := F_11) (N := 13) (v := .ref cq12) (fun s => Std.k s (lc hn rfl) kq_0) rfl (Nat.le_of_ble_eq_true rfl) rfl w_423 (fun _ => vr rfl rcq12) d_H_spoils_76 ?_
      refine r_aload_n (pc := 79) (i := 0) d_H_spoils_79 rfl rfl ?_
      refine r_getf (pc := 80) (ci := 11) (k := 4) (C := "CricketHay") (T := F_11) (N := 13) (v := .ref 44) (fun s => Std.k s (lc hn rfl) kq_0) rfl (Nat.le_of_ble_eq_true rfl) rfl w_426 (fun s => vr rfl (Std.r s (lc hn rfl) rq_0_4)) d_H_spoils_80 ?_
      refine r_cVv (pc := 83) (T := F_2) (N := 2) (st := []) (ok_Choir_tune hn cq12 kcq12 44 kq_44 hq11) (fun s => Std.k s (lc hn rfl) kq_51) rfl w_668 w_6 w_665 w_666 w_667 hy_Choir_tune ⟨Nat.le_of_ble_eq_true rfl, Nat.le_of_ble_eq_true rfl⟩ ⟨Nat.le_of_ble_eq_true rfl, Nat.le_of_ble_eq_true rfl⟩ rfl (Nat.le_of_ble_eq_true rfl) d_H_spoils_83 (fun hq13 => ?_)
      refine r_iload_n (pc := 86) (i := 2) d_H_spoils_86 rfl rfl ?_
      refine r_aload_n (pc := 87) (i := 0) d_H_spoils_87 rfl rfl ?_
      refine r_getf (pc := 88) (ci := 11) (k := 5) (C := "CricketHay") (T := F_11) (N := 13) (v := .ref 51) (fun s => Std.k s (lc hn rfl) kq_0) rfl (Nat.le_of_ble_eq_true rfl) rfl w_427 (fun s => vr rfl (Std.r s (lc hn rfl) rq_0_5)) d_H_spoils_88 ?_
      refine r_iconst (pc := 91) (v := 0) d_H_spoils_91 (by rfl) ?_
      refine r_cVi (pc := 92) (T := F_2) (N := 2) (st := [.int rq7]) (ok_Choir_allPrices hn (0 : Int32) hq13) (fun s => Std.k s (lc hn rfl) kq_51) rfl w_887 w_6 w_884 w_885 w_886 hy_Choir_allPrices ⟨Nat.le_of_ble_eq_true rfl, Nat.le_of_ble_eq_true rfl⟩ ⟨Nat.le_of_ble_eq_true rfl, Nat.le_of_ble_eq_true rfl⟩ rfl (Nat.le_of_ble_eq_true rfl) d_H_spoils_92 (fun rq14 hq15 => ?_)
      refine r_isub (pc := 95) d_H_spoils_95 ?_
      exact r_iret (pc := 96) rfl d_H_spoils_96
    · refine r_ldc (pc := 23) w_883 d_H_spoils_23 ?_
      exact r_iret (pc := 25) rfl d_H_spoils_25

def f_H_starve_l21  (a1 : Int32)  : Nat → Int32 → Int32 → AH → Option (Int32 × AH)
  | 0, _, _, _ => none
  | n + 1, x2, x3, h =>
    gd h 0 1 7 fun cq1 =>
    if (hI h cq1 11) ≤ x3 then
      some (x2, h)
    else
      gx x3 6 <|
      lt (x2 + (hI h 47 (ix x3))) fun xq3 =>
      lt (x3 + (1 : Int32)) fun xq4 =>
      f_H_starve_l21 a1 n xq3 xq4 h
set_option maxHeartbeats 2000000 in
theorem o_H_starve_l21 {G : AE} {n : Nat} (hn : NN ≤ n)  {a1 : Int32}   : ∀ (n0 : Nat) (x2 : Int32) (x3 : Int32) (h : AH), AJ G n y_H_starve (6) φI 21 [some (.ref 0), none, some (.int x2), some (.int x3)] [] h (f_H_starve_l21 a1 n0 x2 x3 h) := by
  intro n0
  induction n0 with
  | zero => intros; exact r_none
  | succ n0 ih =>
    intro x2 x3 h
    rw [f_H_starve_l21]
    refine r_iload_n (pc := 21) (i := 3) d_H_starve_21 rfl rfl ?_
    refine r_aload_n (pc := 22) (i := 0) d_H_starve_22 rfl rfl ?_
    refine r_gd (fun cq1 rcq1 kcq1 => ?_)
    refine r_getf (pc := 23) (ci := 11) (k := 1) (C := "CricketHay") (T := F_11) (N := 13) (v := .ref cq1) (fun s => Std.k s (lc hn rfl) kq_0) rfl (Nat.le_of_ble_eq_true rfl) rfl w_423 (fun _ => vr rfl rcq1) d_H_starve_23 ?_
    refine r_getf (pc := 26) (ci := 7) (k := 11) (C := "CricketHay$Market") (T := F_7) (N := 16) (v := .int (hI h cq1 11)) (fun s => Std.k s (ltn (cm hn) (kl_M kcq1)) kcq1) rfl (Nat.le_of_ble_eq_true rfl) rfl w_155 (fun _ => rfl) d_H_starve_26 ?_
    refine r_icmp_ge (pc := 29) (tgt := 50) d_H_starve_29 (by rfl) ?_ ?_
    · refine r_iload_n (pc := 50) (i := 2) d_H_starve_50 rfl rfl ?_
      exact r_iret (pc := 51) rfl d_H_starve_51
    · refine r_iload_n (pc := 32) (i := 2) d_H_starve_32 rfl rfl ?_
      refine r_aload_n (pc := 33) (i := 0) d_H_starve_33 rfl rfl ?_
      refine r_getf (pc := 34) (ci := 11) (k := 4) (C := "CricketHay") (T := F_11) (N := 13) (v := .ref 44) (fun s => Std.k s (lc hn rfl) kq_0) rfl (Nat.le_of_ble_eq_true rfl) rfl w_426 (fun s => vr rfl (Std.r s (lc hn rfl) rq_0_4)) d_H_starve_34 ?_
      refine r_getf (pc := 37) (ci := 10) (k := 2) (C := "CricketHay$Yard") (T := F_10) (N := 10) (v := .ref 47) (fun s => Std.k s (lc hn rfl) kq_44) rfl (Nat.le_of_ble_eq_true rfl) rfl w_217 (fun s => vr rfl (Std.r s (lc hn rfl) rq_44_2)) d_H_starve_37 ?_
      refine r_iload_n (pc := 40) (i := 3) d_H_starve_40 rfl rfl ?_
      refine r_gx (fun zq2 => ?_)
      refine r_iald (pc := 41) (n := 6) (i0 := (ix x3)) (fun s => Std.k s (lc hn rfl) kq_47) zq2 rfl d_H_starve_41 ?_
      refine r_iadd (pc := 42) d_H_starve_42 ?_
      refine r_ltI (fun xq3 => ?_)
      refine r_istore_n (pc := 43) (i := 2) (lv1 := [some (.ref 0), none, some (.int xq3), some (.int x3)]) d_H_starve_43 rfl (Nat.le_of_ble_eq_true rfl) rfl ?_
      refine r_ltE (fun xq4 exq4 => ?_)
      refine r_iinc (pc := 44) (v := xq4) (lv1 := [some (.ref 0), none, some (.int xq3), some (.int xq4)]) d_H_starve_44 rfl exq4.symm (Nat.le_of_ble_eq_true rfl) rfl ?_
      refine r_goto (pc := 47) (tgt := 21) d_H_starve_47 (by rfl) ?_
      exact r_wk (ih xq3 xq4 h) ⟨rfl, ⟨rfl, ⟨rfl, trivial⟩⟩⟩
def f_H_starve  (a1 : Int32) (h : AH) : Option (Int32 × AH) :=
  bI (f_H_within a1 (0 : Int32) (60 : Int32) h) fun rq1 hq2 =>
  if ¬ rq1 = 0 then
    bV (f_H_lookAhead a1 hq2) fun hq3 =>
    f_H_starve_l21 a1 FU (0 : Int32) (0 : Int32) hq3
  else
    some ((-1 : Int32), hq2)
set_option maxHeartbeats 2000000 in
theorem ok_H_starve {G : AE} {n : Nat} (hn : NN ≤ n)  (a1 : Int32) (h : AH) : OK G n y_H_starve (6) φI [.ref 0, .int a1] h (f_H_starve a1 h) := by
  refine ok_of (y := y_H_starve) (lv0 := [some (.ref 0), some (.int a1), none, none]) (by decide +kernel) (Nat.le_of_ble_eq_true rfl) ⟨rfl, ⟨rfl, trivial⟩⟩ ?_
  rw [f_H_starve]
  refine r_iload_n (pc := 0) (i := 1) d_H_starve_0 rfl rfl ?_
  refine r_iconst (pc := 1) (v := 0) d_H_starve_1 (by rfl) ?_
  refine r_bipush (pc := 2) (v := 60) d_H_starve_2 (by rfl) ?_
  refine r_cSi (pc := 4) (st := []) (ok_H_within hn a1 (0 : Int32) (60 : Int32) h) w_817 w_1 w_815 w_816 hy_H_within ⟨Nat.le_of_ble_eq_true rfl, Nat.le_of_ble_eq_true rfl⟩ ⟨Nat.le_of_ble_eq_true rfl, Nat.le_of_ble_eq_true rfl⟩ rfl (Nat.le_of_ble_eq_true rfl) d_H_starve_4 (fun rq1 hq2 => ?_)
  refine r_if_ne (pc := 7) (tgt := 12) d_H_starve_7 (by rfl) ?_ ?_
  · refine r_aload_n (pc := 12) (i := 0) d_H_starve_12 rfl rfl ?_
    refine r_iload_n (pc := 13) (i := 1) d_H_starve_13 rfl rfl ?_
    refine r_cVv (pc := 14) (T := F_11) (N := 13) (st := []) (ok_H_lookAhead hn a1 hq2) (fun s => Std.k s (lc hn rfl) kq_0) rfl w_821 w_1 w_818 w_820 ws_27 hy_H_lookAhead ⟨Nat.le_of_ble_eq_true rfl, Nat.le_of_ble_eq_true rfl⟩ ⟨Nat.le_of_ble_eq_true rfl, Nat.le_of_ble_eq_true rfl⟩ rfl (Nat.le_of_ble_eq_true rfl) d_H_starve_14 (fun hq3 => ?_)
    refine r_iconst (pc := 17) (v := 0) d_H_starve_17 (by rfl) ?_
    refine r_istore_n (pc := 18) (i := 2) (lv1 := [some (.ref 0), some (.int a1), some (.int (0 : Int32)), none]) d_H_starve_18 rfl (Nat.le_of_ble_eq_true rfl) rfl ?_
    refine r_iconst (pc := 19) (v := 0) d_H_starve_19 (by rfl) ?_
    refine r_istore_n (pc := 20) (i := 3) (lv1 := [some (.ref 0), some (.int a1), some (.int (0 : Int32)), some (.int (0 : Int32))]) d_H_starve_20 rfl (Nat.le_of_ble_eq_true rfl) rfl ?_
    exact r_wk (o_H_starve_l21 hn FU (0 : Int32) (0 : Int32) hq3) ⟨rfl, ⟨rfl, ⟨rfl, trivial⟩⟩⟩
  · refine r_iconst (pc := 10) (v := -1) d_H_starve_10 (by rfl) ?_
    exact r_iret (pc := 11) rfl d_H_starve_11

def f_H_hush_l26  (a1 : Int32)  : Nat → Int32 → AH → Option (Int32 × AH)
  | 0, _, _ => none
  | n + 1, x2, h =>
    if (60 : Int32) < x2 then
      some ((-1 : Int32), h)
    else
      gd h 0 1 7 fun cq1 =>
      bV (f_Choir_tune cq1 44 h) fun hq2 =>
      bI (f_Choir_together hq2) fun rq3 hq4 =>
      if a1 < rq3 then
        gd hq4 0 1 7 fun cq5 =>
        bV (f_Yard_pass1 44 cq5 hq4) fun hq6 =>
        lt (x2 + (1 : Int32)) fun xq7 =>
        f_H_hush_l26 a1 n xq7 hq6
      else
        some (x2, hq4)
set_option maxHeartbeats 2000000 in
theorem o_H_hush_l26 {G : AE} {n : Nat} (hn : NN ≤ n)  {a1 : Int32}   : ∀ (n0 : Nat) (x2 : Int32) (h : AH), AJ G n y_H_hush (6) φI 26 [some (.ref 0), some (.int a1), some (.int x2)] [] h (f_H_hush_l26 a1 n0 x2 h) := by
  intro n0
  induction n0 with
  | zero => intros; exact r_none
  | succ n0 ih =>
    intro x2 h
    rw [f_H_hush_l26]
    refine r_iload_n (pc := 26) (i := 2) d_H_hush_26 rfl rfl ?_
    refine r_bipush (pc := 27) (v := 60) d_H_hush_27 (by rfl) ?_
    refine r_icmp_gt (pc := 29) (tgt := 77) d_H_hush_29 (by rfl) ?_ ?_
    · refine r_iconst (pc := 77) (v := -1) d_H_hush_77 (by rfl) ?_
      exact r_iret (pc := 78) rfl d_H_hush_78
    · refine r_aload_n (pc := 32) (i := 0) d_H_hush_32 rfl rfl ?_
      refine r_getf (pc := 33) (ci := 11) (k := 5) (C := "CricketHay") (T := F_11) (N := 13) (v := .ref 51) (fun s => Std.k s (lc hn rfl) kq_0) rfl (Nat.le_of_ble_eq_true rfl) rfl w_427 (fun s => vr rfl (Std.r s (lc hn rfl) rq_0_5)) d_H_hush_33 ?_
      refine r_aload_n (pc := 36) (i := 0) d_H_hush_36 rfl rfl ?_
      refine r_gd (fun cq1 rcq1 kcq1 => ?_)
      refine r_getf (pc := 37) (ci := 11) (k := 1) (C := "CricketHay") (T := F_11) (N := 13) (v := .ref cq1) (fun s => Std.k s (lc hn rfl) kq_0) rfl (Nat.le_of_ble_eq_true rfl) rfl w_423 (fun _ => vr rfl rcq1) d_H_hush_37 ?_
      refine r_aload_n (pc := 40) (i := 0) d_H_hush_40 rfl rfl ?_
      refine r_getf (pc := 41) (ci := 11) (k := 4) (C := "CricketHay") (T := F_11) (N := 13) (v := .ref 44) (fun s => Std.k s (lc hn rfl) kq_0) rfl (Nat.le_of_ble_eq_true rfl) rfl w_426 (fun s => vr rfl (Std.r s (lc hn rfl) rq_0_4)) d_H_hush_41 ?_
      refine r_cVv (pc := 44) (T := F_2) (N := 2) (st := []) (ok_Choir_tune hn cq1 kcq1 44 kq_44 h) (fun s => Std.k s (lc hn rfl) kq_51) rfl w_668 w_6 w_665 w_666 w_667 hy_Choir_tune ⟨Nat.le_of_ble_eq_true rfl, Nat.le_of_ble_eq_true rfl⟩ ⟨Nat.le_of_ble_eq_true rfl, Nat.le_of_ble_eq_true rfl⟩ rfl (Nat.le_of_ble_eq_true rfl) d_H_hush_44 (fun hq2 => ?_)
      refine r_aload_n (pc := 47) (i := 0) d_H_hush_47 rfl rfl ?_
      refine r_getf (pc := 48) (ci := 11) (k := 5) (C := "CricketHay") (T := F_11) (N := 13) (v := .ref 51) (fun s => Std.k s (lc hn rfl) kq_0) rfl (Nat.le_of_ble_eq_true rfl) rfl w_427 (fun s => vr rfl (Std.r s (lc hn rfl) rq_0_5)) d_H_hush_48 ?_
      refine r_cVi (pc := 51) (T := F_2) (N := 2) (st := []) (ok_Choir_together hn hq2) (fun s => Std.k s (lc hn rfl) kq_51) rfl w_742 w_6 w_739 w_740 w_741 hy_Choir_together ⟨Nat.le_of_ble_eq_true rfl, Nat.le_of_ble_eq_true rfl⟩ ⟨Nat.le_of_ble_eq_true rfl, Nat.le_of_ble_eq_true rfl⟩ rfl (Nat.le_of_ble_eq_true rfl) d_H_hush_51 (fun rq3 hq4 => ?_)
      refine r_iload_n (pc := 54) (i := 1) d_H_hush_54 rfl rfl ?_
      refine r_icmp_gt (pc := 55) (tgt := 60) d_H_hush_55 (by rfl) ?_ ?_
      · refine r_aload_n (pc := 60) (i := 0) d_H_hush_60 rfl rfl ?_
        refine r_getf (pc := 61) (ci := 11) (k := 4) (C := "CricketHay") (T := F_11) (N := 13) (v := .ref 44) (fun s => Std.k s (lc hn rfl) kq_0) rfl (Nat.le_of_ble_eq_true rfl) rfl w_426 (fun s => vr rfl (Std.r s (lc hn rfl) rq_0_4)) d_H_hush_61 ?_
        refine r_aload_n (pc := 64) (i := 0) d_H_hush_64 rfl rfl ?_
        refine r_gd (fun cq5 rcq5 kcq5 => ?_)
        refine r_getf (pc := 65) (ci := 11) (k := 1) (C := "CricketHay") (T := F_11) (N := 13) (v := .ref cq5) (fun s => Std.k s (lc hn rfl) kq_0) rfl (Nat.le_of_ble_eq_true rfl) rfl w_423 (fun _ => vr rfl rcq5) d_H_hush_65 ?_
        refine r_cVv (pc := 68) (T := F_10) (N := 10) (st := []) (ok_Yard_pass1 hn 44 kq_44 cq5 kcq5 hq4) (fun s => Std.k s (lc hn rfl) kq_44) rfl w_781 w_5 w_778 w_779 w_780 hy_Yard_pass1 ⟨Nat.le_of_ble_eq_true rfl, Nat.le_of_ble_eq_true rfl⟩ ⟨Nat.le_of_ble_eq_true rfl, Nat.le_of_ble_eq_true rfl⟩ rfl (Nat.le_of_ble_eq_true rfl) d_H_hush_68 (fun hq6 => ?_)
        refine r_ltE (fun xq7 exq7 => ?_)
        refine r_iinc (pc := 71) (v := xq7) (lv1 := [some (.ref 0), some (.int a1), some (.int xq7)]) d_H_hush_71 rfl exq7.symm (Nat.le_of_ble_eq_true rfl) rfl ?_
        refine r_goto (pc := 74) (tgt := 26) d_H_hush_74 (by rfl) ?_
        exact r_wk (ih xq7 hq6) ⟨rfl, ⟨rfl, ⟨rfl, trivial⟩⟩⟩
      · refine r_iload_n (pc := 58) (i := 2) d_H_hush_58 rfl rfl ?_
        exact r_iret (pc := 59) rfl d_H_hush_59
def f_H_hush  (a1 : Int32) (h : AH) : Option (Int32 × AH) :=
  bI (f_H_within a1 (0 : Int32) (594 : Int32) h) fun rq1 hq2 =>
  if ¬ rq1 = 0 then
    bV (f_Yard_copy 44 37 hq2) fun hq3 =>
    f_H_hush_l26 a1 FU (0 : Int32) hq3
  else
    some ((-1 : Int32), hq2)
set_option maxHeartbeats 2000000 in
theorem ok_H_hush {G : AE} {n : Nat} (hn : NN ≤ n)  (a1 : Int32) (h : AH) : OK G n y_H_hush (6) φI [.ref 0, .int a1] h (f_H_hush a1 h) := by
  refine ok_of (y := y_H_hush) (lv0 := [some (.ref 0), some (.int a1), none]) (by decide +kernel) (Nat.le_of_ble_eq_true rfl) ⟨rfl, ⟨rfl, trivial⟩⟩ ?_
  rw [f_H_hush]
  refine r_iload_n (pc := 0) (i := 1) d_H_hush_0 rfl rfl ?_
  refine r_iconst (pc := 1) (v := 0) d_H_hush_1 (by rfl) ?_
  refine r_sipush (pc := 2) (v := 594) d_H_hush_2 (by rfl) ?_
  refine r_cSi (pc := 5) (st := []) (ok_H_within hn a1 (0 : Int32) (594 : Int32) h) w_817 w_1 w_815 w_816 hy_H_within ⟨Nat.le_of_ble_eq_true rfl, Nat.le_of_ble_eq_true rfl⟩ ⟨Nat.le_of_ble_eq_true rfl, Nat.le_of_ble_eq_true rfl⟩ rfl (Nat.le_of_ble_eq_true rfl) d_H_hush_5 (fun rq1 hq2 => ?_)
  refine r_if_ne (pc := 8) (tgt := 13) d_H_hush_8 (by rfl) ?_ ?_
  · refine r_aload_n (pc := 13) (i := 0) d_H_hush_13 rfl rfl ?_
    refine r_getf (pc := 14) (ci := 11) (k := 4) (C := "CricketHay") (T := F_11) (N := 13) (v := .ref 44) (fun s => Std.k s (lc hn rfl) kq_0) rfl (Nat.le_of_ble_eq_true rfl) rfl w_426 (fun s => vr rfl (Std.r s (lc hn rfl) rq_0_4)) d_H_hush_14 ?_
    refine r_aload_n (pc := 17) (i := 0) d_H_hush_17 rfl rfl ?_
    refine r_getf (pc := 18) (ci := 11) (k := 3) (C := "CricketHay") (T := F_11) (N := 13) (v := .ref 37) (fun s => Std.k s (lc hn rfl) kq_0) rfl (Nat.le_of_ble_eq_true rfl) rfl w_425 (fun s => vr rfl (Std.r s (lc hn rfl) rq_0_3)) d_H_hush_18 ?_
    refine r_cVv (pc := 21) (T := F_10) (N := 10) (st := []) (ok_Yard_copy hn 44 kq_44 37 kq_37 hq2) (fun s => Std.k s (lc hn rfl) kq_44) rfl w_762 w_5 w_822 w_760 w_761 hy_Yard_copy ⟨Nat.le_of_ble_eq_true rfl, Nat.le_of_ble_eq_true rfl⟩ ⟨Nat.le_of_ble_eq_true rfl, Nat.le_of_ble_eq_true rfl⟩ rfl (Nat.le_of_ble_eq_true rfl) d_H_hush_21 (fun hq3 => ?_)
    refine r_iconst (pc := 24) (v := 0) d_H_hush_24 (by rfl) ?_
    refine r_istore_n (pc := 25) (i := 2) (lv1 := [some (.ref 0), some (.int a1), some (.int (0 : Int32))]) d_H_hush_25 rfl (Nat.le_of_ble_eq_true rfl) rfl ?_
    exact r_wk (o_H_hush_l26 hn FU (0 : Int32) hq3) ⟨rfl, ⟨rfl, ⟨rfl, trivial⟩⟩⟩
  · refine r_iconst (pc := 11) (v := -1) d_H_hush_11 (by rfl) ?_
    exact r_iret (pc := 12) rfl d_H_hush_12

def f_H_weight_l5  (a1 : Int32) (a2 : Int32)  : Nat → Int32 → Int32 → AH → Option (Int32 × AH)
  | 0, _, _, _ => none
  | n + 1, x3, x4, h =>
    if a1 ≤ x4 then
      some (x3, h)
    else
      if ((a2 >>> (x4 &&& 31)) &&& (1 : Int32)) = 0 then
        gd h 0 1 7 fun cq1 =>
        lt (x3 * ((100 : Int32) - (hI h cq1 12))) fun xq2 =>
        lt (x4 + (1 : Int32)) fun xq3 =>
        f_H_weight_l5 a1 a2 n xq2 xq3 h
      else
        gd h 0 1 7 fun cq4 =>
        lt (x3 * (hI h cq4 12)) fun xq5 =>
        lt (x4 + (1 : Int32)) fun xq6 =>
        f_H_weight_l5 a1 a2 n xq5 xq6 h
set_option maxHeartbeats 2000000 in
theorem o_H_weight_l5 {G : AE} {n : Nat} (hn : NN ≤ n)  {a1 : Int32} {a2 : Int32}   : ∀ (n0 : Nat) (x3 : Int32) (x4 : Int32) (h : AH), AJ G n y_H_weight (1) φI 5 [some (.ref 0), some (.int a1), some (.int a2), some (.int x3), some (.int x4)] [] h (f_H_weight_l5 a1 a2 n0 x3 x4 h) := by
  intro n0
  induction n0 with
  | zero => intros; exact r_none
  | succ n0 ih =>
    intro x3 x4 h
    rw [f_H_weight_l5]
    refine r_iload (pc := 5) d_H_weight_5 rfl ?_
    refine r_iload_n (pc := 7) (i := 1) d_H_weight_7 rfl rfl ?_
    refine r_icmp_ge (pc := 8) (tgt := 49) d_H_weight_8 (by rfl) ?_ ?_
    · refine r_iload_n (pc := 49) (i := 3) d_H_weight_49 rfl rfl ?_
      exact r_iret (pc := 50) rfl d_H_weight_50
    · refine r_iload_n (pc := 11) (i := 3) d_H_weight_11 rfl rfl ?_
      refine r_iload_n (pc := 12) (i := 2) d_H_weight_12 rfl rfl ?_
      refine r_iload (pc := 13) d_H_weight_13 rfl ?_
      refine r_ishr (pc := 15) d_H_weight_15 ?_
      refine r_iconst (pc := 16) (v := 1) d_H_weight_16 (by rfl) ?_
      refine r_iand (pc := 17) d_H_weight_17 ?_
      refine r_if_eq (pc := 18) (tgt := 31) d_H_weight_18 (by rfl) ?_ ?_
      · refine r_bipush (pc := 31) (v := 100) d_H_weight_31 (by rfl) ?_
        refine r_aload_n (pc := 33) (i := 0) d_H_weight_33 rfl rfl ?_
        refine r_gd (fun cq1 rcq1 kcq1 => ?_)
        refine r_getf (pc := 34) (ci := 11) (k := 1) (C := "CricketHay") (T := F_11) (N := 13) (v := .ref cq1) (fun s => Std.k s (lc hn rfl) kq_0) rfl (Nat.le_of_ble_eq_true rfl) rfl w_423 (fun _ => vr rfl rcq1) d_H_weight_34 ?_
        refine r_getf (pc := 37) (ci := 7) (k := 12) (C := "CricketHay$Market") (T := F_7) (N := 16) (v := .int (hI h cq1 12)) (fun s => Std.k s (ltn (cm hn) (kl_M kcq1)) kcq1) rfl (Nat.le_of_ble_eq_true rfl) rfl w_161 (fun _ => rfl) d_H_weight_37 ?_
        refine r_isub (pc := 40) d_H_weight_40 ?_
        refine r_imul (pc := 41) d_H_weight_41 ?_
        refine r_ltI (fun xq2 => ?_)
        refine r_istore_n (pc := 42) (i := 3) (lv1 := [some (.ref 0), some (.int a1), some (.int a2), some (.int xq2), some (.int x4)]) d_H_weight_42 rfl (Nat.le_of_ble_eq_true rfl) rfl ?_
        refine r_ltE (fun xq3 exq3 => ?_)
        refine r_iinc (pc := 43) (v := xq3) (lv1 := [some (.ref 0), some (.int a1), some (.int a2), some (.int xq2), some (.int xq3)]) d_H_weight_43 rfl exq3.symm (Nat.le_of_ble_eq_true rfl) rfl ?_
        refine r_goto (pc := 46) (tgt := 5) d_H_weight_46 (by rfl) ?_
        exact r_wk (ih xq2 xq3 h) ⟨rfl, ⟨rfl, ⟨rfl, ⟨rfl, ⟨rfl, trivial⟩⟩⟩⟩⟩
      · refine r_aload_n (pc := 21) (i := 0) d_H_weight_21 rfl rfl ?_
        refine r_gd (fun cq4 rcq4 kcq4 => ?_)
        refine r_getf (pc := 22) (ci := 11) (k := 1) (C := "CricketHay") (T := F_11) (N := 13) (v := .ref cq4) (fun s => Std.k s (lc hn rfl) kq_0) rfl (Nat.le_of_ble_eq_true rfl) rfl w_423 (fun _ => vr rfl rcq4) d_H_weight_22 ?_
        refine r_getf (pc := 25) (ci := 7) (k := 12) (C := "CricketHay$Market") (T := F_7) (N := 16) (v := .int (hI h cq4 12)) (fun s => Std.k s (ltn (cm hn) (kl_M kcq4)) kcq4) rfl (Nat.le_of_ble_eq_true rfl) rfl w_161 (fun _ => rfl) d_H_weight_25 ?_
        refine r_goto (pc := 28) (tgt := 41) d_H_weight_28 (by rfl) ?_
        refine r_imul (pc := 41) d_H_weight_41 ?_
        refine r_ltI (fun xq5 => ?_)
        refine r_istore_n (pc := 42) (i := 3) (lv1 := [some (.ref 0), some (.int a1), some (.int a2), some (.int xq5), some (.int x4)]) d_H_weight_42 rfl (Nat.le_of_ble_eq_true rfl) rfl ?_
        refine r_ltE (fun xq6 exq6 => ?_)
        refine r_iinc (pc := 43) (v := xq6) (lv1 := [some (.ref 0), some (.int a1), some (.int a2), some (.int xq5), some (.int xq6)]) d_H_weight_43 rfl exq6.symm (Nat.le_of_ble_eq_true rfl) rfl ?_
        refine r_goto (pc := 46) (tgt := 5) d_H_weight_46 (by rfl) ?_
        exact r_wk (ih xq5 xq6 h) ⟨rfl, ⟨rfl, ⟨rfl, ⟨rfl, ⟨rfl, trivial⟩⟩⟩⟩⟩
def f_H_weight  (a1 : Int32) (a2 : Int32) (h : AH) : Option (Int32 × AH) :=
  f_H_weight_l5 a1 a2 FU (1 : Int32) (0 : Int32) h
set_option maxHeartbeats 2000000 in
theorem ok_H_weight {G : AE} {n : Nat} (hn : NN ≤ n)  (a1 : Int32) (a2 : Int32) (h : AH) : OK G n y_H_weight (1) φI [.ref 0, .int a1, .int a2] h (f_H_weight a1 a2 h) := by
  refine ok_of (y := y_H_weight) (lv0 := [some (.ref 0), some (.int a1), some (.int a2), none, none]) (by decide +kernel) (Nat.le_of_ble_eq_true rfl) ⟨rfl, ⟨rfl, ⟨rfl, trivial⟩⟩⟩ ?_
  rw [f_H_weight]
  refine r_iconst (pc := 0) (v := 1) d_H_weight_0 (by rfl) ?_
  refine r_istore_n (pc := 1) (i := 3) (lv1 := [some (.ref 0), some (.int a1), some (.int a2), some (.int (1 : Int32)), none]) d_H_weight_1 rfl (Nat.le_of_ble_eq_true rfl) rfl ?_
  refine r_iconst (pc := 2) (v := 0) d_H_weight_2 (by rfl) ?_
  refine r_istore (pc := 3) (lv1 := [some (.ref 0), some (.int a1), some (.int a2), some (.int (1 : Int32)), some (.int (0 : Int32))]) d_H_weight_3 (Nat.le_of_ble_eq_true rfl) rfl ?_
  exact r_wk (o_H_weight_l5 hn FU (1 : Int32) (0 : Int32) h) ⟨rfl, ⟨rfl, ⟨rfl, ⟨rfl, ⟨rfl, trivial⟩⟩⟩⟩⟩

def f_H_priceBehind_b43  (a1 : Int32) (a2 : Int32) (a3 : Int32) (a4 : Int32) (k14 : Int32 → AH → Option (Int32 × AH)) (x5 : Int32) (v1 : Nat) (v2 : Int32) (h : AH) : Option (Int32 × AH) :=
  bV (f_Yard_pass2 44 v1 v2 h) fun hq1 =>
  lt (x5 + (1 : Int32)) fun xq2 =>
  k14 xq2 hq1
set_option maxHeartbeats 2000000 in
theorem o_H_priceBehind_b43 {G : AE} {n : Nat} (hn : NN ≤ n)  {a1 : Int32} {a2 : Int32} {a3 : Int32} {a4 : Int32}  {k14 : Int32 → AH → Option (Int32 × AH)} (hk14 : ∀ (x5 : Int32) (h : AH), AJ G n y_H_priceBehind (6) φI 14 [some (.ref 0), some (.int a1), some (.int a2), some (.int a3), some (.int a4), some (.int x5)] [] h (k14 x5 h)) : ∀ (x5 : Int32) (v1 : Nat) (hv1 : kdF v1 = .inr 7) (v2 : Int32) (h : AH), AJ G n y_H_priceBehind (6) φI 43 [some (.ref 0), some (.int a1), some (.int a2), some (.int a3), some (.int a4), some (.int x5)] [.int v2, .ref v1, .ref 44] h (f_H_priceBehind_b43 a1 a2 a3 a4 k14 x5 v1 v2 h) := by
  intro x5 v1 hv1 v2 h
  rw [f_H_priceBehind_b43]
  refine r_cVv (pc := 43) (T := F_10) (N := 10) (st := []) (ok_Yard_pass2 hn 44 kq_44 v1 hv1 v2 h) (fun s => Std.k s (lc hn rfl) kq_44) rfl w_785 w_5 w_915 w_783 w_784 hy_Yard_pass2 ⟨Nat.le_of_ble_eq_true rfl, Nat.le_of_ble_eq_true rfl⟩ ⟨Nat.le_of_ble_eq_true rfl, Nat.le_of_ble_eq_true rfl⟩ rfl (Nat.le_of_ble_eq_true rfl) d_H_priceBehind_43 (fun hq1 => ?_)
  refine r_ltE (fun xq2 exq2 => ?_)
  refine r_iinc (pc := 46) (v := xq2) (lv1 := [some (.ref 0), some (.int a1), some (.int a2), some (.int a3), some (.int a4), some (.int xq2)]) d_H_priceBehind_46 rfl exq2.symm (Nat.le_of_ble_eq_true rfl) rfl ?_
  refine r_goto (pc := 49) (tgt := 14) d_H_priceBehind_49 (by rfl) ?_
  exact r_wk (hk14 xq2 hq1) ⟨rfl, ⟨rfl, ⟨rfl, ⟨rfl, ⟨rfl, ⟨rfl, trivial⟩⟩⟩⟩⟩⟩
def f_H_priceBehind_l14  (a1 : Int32) (a2 : Int32) (a3 : Int32) (a4 : Int32)  : Nat → Int32 → AH → Option (Int32 × AH)
  | 0, _, _ => none
  | n + 1, x5, h =>
    if a3 ≤ x5 then
      gd h 0 1 7 fun cq1 =>
      bV (f_Choir_tune cq1 44 h) fun hq2 =>
      bI (f_Choir_half a1 a2 hq2) fun rq3 hq4 =>
      some (rq3, hq4)
    else
      gd h 0 1 7 fun cq5 =>
      if ((a4 >>> (x5 &&& 31)) &&& (1 : Int32)) = 0 then
        f_H_priceBehind_b43 a1 a2 a3 a4 (f_H_priceBehind_l14 a1 a2 a3 a4 n) x5 cq5 (0 : Int32) h
      else
        f_H_priceBehind_b43 a1 a2 a3 a4 (f_H_priceBehind_l14 a1 a2 a3 a4 n) x5 cq5 (1 : Int32) h
set_option maxHeartbeats 2000000 in
theorem o_H_priceBehind_l14 {G : AE} {n : Nat} (hn : NN ≤ n)  {a1 : Int32} {a2 : Int32} {a3 : Int32} {a4 : Int32}   : ∀ (n0 : Nat) (x5 : Int32) (h : AH), AJ G n y_H_priceBehind (6) φI 14 [some (.ref 0), some (.int a1), some (.int a2), some (.int a3), some (.int a4), some (.int x5)] [] h (f_H_priceBehind_l14 a1 a2 a3 a4 n0 x5 h) := by
  intro n0
  induction n0 with
  | zero => intros; exact r_none
  | succ n0 ih =>
    intro x5 h
    rw [f_H_priceBehind_l14]
    refine r_iload (pc := 14) d_H_priceBehind_14 rfl ?_
    refine r_iload_n (pc := 16) (i := 3) d_H_priceBehind_16 rfl rfl ?_
    refine r_icmp_ge (pc := 17) (tgt := 52) d_H_priceBehind_17 (by rfl) ?_ ?_
    · refine r_aload_n (pc := 52) (i := 0) d_H_priceBehind_52 rfl rfl ?_
      refine r_getf (pc := 53) (ci := 11) (k := 5) (C := "CricketHay") (T := F_11) (N := 13) (v := .ref 51) (fun s => Std.k s (lc hn rfl) kq_0) rfl (Nat.le_of_ble_eq_true rfl) rfl w_427 (fun s => vr rfl (Std.r s (lc hn rfl) rq_0_5)) d_H_priceBehind_53 ?_
      refine r_aload_n (pc := 56) (i := 0) d_H_priceBehind_56 rfl rfl ?_
      refine r_gd (fun cq1 rcq1 kcq1 => ?_)
      refine r_getf (pc := 57) (ci := 11) (k := 1) (C := "CricketHay") (T := F_11) (N := 13) (v := .ref cq1) (fun s => Std.k s (lc hn rfl) kq_0) rfl (Nat.le_of_ble_eq_true rfl) rfl w_423 (fun _ => vr rfl rcq1) d_H_priceBehind_57 ?_
      refine r_aload_n (pc := 60) (i := 0) d_H_priceBehind_60 rfl rfl ?_
      refine r_getf (pc := 61) (ci := 11) (k := 4) (C := "CricketHay") (T := F_11) (N := 13) (v := .ref 44) (fun s => Std.k s (lc hn rfl) kq_0) rfl (Nat.le_of_ble_eq_true rfl) rfl w_426 (fun s => vr rfl (Std.r s (lc hn rfl) rq_0_4)) d_H_priceBehind_61 ?_
      refine r_cVv (pc := 64) (T := F_2) (N := 2) (st := []) (ok_Choir_tune hn cq1 kcq1 44 kq_44 h) (fun s => Std.k s (lc hn rfl) kq_51) rfl w_668 w_6 w_665 w_666 w_667 hy_Choir_tune ⟨Nat.le_of_ble_eq_true rfl, Nat.le_of_ble_eq_true rfl⟩ ⟨Nat.le_of_ble_eq_true rfl, Nat.le_of_ble_eq_true rfl⟩ rfl (Nat.le_of_ble_eq_true rfl) d_H_priceBehind_64 (fun hq2 => ?_)
      refine r_aload_n (pc := 67) (i := 0) d_H_priceBehind_67 rfl rfl ?_
      refine r_getf (pc := 68) (ci := 11) (k := 5) (C := "CricketHay") (T := F_11) (N := 13) (v := .ref 51) (fun s => Std.k s (lc hn rfl) kq_0) rfl (Nat.le_of_ble_eq_true rfl) rfl w_427 (fun s => vr rfl (Std.r s (lc hn rfl) rq_0_5)) d_H_priceBehind_68 ?_
      refine r_iload_n (pc := 71) (i := 1) d_H_priceBehind_71 rfl rfl ?_
      refine r_iload_n (pc := 72) (i := 2) d_H_priceBehind_72 rfl rfl ?_
      refine r_cVi (pc := 73) (T := F_2) (N := 2) (st := []) (ok_Choir_half hn a1 a2 hq2) (fun s => Std.k s (lc hn rfl) kq_51) rfl w_726 w_6 w_723 w_724 w_725 hy_Choir_half ⟨Nat.le_of_ble_eq_true rfl, Nat.le_of_ble_eq_true rfl⟩ ⟨Nat.le_of_ble_eq_true rfl, Nat.le_of_ble_eq_true rfl⟩ rfl (Nat.le_of_ble_eq_true rfl) d_H_priceBehind_73 (fun rq3 hq4 => ?_)
      exact r_iret (pc := 76) rfl d_H_priceBehind_76
    · refine r_aload_n (pc := 20) (i := 0) d_H_priceBehind_20 rfl rfl ?_
      refine r_getf (pc := 21) (ci := 11) (k := 4) (C := "CricketHay") (T := F_11) (N := 13) (v := .ref 44) (fun s => Std.k s (lc hn rfl) kq_0) rfl (Nat.le_of_ble_eq_true rfl) rfl w_426 (fun s => vr rfl (Std.r s (lc hn rfl) rq_0_4)) d_H_priceBehind_21 ?_
      refine r_aload_n (pc := 24) (i := 0) d_H_priceBehind_24 rfl rfl ?_
      refine r_gd (fun cq5 rcq5 kcq5 => ?_)
      refine r_getf (pc := 25) (ci := 11) (k := 1) (C := "CricketHay") (T := F_11) (N := 13) (v := .ref cq5) (fun s => Std.k s (lc hn rfl) kq_0) rfl (Nat.le_of_ble_eq_true rfl) rfl w_423 (fun _ => vr rfl rcq5) d_H_priceBehind_25 ?_
      refine r_iload (pc := 28) d_H_priceBehind_28 rfl ?_
      refine r_iload (pc := 30) d_H_priceBehind_30 rfl ?_
      refine r_ishr (pc := 32) d_H_priceBehind_32 ?_
      refine r_iconst (pc := 33) (v := 1) d_H_priceBehind_33 (by rfl) ?_
      refine r_iand (pc := 34) d_H_priceBehind_34 ?_
      refine r_if_eq (pc := 35) (tgt := 42) d_H_priceBehind_35 (by rfl) ?_ ?_
      · refine r_iconst (pc := 42) (v := 0) d_H_priceBehind_42 (by rfl) ?_
        exact r_wk (o_H_priceBehind_b43 hn ih x5 cq5 kcq5 (0 : Int32) h) ⟨rfl, ⟨rfl, ⟨rfl, ⟨rfl, ⟨rfl, ⟨rfl, trivial⟩⟩⟩⟩⟩⟩
      · refine r_iconst (pc := 38) (v := 1) d_H_priceBehind_38 (by rfl) ?_
        refine r_goto (pc := 39) (tgt := 43) d_H_priceBehind_39 (by rfl) ?_
        exact r_wk (o_H_priceBehind_b43 hn ih x5 cq5 kcq5 (1 : Int32) h) ⟨rfl, ⟨rfl, ⟨rfl, ⟨rfl, ⟨rfl, ⟨rfl, trivial⟩⟩⟩⟩⟩⟩
def f_H_priceBehind  (a1 : Int32) (a2 : Int32) (a3 : Int32) (a4 : Int32) (h : AH) : Option (Int32 × AH) :=
  bV (f_Yard_copy 44 37 h) fun hq1 =>
  f_H_priceBehind_l14 a1 a2 a3 a4 FU (0 : Int32) hq1
set_option maxHeartbeats 2000000 in
theorem ok_H_priceBehind {G : AE} {n : Nat} (hn : NN ≤ n)  (a1 : Int32) (a2 : Int32) (a3 : Int32) (a4 : Int32) (h : AH) : OK G n y_H_priceBehind (6) φI [.ref 0, .int a1, .int a2, .int a3, .int a4] h (f_H_priceBehind a1 a2 a3 a4 h) := by
  refine ok_of (y := y_H_priceBehind) (lv0 := [some (.ref 0), some (.int a1), some (.int a2), some (.int a3), some (.int a4), none]) (by decide +kernel) (Nat.le_of_ble_eq_true rfl) ⟨rfl, ⟨rfl, ⟨rfl, ⟨rfl, ⟨rfl, trivial⟩⟩⟩⟩⟩ ?_
  rw [f_H_priceBehind]
  refine r_aload_n (pc := 0) (i := 0) d_H_priceBehind_0 rfl rfl ?_
  refine r_getf (pc := 1) (ci := 11) (k := 4) (C := "CricketHay") (T := F_11) (N := 13) (v := .ref 44) (fun s => Std.k s (lc hn rfl) kq_0) rfl (Nat.le_of_ble_eq_true rfl) rfl w_426 (fun s => vr rfl (Std.r s (lc hn rfl) rq_0_4)) d_H_priceBehind_1 ?_
  refine r_aload_n (pc := 4) (i := 0) d_H_priceBehind_4 rfl rfl ?_
  refine r_getf (pc := 5) (ci := 11) (k := 3) (C := "CricketHay") (T := F_11) (N := 13) (v := .ref 37) (fun s => Std.k s (lc hn rfl) kq_0) rfl (Nat.le_of_ble_eq_true rfl) rfl w_425 (fun s => vr rfl (Std.r s (lc hn rfl) rq_0_3)) d_H_priceBehind_5 ?_
  refine r_cVv (pc := 8) (T := F_10) (N := 10) (st := []) (ok_Yard_copy hn 44 kq_44 37 kq_37 h) (fun s => Std.k s (lc hn rfl) kq_44) rfl w_762 w_5 w_822 w_760 w_761 hy_Yard_copy ⟨Nat.le_of_ble_eq_true rfl, Nat.le_of_ble_eq_true rfl⟩ ⟨Nat.le_of_ble_eq_true rfl, Nat.le_of_ble_eq_true rfl⟩ rfl (Nat.le_of_ble_eq_true rfl) d_H_priceBehind_8 (fun hq1 => ?_)
  refine r_iconst (pc := 11) (v := 0) d_H_priceBehind_11 (by rfl) ?_
  refine r_istore (pc := 12) (lv1 := [some (.ref 0), some (.int a1), some (.int a2), some (.int a3), some (.int a4), some (.int (0 : Int32))]) d_H_priceBehind_12 (Nat.le_of_ble_eq_true rfl) rfl ?_
  exact r_wk (o_H_priceBehind_l14 hn FU (0 : Int32) hq1) ⟨rfl, ⟨rfl, ⟨rfl, ⟨rfl, ⟨rfl, ⟨rfl, trivial⟩⟩⟩⟩⟩⟩

def f_H_commonDivisor_l7  (a0 : Int32) (a1 : Int32)  : Nat → Int32 → Int32 → Int32 → AH → Option (Int32 × AH)
  | 0, _, _, _, _ => none
  | n + 1, x2, x3, x4, h =>
    if (100 : Int32) ≤ x4 then
      some (x2, h)
    else
      if x3 = 0 then
        some (x2, h)
      else
        gz x3 <|
        lt (x2 - x2 / x3 * x3) fun xq2 =>
        lt (x4 + (1 : Int32)) fun xq3 =>
        f_H_commonDivisor_l7 a0 a1 n x3 xq2 xq3 h
set_option maxHeartbeats 2000000 in
theorem o_H_commonDivisor_l7 {G : AE} {n : Nat} (hn : NN ≤ n)  {a0 : Int32} {a1 : Int32}   : ∀ (n0 : Nat) (x2 : Int32) (x3 : Int32) (x4 : Int32) (h : AH), AJ G n y_H_commonDivisor (1) φI 7 [none, none, some (.int x2), some (.int x3), some (.int x4), none] [] h (f_H_commonDivisor_l7 a0 a1 n0 x2 x3 x4 h) := by
  intro n0
  induction n0 with
  | zero => intros; exact r_none
  | succ n0 ih =>
    intro x2 x3 x4 h
    rw [f_H_commonDivisor_l7]
    refine r_iload (pc := 7) d_H_commonDivisor_7 rfl ?_
    refine r_bipush (pc := 9) (v := 100) d_H_commonDivisor_9 (by rfl) ?_
    refine r_icmp_ge (pc := 11) (tgt := 34) d_H_commonDivisor_11 (by rfl) ?_ ?_
    · refine r_iload_n (pc := 34) (i := 2) d_H_commonDivisor_34 rfl rfl ?_
      exact r_iret (pc := 35) rfl d_H_commonDivisor_35
    · refine r_iload_n (pc := 14) (i := 3) d_H_commonDivisor_14 rfl rfl ?_
      refine r_if_eq (pc := 15) (tgt := 34) d_H_commonDivisor_15 (by rfl) ?_ ?_
      · refine r_iload_n (pc := 34) (i := 2) d_H_commonDivisor_34 rfl rfl ?_
        exact r_iret (pc := 35) rfl d_H_commonDivisor_35
      · refine r_iload_n (pc := 18) (i := 2) d_H_commonDivisor_18 rfl rfl ?_
        refine r_iload_n (pc := 19) (i := 3) d_H_commonDivisor_19 rfl rfl ?_
        refine r_gz (fun zq1 => ?_)
        refine r_iremC (pc := 20) zq1 d_H_commonDivisor_20 ?_
        refine r_ltI (fun xq2 => ?_)
        refine r_istore (pc := 21) (lv1 := [none, none, some (.int x2), some (.int x3), some (.int x4), some (.int xq2)]) d_H_commonDivisor_21 (Nat.le_of_ble_eq_true rfl) rfl ?_
        refine r_iload_n (pc := 23) (i := 3) d_H_commonDivisor_23 rfl rfl ?_
        refine r_istore_n (pc := 24) (i := 2) (lv1 := [none, none, some (.int x3), some (.int x3), some (.int x4), some (.int xq2)]) d_H_commonDivisor_24 rfl (Nat.le_of_ble_eq_true rfl) rfl ?_
        refine r_iload (pc := 25) d_H_commonDivisor_25 rfl ?_
        refine r_istore_n (pc := 27) (i := 3) (lv1 := [none, none, some (.int x3), some (.int xq2), some (.int x4), some (.int xq2)]) d_H_commonDivisor_27 rfl (Nat.le_of_ble_eq_true rfl) rfl ?_
        refine r_ltE (fun xq3 exq3 => ?_)
        refine r_iinc (pc := 28) (v := xq3) (lv1 := [none, none, some (.int x3), some (.int xq2), some (.int xq3), some (.int xq2)]) d_H_commonDivisor_28 rfl exq3.symm (Nat.le_of_ble_eq_true rfl) rfl ?_
        refine r_goto (pc := 31) (tgt := 7) d_H_commonDivisor_31 (by rfl) ?_
        exact r_wk (ih x3 xq2 xq3 h) ⟨rfl, ⟨rfl, ⟨rfl, trivial⟩⟩⟩
def f_H_commonDivisor  (a0 : Int32) (a1 : Int32) (h : AH) : Option (Int32 × AH) :=
  f_H_commonDivisor_l7 a0 a1 FU a0 a1 (0 : Int32) h
set_option maxHeartbeats 2000000 in
theorem ok_H_commonDivisor {G : AE} {n : Nat} (hn : NN ≤ n)  (a0 : Int32) (a1 : Int32) (h : AH) : OK G n y_H_commonDivisor (1) φI [.int a0, .int a1] h (f_H_commonDivisor a0 a1 h) := by
  refine ok_of (y := y_H_commonDivisor) (lv0 := [some (.int a0), some (.int a1), none, none, none, none]) (by decide +kernel) (Nat.le_of_ble_eq_true rfl) ⟨rfl, ⟨rfl, trivial⟩⟩ ?_
  rw [f_H_commonDivisor]
  refine r_iload_n (pc := 0) (i := 0) d_H_commonDivisor_0 rfl rfl ?_
  refine r_istore_n (pc := 1) (i := 2) (lv1 := [some (.int a0), some (.int a1), some (.int a0), none, none, none]) d_H_commonDivisor_1 rfl (Nat.le_of_ble_eq_true rfl) rfl ?_
  refine r_iload_n (pc := 2) (i := 1) d_H_commonDivisor_2 rfl rfl ?_
  refine r_istore_n (pc := 3) (i := 3) (lv1 := [some (.int a0), some (.int a1), some (.int a0), some (.int a1), none, none]) d_H_commonDivisor_3 rfl (Nat.le_of_ble_eq_true rfl) rfl ?_
  refine r_iconst (pc := 4) (v := 0) d_H_commonDivisor_4 (by rfl) ?_
  refine r_istore (pc := 5) (lv1 := [some (.int a0), some (.int a1), some (.int a0), some (.int a1), some (.int (0 : Int32)), none]) d_H_commonDivisor_5 (Nat.le_of_ble_eq_true rfl) rfl ?_
  exact r_wk (o_H_commonDivisor_l7 hn FU a0 a1 (0 : Int32) h) ⟨rfl, ⟨rfl, ⟨rfl, trivial⟩⟩⟩

def f_H_partOf_l5  (a0 : Int32) (a1 : Int32) (a2 : Int32)  : Nat → Int32 → Int32 → AH → Option (Int32 × AH)
  | 0, _, _, _ => none
  | n + 1, x3, x4, h =>
    if a1 ≤ x4 then
      bI (f_H_commonDivisor x3 a0 h) fun rq1 hq2 =>
      if 0 < rq1 then
        if ¬ a2 = 0 then
          gz rq1 <|
          some ((x3 / rq1), hq2)
        else
          gz rq1 <|
          some ((a0 / rq1), hq2)
      else
        some ((-1 : Int32), hq2)
    else
      lt (x3 * (100 : Int32)) fun xq5 =>
      lt (x4 + (1 : Int32)) fun xq6 =>
      f_H_partOf_l5 a0 a1 a2 n xq5 xq6 h
set_option maxHeartbeats 2000000 in
theorem o_H_partOf_l5 {G : AE} {n : Nat} (hn : NN ≤ n)  {a0 : Int32} {a1 : Int32} {a2 : Int32}   : ∀ (n0 : Nat) (x3 : Int32) (x4 : Int32) (h : AH), AJ G n y_H_partOf (2) φI 5 [some (.int a0), some (.int a1), some (.int a2), some (.int x3), some (.int x4)] [] h (f_H_partOf_l5 a0 a1 a2 n0 x3 x4 h) := by
  intro n0
  induction n0 with
  | zero => intros; exact r_none
  | succ n0 ih =>
    intro x3 x4 h
    rw [f_H_partOf_l5]
    refine r_iload (pc := 5) d_H_partOf_5 rfl ?_
    refine r_iload_n (pc := 7) (i := 1) d_H_partOf_7 rfl rfl ?_
    refine r_icmp_ge (pc := 8) (tgt := 22) d_H_partOf_8 (by rfl) ?_ ?_
    · refine r_iload_n (pc := 22) (i := 3) d_H_partOf_22 rfl rfl ?_
      refine r_iload_n (pc := 23) (i := 0) d_H_partOf_23 rfl rfl ?_
      refine r_cSi (pc := 24) (st := []) (ok_H_commonDivisor hn x3 a0 h) w_921 w_1 w_919 w_920 hy_H_commonDivisor ⟨Nat.le_of_ble_eq_true rfl, Nat.le_of_ble_eq_true rfl⟩ ⟨Nat.le_of_ble_eq_true rfl, Nat.le_of_ble_eq_true rfl⟩ rfl (Nat.le_of_ble_eq_true rfl) d_H_partOf_24 (fun rq1 hq2 => ?_)
      refine r_istore (pc := 27) (lv1 := [some (.int a0), some (.int a1), some (.int a2), some (.int x3), some (.int rq1)]) d_H_partOf_27 (Nat.le_of_ble_eq_true rfl) rfl ?_
      refine r_iload (pc := 29) d_H_partOf_29 rfl ?_
      refine r_if_gt (pc := 31) (tgt := 36) d_H_partOf_31 (by rfl) ?_ ?_
      · refine r_iload_n (pc := 36) (i := 2) d_H_partOf_36 rfl rfl ?_
        refine r_if_ne (pc := 37) (tgt := 47) d_H_partOf_37 (by rfl) ?_ ?_
        · refine r_iload_n (pc := 47) (i := 3) d_H_partOf_47 rfl rfl ?_
          refine r_iload (pc := 48) d_H_partOf_48 rfl ?_
          refine r_gz (fun zq3 => ?_)
          refine r_idivC (pc := 50) zq3 d_H_partOf_50 ?_
          exact r_iret (pc := 51) rfl d_H_partOf_51
        · refine r_iload_n (pc := 40) (i := 0) d_H_partOf_40 rfl rfl ?_
          refine r_iload (pc := 41) d_H_partOf_41 rfl ?_
          refine r_gz (fun zq4 => ?_)
          refine r_idivC (pc := 43) zq4 d_H_partOf_43 ?_
          refine r_goto (pc := 44) (tgt := 51) d_H_partOf_44 (by rfl) ?_
          exact r_iret (pc := 51) rfl d_H_partOf_51
      · refine r_iconst (pc := 34) (v := -1) d_H_partOf_34 (by rfl) ?_
        exact r_iret (pc := 35) rfl d_H_partOf_35
    · refine r_iload_n (pc := 11) (i := 3) d_H_partOf_11 rfl rfl ?_
      refine r_bipush (pc := 12) (v := 100) d_H_partOf_12 (by rfl) ?_
      refine r_imul (pc := 14) d_H_partOf_14 ?_
      refine r_ltI (fun xq5 => ?_)
      refine r_istore_n (pc := 15) (i := 3) (lv1 := [some (.int a0), some (.int a1), some (.int a2), some (.int xq5), some (.int x4)]) d_H_partOf_15 rfl (Nat.le_of_ble_eq_true rfl) rfl ?_
      refine r_ltE (fun xq6 exq6 => ?_)
      refine r_iinc (pc := 16) (v := xq6) (lv1 := [some (.int a0), some (.int a1), some (.int a2), some (.int xq5), some (.int xq6)]) d_H_partOf_16 rfl exq6.symm (Nat.le_of_ble_eq_true rfl) rfl ?_
      refine r_goto (pc := 19) (tgt := 5) d_H_partOf_19 (by rfl) ?_
      exact r_wk (ih xq5 xq6 h) ⟨rfl, ⟨rfl, ⟨rfl, ⟨rfl, ⟨rfl, trivial⟩⟩⟩⟩⟩
def f_H_partOf  (a0 : Int32) (a1 : Int32) (a2 : Int32) (h : AH) : Option (Int32 × AH) :=
  f_H_partOf_l5 a0 a1 a2 FU (1 : Int32) (0 : Int32) h
set_option maxHeartbeats 2000000 in
theorem ok_H_partOf {G : AE} {n : Nat} (hn : NN ≤ n)  (a0 : Int32) (a1 : Int32) (a2 : Int32) (h : AH) : OK G n y_H_partOf (2) φI [.int a0, .int a1, .int a2] h (f_H_partOf a0 a1 a2 h) := by
  refine ok_of (y := y_H_partOf) (lv0 := [some (.int a0), some (.int a1), some (.int a2), none, none]) (by decide +kernel) (Nat.le_of_ble_eq_true rfl) ⟨rfl, ⟨rfl, ⟨rfl, trivial⟩⟩⟩ ?_
  rw [f_H_partOf]
  refine r_iconst (pc := 0) (v := 1) d_H_partOf_0 (by rfl) ?_
  refine r_istore_n (pc := 1) (i := 3) (lv1 := [some (.int a0), some (.int a1), some (.int a2), some (.int (1 : Int32)), none]) d_H_partOf_1 rfl (Nat.le_of_ble_eq_true rfl) rfl ?_
  refine r_iconst (pc := 2) (v := 0) d_H_partOf_2 (by rfl) ?_
  refine r_istore (pc := 3) (lv1 := [some (.int a0), some (.int a1), some (.int a2), some (.int (1 : Int32)), some (.int (0 : Int32))]) d_H_partOf_3 (Nat.le_of_ble_eq_true rfl) rfl ?_
  exact r_wk (o_H_partOf_l5 hn FU (1 : Int32) (0 : Int32) h) ⟨rfl, ⟨rfl, ⟨rfl, ⟨rfl, ⟨rfl, trivial⟩⟩⟩⟩⟩

def f_H_mean_l36  (a1 : Int32) (a2 : Int32) (a3 : Int32) (a4 : Int32)  : Nat → Int32 → Int32 → AH → Option (Int32 × AH)
  | 0, _, _, _ => none
  | n + 1, x5, x6, h =>
    if ((1 : Int32) <<< (a3 &&& 31)) ≤ x6 then
      bI (f_H_partOf x5 a3 a4 h) fun rq1 hq2 =>
      some (rq1, hq2)
    else
      bI (f_H_weight a3 x6 h) fun rq3 hq4 =>
      bI (f_H_priceBehind a1 a2 a3 x6 hq4) fun rq5 hq6 =>
      lt (x5 + (rq3 * rq5)) fun xq7 =>
      lt (x6 + (1 : Int32)) fun xq8 =>
      f_H_mean_l36 a1 a2 a3 a4 n xq7 xq8 hq6
set_option maxHeartbeats 2000000 in
theorem o_H_mean_l36 {G : AE} {n : Nat} (hn : NN ≤ n)  {a1 : Int32} {a2 : Int32} {a3 : Int32} {a4 : Int32}   : ∀ (n0 : Nat) (x5 : Int32) (x6 : Int32) (h : AH), AJ G n y_H_mean (7) φI 36 [some (.ref 0), some (.int a1), some (.int a2), some (.int a3), some (.int a4), some (.int x5), some (.int x6)] [] h (f_H_mean_l36 a1 a2 a3 a4 n0 x5 x6 h) := by
  intro n0
  induction n0 with
  | zero => intros; exact r_none
  | succ n0 ih =>
    intro x5 x6 h
    rw [f_H_mean_l36]
    refine r_iload (pc := 36) d_H_mean_36 rfl ?_
    refine r_iconst (pc := 38) (v := 1) d_H_mean_38 (by rfl) ?_
    refine r_iload_n (pc := 39) (i := 3) d_H_mean_39 rfl rfl ?_
    refine r_ishl (pc := 40) d_H_mean_40 ?_
    refine r_icmp_ge (pc := 41) (tgt := 72) d_H_mean_41 (by rfl) ?_ ?_
    · refine r_iload (pc := 72) d_H_mean_72 rfl ?_
      refine r_iload_n (pc := 74) (i := 3) d_H_mean_74 rfl rfl ?_
      refine r_iload (pc := 75) d_H_mean_75 rfl ?_
      refine r_cSi (pc := 77) (st := []) (ok_H_partOf hn x5 a3 a4 h) w_918 w_1 w_916 w_917 hy_H_partOf ⟨Nat.le_of_ble_eq_true rfl, Nat.le_of_ble_eq_true rfl⟩ ⟨Nat.le_of_ble_eq_true rfl, Nat.le_of_ble_eq_true rfl⟩ rfl (Nat.le_of_ble_eq_true rfl) d_H_mean_77 (fun rq1 hq2 => ?_)
      exact r_iret (pc := 80) rfl d_H_mean_80
    · refine r_iload (pc := 44) d_H_mean_44 rfl ?_
      refine r_aload_n (pc := 46) (i := 0) d_H_mean_46 rfl rfl ?_
      refine r_iload_n (pc := 47) (i := 3) d_H_mean_47 rfl rfl ?_
      refine r_iload (pc := 48) d_H_mean_48 rfl ?_
      refine r_cVi (pc := 50) (T := F_11) (N := 13) (st := [.int x5]) (ok_H_weight hn a3 x6 h) (fun s => Std.k s (lc hn rfl) kq_0) rfl w_910 w_1 w_907 w_909 ws_35 hy_H_weight ⟨Nat.le_of_ble_eq_true rfl, Nat.le_of_ble_eq_true rfl⟩ ⟨Nat.le_of_ble_eq_true rfl, Nat.le_of_ble_eq_true rfl⟩ rfl (Nat.le_of_ble_eq_true rfl) d_H_mean_50 (fun rq3 hq4 => ?_)
      refine r_aload_n (pc := 53) (i := 0) d_H_mean_53 rfl rfl ?_
      refine r_iload_n (pc := 54) (i := 1) d_H_mean_54 rfl rfl ?_
      refine r_iload_n (pc := 55) (i := 2) d_H_mean_55 rfl rfl ?_
      refine r_iload_n (pc := 56) (i := 3) d_H_mean_56 rfl rfl ?_
      refine r_iload (pc := 57) d_H_mean_57 rfl ?_
      refine r_cVi (pc := 59) (T := F_11) (N := 13) (st := [.int rq3, .int x5]) (ok_H_priceBehind hn a1 a2 a3 x6 hq4) (fun s => Std.k s (lc hn rfl) kq_0) rfl w_914 w_1 w_911 w_913 ws_36 hy_H_priceBehind ⟨Nat.le_of_ble_eq_true rfl, Nat.le_of_ble_eq_true rfl⟩ ⟨Nat.le_of_ble_eq_true rfl, Nat.le_of_ble_eq_true rfl⟩ rfl (Nat.le_of_ble_eq_true rfl) d_H_mean_59 (fun rq5 hq6 => ?_)
      refine r_imul (pc := 62) d_H_mean_62 ?_
      refine r_iadd (pc := 63) d_H_mean_63 ?_
      refine r_ltI (fun xq7 => ?_)
      refine r_istore (pc := 64) (lv1 := [some (.ref 0), some (.int a1), some (.int a2), some (.int a3), some (.int a4), some (.int xq7), some (.int x6)]) d_H_mean_64 (Nat.le_of_ble_eq_true rfl) rfl ?_
      refine r_ltE (fun xq8 exq8 => ?_)
      refine r_iinc (pc := 66) (v := xq8) (lv1 := [some (.ref 0), some (.int a1), some (.int a2), some (.int a3), some (.int a4), some (.int xq7), some (.int xq8)]) d_H_mean_66 rfl exq8.symm (Nat.le_of_ble_eq_true rfl) rfl ?_
      refine r_goto (pc := 69) (tgt := 36) d_H_mean_69 (by rfl) ?_
      exact r_wk (ih xq7 xq8 hq6) ⟨rfl, ⟨rfl, ⟨rfl, ⟨rfl, ⟨rfl, ⟨rfl, ⟨rfl, trivial⟩⟩⟩⟩⟩⟩⟩
def f_H_mean  (a1 : Int32) (a2 : Int32) (a3 : Int32) (a4 : Int32) (h : AH) : Option (Int32 × AH) :=
  bI (f_H_areTwo a1 a2 h) fun rq1 hq2 =>
  if rq1 = 0 then
    some ((-1 : Int32), hq2)
  else
    bI (f_H_within a3 (0 : Int32) (3 : Int32) hq2) fun rq3 hq4 =>
    if rq3 = 0 then
      some ((-1 : Int32), hq4)
    else
      bI (f_H_within a4 (0 : Int32) (1 : Int32) hq4) fun rq5 hq6 =>
      if ¬ rq5 = 0 then
        f_H_mean_l36 a1 a2 a3 a4 FU (0 : Int32) (0 : Int32) hq6
      else
        some ((-1 : Int32), hq6)
set_option maxHeartbeats 2000000 in
theorem ok_H_mean {G : AE} {n : Nat} (hn : NN ≤ n)  (a1 : Int32) (a2 : Int32) (a3 : Int32) (a4 : Int32) (h : AH) : OK G n y_H_mean (7) φI [.ref 0, .int a1, .int a2, .int a3, .int a4] h (f_H_mean a1 a2 a3 a4 h) := by
  refine ok_of (y := y_H_mean) (lv0 := [some (.ref 0), some (.int a1), some (.int a2), some (.int a3), some (.int a4), none, none]) (by decide +kernel) (Nat.le_of_ble_eq_true rfl) ⟨rfl, ⟨rfl, ⟨rfl, ⟨rfl, ⟨rfl, trivial⟩⟩⟩⟩⟩ ?_
  rw [f_H_mean]
  refine r_aload_n (pc := 0) (i := 0) d_H_mean_0 rfl rfl ?_
  refine r_iload_n (pc := 1) (i := 1) d_H_mean_1 rfl rfl ?_
  refine r_iload_n (pc := 2) (i := 2) d_H_mean_2 rfl rfl ?_
  refine r_cVi (pc := 3) (T := F_11) (N := 13) (st := []) (ok_H_areTwo hn a1 a2 h) (fun s => Std.k s (lc hn rfl) kq_0) rfl w_722 w_1 w_719 w_721 ws_23 hy_H_areTwo ⟨Nat.le_of_ble_eq_true rfl, Nat.le_of_ble_eq_true rfl⟩ ⟨Nat.le_of_ble_eq_true rfl, Nat.le_of_ble_eq_true rfl⟩ rfl (Nat.le_of_ble_eq_true rfl) d_H_mean_3 (fun rq1 hq2 => ?_)
  refine r_if_eq (pc := 6) (tgt := 28) d_H_mean_6 (by rfl) ?_ ?_
  · refine r_iconst (pc := 28) (v := -1) d_H_mean_28 (by rfl) ?_
    exact r_iret (pc := 29) rfl d_H_mean_29
  · refine r_iload_n (pc := 9) (i := 3) d_H_mean_9 rfl rfl ?_
    refine r_iconst (pc := 10) (v := 0) d_H_mean_10 (by rfl) ?_
    refine r_iconst (pc := 11) (v := 3) d_H_mean_11 (by rfl) ?_
    refine r_cSi (pc := 12) (st := []) (ok_H_within hn a3 (0 : Int32) (3 : Int32) hq2) w_817 w_1 w_815 w_816 hy_H_within ⟨Nat.le_of_ble_eq_true rfl, Nat.le_of_ble_eq_true rfl⟩ ⟨Nat.le_of_ble_eq_true rfl, Nat.le_of_ble_eq_true rfl⟩ rfl (Nat.le_of_ble_eq_true rfl) d_H_mean_12 (fun rq3 hq4 => ?_)
    refine r_if_eq (pc := 15) (tgt := 28) d_H_mean_15 (by rfl) ?_ ?_
    · refine r_iconst (pc := 28) (v := -1) d_H_mean_28 (by rfl) ?_
      exact r_iret (pc := 29) rfl d_H_mean_29
    · refine r_iload (pc := 18) d_H_mean_18 rfl ?_
      refine r_iconst (pc := 20) (v := 0) d_H_mean_20 (by rfl) ?_
      refine r_iconst (pc := 21) (v := 1) d_H_mean_21 (by rfl) ?_
      refine r_cSi (pc := 22) (st := []) (ok_H_within hn a4 (0 : Int32) (1 : Int32) hq4) w_817 w_1 w_815 w_816 hy_H_within ⟨Nat.le_of_ble_eq_true rfl, Nat.le_of_ble_eq_true rfl⟩ ⟨Nat.le_of_ble_eq_true rfl, Nat.le_of_ble_eq_true rfl⟩ rfl (Nat.le_of_ble_eq_true rfl) d_H_mean_22 (fun rq5 hq6 => ?_)
      refine r_if_ne (pc := 25) (tgt := 30) d_H_mean_25 (by rfl) ?_ ?_
      · refine r_iconst (pc := 30) (v := 0) d_H_mean_30 (by rfl) ?_
        refine r_istore (pc := 31) (lv1 := [some (.ref 0), some (.int a1), some (.int a2), some (.int a3), some (.int a4), some (.int (0 : Int32)), none]) d_H_mean_31 (Nat.le_of_ble_eq_true rfl) rfl ?_
        refine r_iconst (pc := 33) (v := 0) d_H_mean_33 (by rfl) ?_
        refine r_istore (pc := 34) (lv1 := [some (.ref 0), some (.int a1), some (.int a2), some (.int a3), some (.int a4), some (.int (0 : Int32)), some (.int (0 : Int32))]) d_H_mean_34 (Nat.le_of_ble_eq_true rfl) rfl ?_
        exact r_wk (o_H_mean_l36 hn FU (0 : Int32) (0 : Int32) hq6) ⟨rfl, ⟨rfl, ⟨rfl, ⟨rfl, ⟨rfl, ⟨rfl, ⟨rfl, trivial⟩⟩⟩⟩⟩⟩⟩
      · refine r_iconst (pc := 28) (v := -1) d_H_mean_28 (by rfl) ?_
        exact r_iret (pc := 29) rfl d_H_mean_29

def f_H_hearBreaths_l23  (a1 : Int32) (a2 : Int32) (a3 : Int32) (k14 : Int32 → AH → Option AH) : Nat → Int32 → Int32 → AH → Option AH
  | 0, _, _, _ => none
  | n + 1, x4, x5, h =>
    if (5 : Int32) ≤ x5 then
      lt (x4 + (1 : Int32)) fun xq1 =>
      k14 xq1 h
    else
      gx a1 6 <|
      lt (sI h 49 (ix a1) (x4 - (2 : Int32))) fun hq3 =>
      gx a2 6 <|
      lt (sI hq3 49 (ix a2) (x5 - (2 : Int32))) fun hq5 =>
      gd hq5 0 1 7 fun cq6 =>
      bV (f_Choir_tune cq6 44 hq5) fun hq7 =>
      bI (f_Choir_half a1 a2 hq7) fun rq8 hq9 =>
      gx ((x4 * (5 : Int32)) + x5) 25 <|
      lt (sI hq9 382 (ix ((x4 * (5 : Int32)) + x5)) (a3 * rq8)) fun hq11 =>
      lt (x5 + (1 : Int32)) fun xq12 =>
      f_H_hearBreaths_l23 a1 a2 a3 k14 n x4 xq12 hq11
set_option maxHeartbeats 2000000 in
theorem o_H_hearBreaths_l23 {G : AE} {n : Nat} (hn : NN ≤ n)  {a1 : Int32} {a2 : Int32} {a3 : Int32}  {k14 : Int32 → AH → Option AH} (hk14 : ∀ (x4 : Int32) (h : AH), AJ G n y_H_hearBreaths (6) φV 14 [some (.ref 0), some (.int a1), some (.int a2), some (.int a3), some (.int x4), none] [] h (k14 x4 h)) : ∀ (n0 : Nat) (x4 : Int32) (x5 : Int32) (h : AH), AJ G n y_H_hearBreaths (6) φV 23 [some (.ref 0), some (.int a1), some (.int a2), some (.int a3), some (.int x4), some (.int x5)] [] h (f_H_hearBreaths_l23 a1 a2 a3 k14 n0 x4 x5 h) := by
  intro n0
  induction n0 with
  | zero => intros; exact r_none
  | succ n0 ih =>
    intro x4 x5 h
    rw [f_H_hearBreaths_l23]
    refine r_iload (pc := 23) d_H_hearBreaths_23 rfl ?_
    refine r_iconst (pc := 25) (v := 5) d_H_hearBreaths_25 (by rfl) ?_
    refine r_icmp_ge (pc := 26) (tgt := 99) d_H_hearBreaths_26 (by rfl) ?_ ?_
    · refine r_ltE (fun xq1 exq1 => ?_)
      refine r_iinc (pc := 99) (v := xq1) (lv1 := [some (.ref 0), some (.int a1), some (.int a2), some (.int a3), some (.int xq1), some (.int x5)]) d_H_hearBreaths_99 rfl exq1.symm (Nat.le_of_ble_eq_true rfl) rfl ?_
      refine r_goto (pc := 102) (tgt := 14) d_H_hearBreaths_102 (by rfl) ?_
      exact r_wk (hk14 xq1 h) ⟨rfl, ⟨rfl, ⟨rfl, ⟨rfl, ⟨rfl, trivial⟩⟩⟩⟩⟩
    · refine r_aload_n (pc := 29) (i := 0) d_H_hearBreaths_29 rfl rfl ?_
      refine r_getf (pc := 30) (ci := 11) (k := 4) (C := "CricketHay") (T := F_11) (N := 13) (v := .ref 44) (fun s => Std.k s (lc hn rfl) kq_0) rfl (Nat.le_of_ble_eq_true rfl) rfl w_426 (fun s => vr rfl (Std.r s (lc hn rfl) rq_0_4)) d_H_hearBreaths_30 ?_
      refine r_getf (pc := 33) (ci := 10) (k := 4) (C := "CricketHay$Yard") (T := F_10) (N := 10) (v := .ref 49) (fun s => Std.k s (lc hn rfl) kq_44) rfl (Nat.le_of_ble_eq_true rfl) rfl w_223 (fun s => vr rfl (Std.r s (lc hn rfl) rq_44_4)) d_H_hearBreaths_33 ?_
      refine r_iload_n (pc := 36) (i := 1) d_H_hearBreaths_36 rfl rfl ?_
      refine r_iload (pc := 37) d_H_hearBreaths_37 rfl ?_
      refine r_iconst (pc := 39) (v := 2) d_H_hearBreaths_39 (by rfl) ?_
      refine r_isub (pc := 40) d_H_hearBreaths_40 ?_
      refine r_gx (fun zq2 => ?_)
      refine r_iast (pc := 41) (n := 6) (i0 := (ix a1)) (fun s => Std.k s (lc hn rfl) kq_49) zq2 rfl (fun s => Std.sI s _ _ _) d_H_hearBreaths_41 ?_
      refine r_ltH (fun hq3 => ?_)
      refine r_aload_n (pc := 42) (i := 0) d_H_hearBreaths_42 rfl rfl ?_
      refine r_getf (pc := 43) (ci := 11) (k := 4) (C := "CricketHay") (T := F_11) (N := 13) (v := .ref 44) (fun s => Std.k s (lc hn rfl) kq_0) rfl (Nat.le_of_ble_eq_true rfl) rfl w_426 (fun s => vr rfl (Std.r s (lc hn rfl) rq_0_4)) d_H_hearBreaths_43 ?_
      refine r_getf (pc := 46) (ci := 10) (k := 4) (C := "CricketHay$Yard") (T := F_10) (N := 10) (v := .ref 49) (fun s => Std.k s (lc hn rfl) kq_44) rfl (Nat.le_of_ble_eq_true rfl) rfl w_223 (fun s => vr rfl (Std.r s (lc hn rfl) rq_44_4)) d_H_hearBreaths_46 ?_
      refine r_iload_n (pc := 49) (i := 2) d_H_hearBreaths_49 rfl rfl ?_
      refine r_iload (pc := 50) d_H_hearBreaths_50 rfl ?_
      refine r_iconst (pc := 52) (v := 2) d_H_hearBreaths_52 (by rfl) ?_
      refine r_isub (pc := 53) d_H_hearBreaths_53 ?_
      refine r_gx (fun zq4 => ?_)
      refine r_iast (pc := 54) (n := 6) (i0 := (ix a2)) (fun s => Std.k s (lc hn rfl) kq_49) zq4 rfl (fun s => Std.sI s _ _ _) d_H_hearBreaths_54 ?_
      refine r_ltH (fun hq5 => ?_)
      refine r_aload_n (pc := 55) (i := 0) d_H_hearBreaths_55 rfl rfl ?_
      refine r_getf (pc := 56) (ci := 11) (k := 5) (C := "CricketHay") (T := F_11) (N := 13) (v := .ref 51) (fun s => Std.k s (lc hn rfl) kq_0) rfl (Nat.le_of_ble_eq_true rfl) rfl w_427 (fun s => vr rfl (Std.r s (lc hn rfl) rq_0_5)) d_H_hearBreaths_56 ?_
      refine r_aload_n (pc := 59) (i := 0) d_H_hearBreaths_59 rfl rfl ?_
      refine r_gd (fun cq6 rcq6 kcq6 => ?_)
      refine r_getf (pc := 60) (ci := 11) (k := 1) (C := "CricketHay") (T := F_11) (N := 13) (v := .ref cq6) (fun s => Std.k s (lc hn rfl) kq_0) rfl (Nat.le_of_ble_eq_true rfl) rfl w_423 (fun _ => vr rfl rcq6) d_H_hearBreaths_60 ?_
      refine r_aload_n (pc := 63) (i := 0) d_H_hearBreaths_63 rfl rfl ?_
      refine r_getf (pc := 64) (ci := 11) (k := 4) (C := "CricketHay") (T := F_11) (N := 13) (v := .ref 44) (fun s => Std.k s (lc hn rfl) kq_0) rfl (Nat.le_of_ble_eq_true rfl) rfl w_426 (fun s => vr rfl (Std.r s (lc hn rfl) rq_0_4)) d_H_hearBreaths_64 ?_
      refine r_cVv (pc := 67) (T := F_2) (N := 2) (st := []) (ok_Choir_tune hn cq6 kcq6 44 kq_44 hq5) (fun s => Std.k s (lc hn rfl) kq_51) rfl w_668 w_6 w_665 w_666 w_667 hy_Choir_tune ⟨Nat.le_of_ble_eq_true rfl, Nat.le_of_ble_eq_true rfl⟩ ⟨Nat.le_of_ble_eq_true rfl, Nat.le_of_ble_eq_true rfl⟩ rfl (Nat.le_of_ble_eq_true rfl) d_H_hearBreaths_67 (fun hq7 => ?_)
      refine r_aload_n (pc := 70) (i := 0) d_H_hearBreaths_70 rfl rfl ?_
      refine r_getf (pc := 71) (ci := 11) (k := 12) (C := "CricketHay") (T := F_11) (N := 13) (v := .ref 382) (fun s => Std.k s (lc hn rfl) kq_0) rfl (Nat.le_of_ble_eq_true rfl) rfl w_434 (fun s => vr rfl (Std.r s (lc hn rfl) rq_0_12)) d_H_hearBreaths_71 ?_
      refine r_iload (pc := 74) d_H_hearBreaths_74 rfl ?_
      refine r_iconst (pc := 76) (v := 5) d_H_hearBreaths_76 (by rfl) ?_
      refine r_imul (pc := 77) d_H_hearBreaths_77 ?_
      refine r_iload (pc := 78) d_H_hearBreaths_78 rfl ?_
      refine r_iadd (pc := 80) d_H_hearBreaths_80 ?_
      refine r_iload_n (pc := 81) (i := 3) d_H_hearBreaths_81 rfl rfl ?_
      refine r_aload_n (pc := 82) (i := 0) d_H_hearBreaths_82 rfl rfl ?_
      refine r_getf (pc := 83) (ci := 11) (k := 5) (C := "CricketHay") (T := F_11) (N := 13) (v := .ref 51) (fun s => Std.k s (lc hn rfl) kq_0) rfl (Nat.le_of_ble_eq_true rfl) rfl w_427 (fun s => vr rfl (Std.r s (lc hn rfl) rq_0_5)) d_H_hearBreaths_83 ?_
      refine r_iload_n (pc := 86) (i := 1) d_H_hearBreaths_86 rfl rfl ?_
      refine r_iload_n (pc := 87) (i := 2) d_H_hearBreaths_87 rfl rfl ?_
      refine r_cVi (pc := 88) (T := F_2) (N := 2) (st := [.int a3, .int ((x4 * (5 : Int32)) + x5), .ref 382]) (ok_Choir_half hn a1 a2 hq7) (fun s => Std.k s (lc hn rfl) kq_51) rfl w_726 w_6 w_723 w_724 w_725 hy_Choir_half ⟨Nat.le_of_ble_eq_true rfl, Nat.le_of_ble_eq_true rfl⟩ ⟨Nat.le_of_ble_eq_true rfl, Nat.le_of_ble_eq_true rfl⟩ rfl (Nat.le_of_ble_eq_true rfl) d_H_hearBreaths_88 (fun rq8 hq9 => ?_)
      refine r_imul (pc := 91) d_H_hearBreaths_91 ?_
      refine r_gx (fun zq10 => ?_)
      refine r_iast (pc := 92) (n := 25) (i0 := (ix ((x4 * (5 : Int32)) + x5))) (fun s => Std.k s (lc hn rfl) kq_382) zq10 rfl (fun s => Std.sI s _ _ _) d_H_hearBreaths_92 ?_
      refine r_ltH (fun hq11 => ?_)
      refine r_ltE (fun xq12 exq12 => ?_)
      refine r_iinc (pc := 93) (v := xq12) (lv1 := [some (.ref 0), some (.int a1), some (.int a2), some (.int a3), some (.int x4), some (.int xq12)]) d_H_hearBreaths_93 rfl exq12.symm (Nat.le_of_ble_eq_true rfl) rfl ?_
      refine r_goto (pc := 96) (tgt := 23) d_H_hearBreaths_96 (by rfl) ?_
      exact r_wk (ih x4 xq12 hq11) ⟨rfl, ⟨rfl, ⟨rfl, ⟨rfl, ⟨rfl, ⟨rfl, trivial⟩⟩⟩⟩⟩⟩
def f_H_hearBreaths_l14  (a1 : Int32) (a2 : Int32) (a3 : Int32)  : Nat → Int32 → AH → Option AH
  | 0, _, _ => none
  | n + 1, x4, h =>
    if (5 : Int32) ≤ x4 then
      some h
    else
      f_H_hearBreaths_l23 a1 a2 a3 (f_H_hearBreaths_l14 a1 a2 a3 n) FU x4 (0 : Int32) h
set_option maxHeartbeats 2000000 in
theorem o_H_hearBreaths_l14 {G : AE} {n : Nat} (hn : NN ≤ n)  {a1 : Int32} {a2 : Int32} {a3 : Int32}   : ∀ (n0 : Nat) (x4 : Int32) (h : AH), AJ G n y_H_hearBreaths (6) φV 14 [some (.ref 0), some (.int a1), some (.int a2), some (.int a3), some (.int x4), none] [] h (f_H_hearBreaths_l14 a1 a2 a3 n0 x4 h) := by
  intro n0
  induction n0 with
  | zero => intros; exact r_none
  | succ n0 ih =>
    intro x4 h
    rw [f_H_hearBreaths_l14]
    refine r_iload (pc := 14) d_H_hearBreaths_14 rfl ?_
    refine r_iconst (pc := 16) (v := 5) d_H_hearBreaths_16 (by rfl) ?_
    refine r_icmp_ge (pc := 17) (tgt := 105) d_H_hearBreaths_17 (by rfl) ?_ ?_
    · exact r_vret (pc := 105) rfl d_H_hearBreaths_105
    · refine r_iconst (pc := 20) (v := 0) d_H_hearBreaths_20 (by rfl) ?_
      refine r_istore (pc := 21) (lv1 := [some (.ref 0), some (.int a1), some (.int a2), some (.int a3), some (.int x4), some (.int (0 : Int32))]) d_H_hearBreaths_21 (Nat.le_of_ble_eq_true rfl) rfl ?_
      exact r_wk (o_H_hearBreaths_l23 hn ih FU x4 (0 : Int32) h) ⟨rfl, ⟨rfl, ⟨rfl, ⟨rfl, ⟨rfl, ⟨rfl, trivial⟩⟩⟩⟩⟩⟩
def f_H_hearBreaths  (a1 : Int32) (a2 : Int32) (a3 : Int32) (h : AH) : Option AH :=
  bV (f_Yard_copy 44 37 h) fun hq1 =>
  f_H_hearBreaths_l14 a1 a2 a3 FU (0 : Int32) hq1
set_option maxHeartbeats 2000000 in
theorem ok_H_hearBreaths {G : AE} {n : Nat} (hn : NN ≤ n)  (a1 : Int32) (a2 : Int32) (a3 : Int32) (h : AH) : OK G n y_H_hearBreaths (6) φV [.ref 0, .int a1, .int a2, .int a3] h (f_H_hearBreaths a1 a2 a3 h) := by
  refine ok_of (y := y_H_hearBreaths) (lv0 := [some (.ref 0), some (.int a1), some (.int a2), some (.int a3), none, none]) (by decide +kernel) (Nat.le_of_ble_eq_true rfl) ⟨rfl, ⟨rfl, ⟨rfl, ⟨rfl, trivial⟩⟩⟩⟩ ?_
  rw [f_H_hearBreaths]
  refine r_aload_n (pc := 0) (i := 0) d_H_hearBreaths_0 rfl rfl ?_
  refine r_getf (pc := 1) (ci := 11) (k := 4) (C := "CricketHay") (T := F_11) (N := 13) (v := .ref 44) (fun s => Std.k s (lc hn rfl) kq_0) rfl (Nat.le_of_ble_eq_true rfl) rfl w_426 (fun s => vr rfl (Std.r s (lc hn rfl) rq_0_4)) d_H_hearBreaths_1 ?_
  refine r_aload_n (pc := 4) (i := 0) d_H_hearBreaths_4 rfl rfl ?_
  refine r_getf (pc := 5) (ci := 11) (k := 3) (C := "CricketHay") (T := F_11) (N := 13) (v := .ref 37) (fun s => Std.k s (lc hn rfl) kq_0) rfl (Nat.le_of_ble_eq_true rfl) rfl w_425 (fun s => vr rfl (Std.r s (lc hn rfl) rq_0_3)) d_H_hearBreaths_5 ?_
  refine r_cVv (pc := 8) (T := F_10) (N := 10) (st := []) (ok_Yard_copy hn 44 kq_44 37 kq_37 h) (fun s => Std.k s (lc hn rfl) kq_44) rfl w_762 w_5 w_822 w_760 w_761 hy_Yard_copy ⟨Nat.le_of_ble_eq_true rfl, Nat.le_of_ble_eq_true rfl⟩ ⟨Nat.le_of_ble_eq_true rfl, Nat.le_of_ble_eq_true rfl⟩ rfl (Nat.le_of_ble_eq_true rfl) d_H_hearBreaths_8 (fun hq1 => ?_)
  refine r_iconst (pc := 11) (v := 0) d_H_hearBreaths_11 (by rfl) ?_
  refine r_istore (pc := 12) (lv1 := [some (.ref 0), some (.int a1), some (.int a2), some (.int a3), some (.int (0 : Int32)), none]) d_H_hearBreaths_12 (Nat.le_of_ble_eq_true rfl) rfl ?_
  exact r_wk (o_H_hearBreaths_l14 hn FU (0 : Int32) hq1) ⟨rfl, ⟨rfl, ⟨rfl, ⟨rfl, ⟨rfl, trivial⟩⟩⟩⟩⟩

def f_H_buyerHas  (a1 : Int32) (a2 : Int32) (h : AH) : Option (Int32 × AH) :=
  gx ((a1 * (5 : Int32)) + a2) 25 <|
  some (((-(hI h 382 (ix ((a1 * (5 : Int32)) + a2)))) - ((3 : Int32) * (mab (a1 - (2 : Int32))))), h)
set_option maxHeartbeats 2000000 in
theorem ok_H_buyerHas {G : AE} {n : Nat} (hn : NN ≤ n)  (a1 : Int32) (a2 : Int32) (h : AH) : OK G n y_H_buyerHas (2) φI [.ref 0, .int a1, .int a2] h (f_H_buyerHas a1 a2 h) := by
  refine ok_of (y := y_H_buyerHas) (lv0 := [some (.ref 0), some (.int a1), some (.int a2)]) (by decide +kernel) (Nat.le_of_ble_eq_true rfl) ⟨rfl, ⟨rfl, ⟨rfl, trivial⟩⟩⟩ ?_
  rw [f_H_buyerHas]
  refine r_aload_n (pc := 0) (i := 0) d_H_buyerHas_0 rfl rfl ?_
  refine r_getf (pc := 1) (ci := 11) (k := 12) (C := "CricketHay") (T := F_11) (N := 13) (v := .ref 382) (fun s => Std.k s (lc hn rfl) kq_0) rfl (Nat.le_of_ble_eq_true rfl) rfl w_434 (fun s => vr rfl (Std.r s (lc hn rfl) rq_0_12)) d_H_buyerHas_1 ?_
  refine r_iload_n (pc := 4) (i := 1) d_H_buyerHas_4 rfl rfl ?_
  refine r_iconst (pc := 5) (v := 5) d_H_buyerHas_5 (by rfl) ?_
  refine r_imul (pc := 6) d_H_buyerHas_6 ?_
  refine r_iload_n (pc := 7) (i := 2) d_H_buyerHas_7 rfl rfl ?_
  refine r_iadd (pc := 8) d_H_buyerHas_8 ?_
  refine r_gx (fun zq1 => ?_)
  refine r_iald (pc := 9) (n := 25) (i0 := (ix ((a1 * (5 : Int32)) + a2))) (fun s => Std.k s (lc hn rfl) kq_382) zq1 rfl d_H_buyerHas_9 ?_
  refine r_ineg (pc := 10) d_H_buyerHas_10 ?_
  refine r_iconst (pc := 11) (v := 3) d_H_buyerHas_11 (by rfl) ?_
  refine r_iload_n (pc := 12) (i := 1) d_H_buyerHas_12 rfl rfl ?_
  refine r_iconst (pc := 13) (v := 2) d_H_buyerHas_13 (by rfl) ?_
  refine r_isub (pc := 14) d_H_buyerHas_14 ?_
  refine r_mabs (pc := 15) w_938 w_939 w_18 w_940 (Nat.le_of_ble_eq_true rfl) (Nat.le_of_ble_eq_true rfl) ⟨Nat.le_of_ble_eq_true rfl, Nat.le_of_ble_eq_true rfl⟩ d_H_buyerHas_15 ?_
  refine r_imul (pc := 18) d_H_buyerHas_18 ?_
  refine r_isub (pc := 19) d_H_buyerHas_19 ?_
  exact r_iret (pc := 20) rfl d_H_buyerHas_20

def f_H_buyerStays_l2  (a1 : Int32) (a2 : Int32)  : Nat → Int32 → AH → Option (Int32 × AH)
  | 0, _, _ => none
  | n + 1, x3, h =>
    if (5 : Int32) ≤ x3 then
      some ((1 : Int32), h)
    else
      bI (f_H_buyerHas x3 a2 h) fun rq1 hq2 =>
      bI (f_H_buyerHas a1 a2 hq2) fun rq3 hq4 =>
      if rq1 ≤ rq3 then
        lt (x3 + (1 : Int32)) fun xq5 =>
        f_H_buyerStays_l2 a1 a2 n xq5 hq4
      else
        some ((0 : Int32), hq4)
set_option maxHeartbeats 2000000 in
theorem o_H_buyerStays_l2 {G : AE} {n : Nat} (hn : NN ≤ n)  {a1 : Int32} {a2 : Int32}   : ∀ (n0 : Nat) (x3 : Int32) (h : AH), AJ G n y_H_buyerStays (3) φI 2 [some (.ref 0), some (.int a1), some (.int a2), some (.int x3)] [] h (f_H_buyerStays_l2 a1 a2 n0 x3 h) := by
  intro n0
  induction n0 with
  | zero => intros; exact r_none
  | succ n0 ih =>
    intro x3 h
    rw [f_H_buyerStays_l2]
    refine r_iload_n (pc := 2) (i := 3) d_H_buyerStays_2 rfl rfl ?_
    refine r_iconst (pc := 3) (v := 5) d_H_buyerStays_3 (by rfl) ?_
    refine r_icmp_ge (pc := 4) (tgt := 30) d_H_buyerStays_4 (by rfl) ?_ ?_
    · refine r_iconst (pc := 30) (v := 1) d_H_buyerStays_30 (by rfl) ?_
      exact r_zret (pc := 31) rfl rfl d_H_buyerStays_31
    · refine r_aload_n (pc := 7) (i := 0) d_H_buyerStays_7 rfl rfl ?_
      refine r_iload_n (pc := 8) (i := 3) d_H_buyerStays_8 rfl rfl ?_
      refine r_iload_n (pc := 9) (i := 2) d_H_buyerStays_9 rfl rfl ?_
      refine r_cVi (pc := 10) (T := F_11) (N := 13) (st := []) (ok_H_buyerHas hn x3 a2 h) (fun s => Std.k s (lc hn rfl) kq_0) rfl w_937 w_1 w_934 w_936 ws_39 hy_H_buyerHas ⟨Nat.le_of_ble_eq_true rfl, Nat.le_of_ble_eq_true rfl⟩ ⟨Nat.le_of_ble_eq_true rfl, Nat.le_of_ble_eq_true rfl⟩ rfl (Nat.le_of_ble_eq_true rfl) d_H_buyerStays_10 (fun rq1 hq2 => ?_)
      refine r_aload_n (pc := 13) (i := 0) d_H_buyerStays_13 rfl rfl ?_
      refine r_iload_n (pc := 14) (i := 1) d_H_buyerStays_14 rfl rfl ?_
      refine r_iload_n (pc := 15) (i := 2) d_H_buyerStays_15 rfl rfl ?_
      refine r_cVi (pc := 16) (T := F_11) (N := 13) (st := [.int rq1]) (ok_H_buyerHas hn a1 a2 hq2) (fun s => Std.k s (lc hn rfl) kq_0) rfl w_937 w_1 w_934 w_936 ws_39 hy_H_buyerHas ⟨Nat.le_of_ble_eq_true rfl, Nat.le_of_ble_eq_true rfl⟩ ⟨Nat.le_of_ble_eq_true rfl, Nat.le_of_ble_eq_true rfl⟩ rfl (Nat.le_of_ble_eq_true rfl) d_H_buyerStays_16 (fun rq3 hq4 => ?_)
      refine r_icmp_le (pc := 19) (tgt := 24) d_H_buyerStays_19 (by rfl) ?_ ?_
      · refine r_ltE (fun xq5 exq5 => ?_)
        refine r_iinc (pc := 24) (v := xq5) (lv1 := [some (.ref 0), some (.int a1), some (.int a2), some (.int xq5)]) d_H_buyerStays_24 rfl exq5.symm (Nat.le_of_ble_eq_true rfl) rfl ?_
        refine r_goto (pc := 27) (tgt := 2) d_H_buyerStays_27 (by rfl) ?_
        exact r_wk (ih xq5 hq4) ⟨rfl, ⟨rfl, ⟨rfl, ⟨rfl, trivial⟩⟩⟩⟩
      · refine r_iconst (pc := 22) (v := 0) d_H_buyerStays_22 (by rfl) ?_
        exact r_zret (pc := 23) rfl rfl d_H_buyerStays_23
def f_H_buyerStays  (a1 : Int32) (a2 : Int32) (h : AH) : Option (Int32 × AH) :=
  f_H_buyerStays_l2 a1 a2 FU (0 : Int32) h
set_option maxHeartbeats 2000000 in
theorem ok_H_buyerStays {G : AE} {n : Nat} (hn : NN ≤ n)  (a1 : Int32) (a2 : Int32) (h : AH) : OK G n y_H_buyerStays (3) φI [.ref 0, .int a1, .int a2] h (f_H_buyerStays a1 a2 h) := by
  refine ok_of (y := y_H_buyerStays) (lv0 := [some (.ref 0), some (.int a1), some (.int a2), none]) (by decide +kernel) (Nat.le_of_ble_eq_true rfl) ⟨rfl, ⟨rfl, ⟨rfl, trivial⟩⟩⟩ ?_
  rw [f_H_buyerStays]
  refine r_iconst (pc := 0) (v := 0) d_H_buyerStays_0 (by rfl) ?_
  refine r_istore_n (pc := 1) (i := 3) (lv1 := [some (.ref 0), some (.int a1), some (.int a2), some (.int (0 : Int32))]) d_H_buyerStays_1 rfl (Nat.le_of_ble_eq_true rfl) rfl ?_
  exact r_wk (o_H_buyerStays_l2 hn FU (0 : Int32) h) ⟨rfl, ⟨rfl, ⟨rfl, ⟨rfl, trivial⟩⟩⟩⟩

def f_H_sellerHas  (a1 : Int32) (a2 : Int32) (h : AH) : Option (Int32 × AH) :=
  gx ((a1 * (5 : Int32)) + a2) 25 <|
  some (((hI h 382 (ix ((a1 * (5 : Int32)) + a2))) - ((3 : Int32) * (mab (a2 - (2 : Int32))))), h)
set_option maxHeartbeats 2000000 in
theorem ok_H_sellerHas {G : AE} {n : Nat} (hn : NN ≤ n)  (a1 : Int32) (a2 : Int32) (h : AH) : OK G n y_H_sellerHas (2) φI [.ref 0, .int a1, .int a2] h (f_H_sellerHas a1 a2 h) := by
  refine ok_of (y := y_H_sellerHas) (lv0 := [some (.ref 0), some (.int a1), some (.int a2)]) (by decide +kernel) (Nat.le_of_ble_eq_true rfl) ⟨rfl, ⟨rfl, ⟨rfl, trivial⟩⟩⟩ ?_
  rw [f_H_sellerHas]
  refine r_aload_n (pc := 0) (i := 0) d_H_sellerHas_0 rfl rfl ?_
  refine r_getf (pc := 1) (ci := 11) (k := 12) (C := "CricketHay") (T := F_11) (N := 13) (v := .ref 382) (fun s => Std.k s (lc hn rfl) kq_0) rfl (Nat.le_of_ble_eq_true rfl) rfl w_434 (fun s => vr rfl (Std.r s (lc hn rfl) rq_0_12)) d_H_sellerHas_1 ?_
  refine r_iload_n (pc := 4) (i := 1) d_H_sellerHas_4 rfl rfl ?_
  refine r_iconst (pc := 5) (v := 5) d_H_sellerHas_5 (by rfl) ?_
  refine r_imul (pc := 6) d_H_sellerHas_6 ?_
  refine r_iload_n (pc := 7) (i := 2) d_H_sellerHas_7 rfl rfl ?_
  refine r_iadd (pc := 8) d_H_sellerHas_8 ?_
  refine r_gx (fun zq1 => ?_)
  refine r_iald (pc := 9) (n := 25) (i0 := (ix ((a1 * (5 : Int32)) + a2))) (fun s => Std.k s (lc hn rfl) kq_382) zq1 rfl d_H_sellerHas_9 ?_
  refine r_iconst (pc := 10) (v := 3) d_H_sellerHas_10 (by rfl) ?_
  refine r_iload_n (pc := 11) (i := 2) d_H_sellerHas_11 rfl rfl ?_
  refine r_iconst (pc := 12) (v := 2) d_H_sellerHas_12 (by rfl) ?_
  refine r_isub (pc := 13) d_H_sellerHas_13 ?_
  refine r_mabs (pc := 14) w_938 w_939 w_18 w_940 (Nat.le_of_ble_eq_true rfl) (Nat.le_of_ble_eq_true rfl) ⟨Nat.le_of_ble_eq_true rfl, Nat.le_of_ble_eq_true rfl⟩ d_H_sellerHas_14 ?_
  refine r_imul (pc := 17) d_H_sellerHas_17 ?_
  refine r_isub (pc := 18) d_H_sellerHas_18 ?_
  exact r_iret (pc := 19) rfl d_H_sellerHas_19

def f_H_sellerStays_l2  (a1 : Int32) (a2 : Int32)  : Nat → Int32 → AH → Option (Int32 × AH)
  | 0, _, _ => none
  | n + 1, x3, h =>
    if (5 : Int32) ≤ x3 then
      some ((1 : Int32), h)
    else
      bI (f_H_sellerHas a1 x3 h) fun rq1 hq2 =>
      bI (f_H_sellerHas a1 a2 hq2) fun rq3 hq4 =>
      if rq1 ≤ rq3 then
        lt (x3 + (1 : Int32)) fun xq5 =>
        f_H_sellerStays_l2 a1 a2 n xq5 hq4
      else
        some ((0 : Int32), hq4)
set_option maxHeartbeats 2000000 in
theorem o_H_sellerStays_l2 {G : AE} {n : Nat} (hn : NN ≤ n)  {a1 : Int32} {a2 : Int32}   : ∀ (n0 : Nat) (x3 : Int32) (h : AH), AJ G n y_H_sellerStays (3) φI 2 [some (.ref 0), some (.int a1), some (.int a2), some (.int x3)] [] h (f_H_sellerStays_l2 a1 a2 n0 x3 h) := by
  intro n0
  induction n0 with
  | zero => intros; exact r_none
  | succ n0 ih =>
    intro x3 h
    rw [f_H_sellerStays_l2]
    refine r_iload_n (pc := 2) (i := 3) d_H_sellerStays_2 rfl rfl ?_
    refine r_iconst (pc := 3) (v := 5) d_H_sellerStays_3 (by rfl) ?_
    refine r_icmp_ge (pc := 4) (tgt := 30) d_H_sellerStays_4 (by rfl) ?_ ?_
    · refine r_iconst (pc := 30) (v := 1) d_H_sellerStays_30 (by rfl) ?_
      exact r_zret (pc := 31) rfl rfl d_H_sellerStays_31
    · refine r_aload_n (pc := 7) (i := 0) d_H_sellerStays_7 rfl rfl ?_
      refine r_iload_n (pc := 8) (i := 1) d_H_sellerStays_8 rfl rfl ?_
      refine r_iload_n (pc := 9) (i := 3) d_H_sellerStays_9 rfl rfl ?_
      refine r_cVi (pc := 10) (T := F_11) (N := 13) (st := []) (ok_H_sellerHas hn a1 x3 h) (fun s => Std.k s (lc hn rfl) kq_0) rfl w_948 w_1 w_945 w_947 ws_41 hy_H_sellerHas ⟨Nat.le_of_ble_eq_true rfl, Nat.le_of_ble_eq_true rfl⟩ ⟨Nat.le_of_ble_eq_true rfl, Nat.le_of_ble_eq_true rfl⟩ rfl (Nat.le_of_ble_eq_true rfl) d_H_sellerStays_10 (fun rq1 hq2 => ?_)
      refine r_aload_n (pc := 13) (i := 0) d_H_sellerStays_13 rfl rfl ?_
      refine r_iload_n (pc := 14) (i := 1) d_H_sellerStays_14 rfl rfl ?_
      refine r_iload_n (pc := 15) (i := 2) d_H_sellerStays_15 rfl rfl ?_
      refine r_cVi (pc := 16) (T := F_11) (N := 13) (st := [.int rq1]) (ok_H_sellerHas hn a1 a2 hq2) (fun s => Std.k s (lc hn rfl) kq_0) rfl w_948 w_1 w_945 w_947 ws_41 hy_H_sellerHas ⟨Nat.le_of_ble_eq_true rfl, Nat.le_of_ble_eq_true rfl⟩ ⟨Nat.le_of_ble_eq_true rfl, Nat.le_of_ble_eq_true rfl⟩ rfl (Nat.le_of_ble_eq_true rfl) d_H_sellerStays_16 (fun rq3 hq4 => ?_)
      refine r_icmp_le (pc := 19) (tgt := 24) d_H_sellerStays_19 (by rfl) ?_ ?_
      · refine r_ltE (fun xq5 exq5 => ?_)
        refine r_iinc (pc := 24) (v := xq5) (lv1 := [some (.ref 0), some (.int a1), some (.int a2), some (.int xq5)]) d_H_sellerStays_24 rfl exq5.symm (Nat.le_of_ble_eq_true rfl) rfl ?_
        refine r_goto (pc := 27) (tgt := 2) d_H_sellerStays_27 (by rfl) ?_
        exact r_wk (ih xq5 hq4) ⟨rfl, ⟨rfl, ⟨rfl, ⟨rfl, trivial⟩⟩⟩⟩
      · refine r_iconst (pc := 22) (v := 0) d_H_sellerStays_22 (by rfl) ?_
        exact r_zret (pc := 23) rfl rfl d_H_sellerStays_23
def f_H_sellerStays  (a1 : Int32) (a2 : Int32) (h : AH) : Option (Int32 × AH) :=
  f_H_sellerStays_l2 a1 a2 FU (0 : Int32) h
set_option maxHeartbeats 2000000 in
theorem ok_H_sellerStays {G : AE} {n : Nat} (hn : NN ≤ n)  (a1 : Int32) (a2 : Int32) (h : AH) : OK G n y_H_sellerStays (3) φI [.ref 0, .int a1, .int a2] h (f_H_sellerStays a1 a2 h) := by
  refine ok_of (y := y_H_sellerStays) (lv0 := [some (.ref 0), some (.int a1), some (.int a2), none]) (by decide +kernel) (Nat.le_of_ble_eq_true rfl) ⟨rfl, ⟨rfl, ⟨rfl, trivial⟩⟩⟩ ?_
  rw [f_H_sellerStays]
  refine r_iconst (pc := 0) (v := 0) d_H_sellerStays_0 (by rfl) ?_
  refine r_istore_n (pc := 1) (i := 3) (lv1 := [some (.ref 0), some (.int a1), some (.int a2), some (.int (0 : Int32))]) d_H_sellerStays_1 rfl (Nat.le_of_ble_eq_true rfl) rfl ?_
  exact r_wk (o_H_sellerStays_l2 hn FU (0 : Int32) h) ⟨rfl, ⟨rfl, ⟨rfl, ⟨rfl, trivial⟩⟩⟩⟩

def f_H_rest_l74  (a1 : Int32) (a2 : Int32) (a3 : Int32) (k65 : Int32 → Int32 → AH → Option (Int32 × AH)) : Nat → Int32 → Int32 → Int32 → AH → Option (Int32 × AH)
  | 0, _, _, _, _ => none
  | n + 1, x4, x5, x6, h =>
    if (5 : Int32) ≤ x6 then
      lt (x5 + (1 : Int32)) fun xq1 =>
      k65 x4 xq1 h
    else
      bI (f_H_buyerStays x5 x6 h) fun rq2 hq3 =>
      if rq2 = 0 then
        lt (x6 + (1 : Int32)) fun xq4 =>
        f_H_rest_l74 a1 a2 a3 k65 n x4 x5 xq4 hq3
      else
        bI (f_H_sellerStays x5 x6 hq3) fun rq5 hq6 =>
        if rq5 = 0 then
          lt (x6 + (1 : Int32)) fun xq7 =>
          f_H_rest_l74 a1 a2 a3 k65 n x4 x5 xq7 hq6
        else
          if ¬ x4 = 0 then
            lt (x4 + (1 : Int32)) fun xq8 =>
            lt (x6 + (1 : Int32)) fun xq9 =>
            f_H_rest_l74 a1 a2 a3 k65 n xq8 x5 xq9 hq6
          else
            bV (f_Lie_add (x5 - (2 : Int32)) hq6) fun hq10 =>
            bV (f_Lie_add (x6 - (2 : Int32)) hq10) fun hq11 =>
            lt (x4 + (1 : Int32)) fun xq12 =>
            lt (x6 + (1 : Int32)) fun xq13 =>
            f_H_rest_l74 a1 a2 a3 k65 n xq12 x5 xq13 hq11
set_option maxHeartbeats 2000000 in
theorem o_H_rest_l74 {G : AE} {n : Nat} (hn : NN ≤ n)  {a1 : Int32} {a2 : Int32} {a3 : Int32}  {k65 : Int32 → Int32 → AH → Option (Int32 × AH)} (hk65 : ∀ (x4 : Int32) (x5 : Int32) (h : AH), AJ G n y_H_rest (7) φI 65 [some (.ref 0), none, none, none, some (.int x4), some (.int x5), none] [] h (k65 x4 x5 h)) : ∀ (n0 : Nat) (x4 : Int32) (x5 : Int32) (x6 : Int32) (h : AH), AJ G n y_H_rest (7) φI 74 [some (.ref 0), none, none, none, some (.int x4), some (.int x5), some (.int x6)] [] h (f_H_rest_l74 a1 a2 a3 k65 n0 x4 x5 x6 h) := by
  intro n0
  induction n0 with
  | zero => intros; exact r_none
  | succ n0 ih =>
    intro x4 x5 x6 h
    rw [f_H_rest_l74]
    refine r_iload (pc := 74) d_H_rest_74 rfl ?_
    refine r_iconst (pc := 76) (v := 5) d_H_rest_76 (by rfl) ?_
    refine r_icmp_ge (pc := 77) (tgt := 138) d_H_rest_77 (by rfl) ?_ ?_
    · refine r_ltE (fun xq1 exq1 => ?_)
      refine r_iinc (pc := 138) (v := xq1) (lv1 := [some (.ref 0), none, none, none, some (.int x4), some (.int xq1), some (.int x6)]) d_H_rest_138 rfl exq1.symm (Nat.le_of_ble_eq_true rfl) rfl ?_
      refine r_goto (pc := 141) (tgt := 65) d_H_rest_141 (by rfl) ?_
      exact r_wk (hk65 x4 xq1 h) ⟨rfl, ⟨rfl, ⟨rfl, trivial⟩⟩⟩
    · refine r_aload_n (pc := 80) (i := 0) d_H_rest_80 rfl rfl ?_
      refine r_iload (pc := 81) d_H_rest_81 rfl ?_
      refine r_iload (pc := 83) d_H_rest_83 rfl ?_
      refine r_cVi (pc := 85) (T := F_11) (N := 13) (st := []) (ok_H_buyerStays hn x5 x6 h) (fun s => Std.k s (lc hn rfl) kq_0) rfl w_933 w_1 w_930 w_932 ws_38 hy_H_buyerStays ⟨Nat.le_of_ble_eq_true rfl, Nat.le_of_ble_eq_true rfl⟩ ⟨Nat.le_of_ble_eq_true rfl, Nat.le_of_ble_eq_true rfl⟩ rfl (Nat.le_of_ble_eq_true rfl) d_H_rest_85 (fun rq2 hq3 => ?_)
      refine r_if_eq (pc := 88) (tgt := 132) d_H_rest_88 (by rfl) ?_ ?_
      · refine r_ltE (fun xq4 exq4 => ?_)
        refine r_iinc (pc := 132) (v := xq4) (lv1 := [some (.ref 0), none, none, none, some (.int x4), some (.int x5), some (.int xq4)]) d_H_rest_132 rfl exq4.symm (Nat.le_of_ble_eq_true rfl) rfl ?_
        refine r_goto (pc := 135) (tgt := 74) d_H_rest_135 (by rfl) ?_
        exact r_wk (ih x4 x5 xq4 hq3) ⟨rfl, ⟨rfl, ⟨rfl, ⟨rfl, trivial⟩⟩⟩⟩
      · refine r_aload_n (pc := 91) (i := 0) d_H_rest_91 rfl rfl ?_
        refine r_iload (pc := 92) d_H_rest_92 rfl ?_
        refine r_iload (pc := 94) d_H_rest_94 rfl ?_
        refine r_cVi (pc := 96) (T := F_11) (N := 13) (st := []) (ok_H_sellerStays hn x5 x6 hq3) (fun s => Std.k s (lc hn rfl) kq_0) rfl w_944 w_1 w_941 w_943 ws_40 hy_H_sellerStays ⟨Nat.le_of_ble_eq_true rfl, Nat.le_of_ble_eq_true rfl⟩ ⟨Nat.le_of_ble_eq_true rfl, Nat.le_of_ble_eq_true rfl⟩ rfl (Nat.le_of_ble_eq_true rfl) d_H_rest_96 (fun rq5 hq6 => ?_)
        refine r_if_eq (pc := 99) (tgt := 132) d_H_rest_99 (by rfl) ?_ ?_
        · refine r_ltE (fun xq7 exq7 => ?_)
          refine r_iinc (pc := 132) (v := xq7) (lv1 := [some (.ref 0), none, none, none, some (.int x4), some (.int x5), some (.int xq7)]) d_H_rest_132 rfl exq7.symm (Nat.le_of_ble_eq_true rfl) rfl ?_
          refine r_goto (pc := 135) (tgt := 74) d_H_rest_135 (by rfl) ?_
          exact r_wk (ih x4 x5 xq7 hq6) ⟨rfl, ⟨rfl, ⟨rfl, ⟨rfl, trivial⟩⟩⟩⟩
        · refine r_iload (pc := 102) d_H_rest_102 rfl ?_
          refine r_if_ne (pc := 104) (tgt := 129) d_H_rest_104 (by rfl) ?_ ?_
          · refine r_ltE (fun xq8 exq8 => ?_)
            refine r_iinc (pc := 129) (v := xq8) (lv1 := [some (.ref 0), none, none, none, some (.int xq8), some (.int x5), some (.int x6)]) d_H_rest_129 rfl exq8.symm (Nat.le_of_ble_eq_true rfl) rfl ?_
            refine r_ltE (fun xq9 exq9 => ?_)
            refine r_iinc (pc := 132) (v := xq9) (lv1 := [some (.ref 0), none, none, none, some (.int xq8), some (.int x5), some (.int xq9)]) d_H_rest_132 rfl exq9.symm (Nat.le_of_ble_eq_true rfl) rfl ?_
            refine r_goto (pc := 135) (tgt := 74) d_H_rest_135 (by rfl) ?_
            exact r_wk (ih xq8 x5 xq9 hq6) ⟨rfl, ⟨rfl, ⟨rfl, ⟨rfl, trivial⟩⟩⟩⟩
          · refine r_aload_n (pc := 107) (i := 0) d_H_rest_107 rfl rfl ?_
            refine r_getf (pc := 108) (ci := 11) (k := 11) (C := "CricketHay") (T := F_11) (N := 13) (v := .ref 380) (fun s => Std.k s (lc hn rfl) kq_0) rfl (Nat.le_of_ble_eq_true rfl) rfl w_433 (fun s => vr rfl (Std.r s (lc hn rfl) rq_0_11)) d_H_rest_108 ?_
            refine r_iload (pc := 111) d_H_rest_111 rfl ?_
            refine r_iconst (pc := 113) (v := 2) d_H_rest_113 (by rfl) ?_
            refine r_isub (pc := 114) d_H_rest_114 ?_
            refine r_cVv (pc := 115) (T := F_6) (N := 2) (st := []) (ok_Lie_add hn (x5 - (2 : Int32)) hq6) (fun s => Std.k s (lc hn rfl) kq_380) rfl w_846 w_12 w_843 w_844 w_845 hy_Lie_add ⟨Nat.le_of_ble_eq_true rfl, Nat.le_of_ble_eq_true rfl⟩ ⟨Nat.le_of_ble_eq_true rfl, Nat.le_of_ble_eq_true rfl⟩ rfl (Nat.le_of_ble_eq_true rfl) d_H_rest_115 (fun hq10 => ?_)
            refine r_aload_n (pc := 118) (i := 0) d_H_rest_118 rfl rfl ?_
            refine r_getf (pc := 119) (ci := 11) (k := 11) (C := "CricketHay") (T := F_11) (N := 13) (v := .ref 380) (fun s => Std.k s (lc hn rfl) kq_0) rfl (Nat.le_of_ble_eq_true rfl) rfl w_433 (fun s => vr rfl (Std.r s (lc hn rfl) rq_0_11)) d_H_rest_119 ?_
            refine r_iload (pc := 122) d_H_rest_122 rfl ?_
            refine r_iconst (pc := 124) (v := 2) d_H_rest_124 (by rfl) ?_
            refine r_isub (pc := 125) d_H_rest_125 ?_
            refine r_cVv (pc := 126) (T := F_6) (N := 2) (st := []) (ok_Lie_add hn (x6 - (2 : Int32)) hq10) (fun s => Std.k s (lc hn rfl) kq_380) rfl w_846 w_12 w_843 w_844 w_845 hy_Lie_add ⟨Nat.le_of_ble_eq_true rfl, Nat.le_of_ble_eq_true rfl⟩ ⟨Nat.le_of_ble_eq_true rfl, Nat.le_of_ble_eq_true rfl⟩ rfl (Nat.le_of_ble_eq_true rfl) d_H_rest_126 (fun hq11 => ?_)
            refine r_ltE (fun xq12 exq12 => ?_)
            refine r_iinc (pc := 129) (v := xq12) (lv1 := [some (.ref 0), none, none, none, some (.int xq12), some (.int x5), some (.int x6)]) d_H_rest_129 rfl exq12.symm (Nat.le_of_ble_eq_true rfl) rfl ?_
            refine r_ltE (fun xq13 exq13 => ?_)
            refine r_iinc (pc := 132) (v := xq13) (lv1 := [some (.ref 0), none, none, none, some (.int xq12), some (.int x5), some (.int xq13)]) d_H_rest_132 rfl exq13.symm (Nat.le_of_ble_eq_true rfl) rfl ?_
            refine r_goto (pc := 135) (tgt := 74) d_H_rest_135 (by rfl) ?_
            exact r_wk (ih xq12 x5 xq13 hq11) ⟨rfl, ⟨rfl, ⟨rfl, ⟨rfl, trivial⟩⟩⟩⟩
def f_H_rest_l65  (a1 : Int32) (a2 : Int32) (a3 : Int32)  : Nat → Int32 → Int32 → AH → Option (Int32 × AH)
  | 0, _, _, _ => none
  | n + 1, x4, x5, h =>
    if (5 : Int32) ≤ x5 then
      some (x4, h)
    else
      f_H_rest_l74 a1 a2 a3 (f_H_rest_l65 a1 a2 a3 n) FU x4 x5 (0 : Int32) h
set_option maxHeartbeats 2000000 in
theorem o_H_rest_l65 {G : AE} {n : Nat} (hn : NN ≤ n)  {a1 : Int32} {a2 : Int32} {a3 : Int32}   : ∀ (n0 : Nat) (x4 : Int32) (x5 : Int32) (h : AH), AJ G n y_H_rest (7) φI 65 [some (.ref 0), none, none, none, some (.int x4), some (.int x5), none] [] h (f_H_rest_l65 a1 a2 a3 n0 x4 x5 h) := by
  intro n0
  induction n0 with
  | zero => intros; exact r_none
  | succ n0 ih =>
    intro x4 x5 h
    rw [f_H_rest_l65]
    refine r_iload (pc := 65) d_H_rest_65 rfl ?_
    refine r_iconst (pc := 67) (v := 5) d_H_rest_67 (by rfl) ?_
    refine r_icmp_ge (pc := 68) (tgt := 144) d_H_rest_68 (by rfl) ?_ ?_
    · refine r_iload (pc := 144) d_H_rest_144 rfl ?_
      exact r_iret (pc := 146) rfl d_H_rest_146
    · refine r_iconst (pc := 71) (v := 0) d_H_rest_71 (by rfl) ?_
      refine r_istore (pc := 72) (lv1 := [some (.ref 0), none, none, none, some (.int x4), some (.int x5), some (.int (0 : Int32))]) d_H_rest_72 (Nat.le_of_ble_eq_true rfl) rfl ?_
      exact r_wk (o_H_rest_l74 hn ih FU x4 x5 (0 : Int32) h) ⟨rfl, ⟨rfl, ⟨rfl, ⟨rfl, trivial⟩⟩⟩⟩
def f_H_rest  (a1 : Int32) (a2 : Int32) (a3 : Int32) (h : AH) : Option (Int32 × AH) :=
  bV (f_Lie_wipe h) fun hq1 =>
  bI (f_H_areTwo a1 a2 hq1) fun rq2 hq3 =>
  if rq2 = 0 then
    some ((-1 : Int32), hq3)
  else
    gx a1 6 <|
    if ¬ (hI hq3 43 (ix a1)) = 0 then
      some ((-1 : Int32), hq3)
    else
      gx a2 6 <|
      if ¬ (hI hq3 43 (ix a2)) = 0 then
        some ((-1 : Int32), hq3)
      else
        bI (f_H_within a3 (1 : Int32) (9 : Int32) hq3) fun rq6 hq7 =>
        if ¬ rq6 = 0 then
          bV (f_H_hearBreaths a1 a2 a3 hq7) fun hq8 =>
          f_H_rest_l65 a1 a2 a3 FU (0 : Int32) (0 : Int32) hq8
        else
          some ((-1 : Int32), hq7)
set_option maxHeartbeats 2000000 in
theorem ok_H_rest {G : AE} {n : Nat} (hn : NN ≤ n)  (a1 : Int32) (a2 : Int32) (a3 : Int32) (h : AH) : OK G n y_H_rest (7) φI [.ref 0, .int a1, .int a2, .int a3] h (f_H_rest a1 a2 a3 h) := by
  refine ok_of (y := y_H_rest) (lv0 := [some (.ref 0), some (.int a1), some (.int a2), some (.int a3), none, none, none]) (by decide +kernel) (Nat.le_of_ble_eq_true rfl) ⟨rfl, ⟨rfl, ⟨rfl, ⟨rfl, trivial⟩⟩⟩⟩ ?_
  rw [f_H_rest]
  refine r_aload_n (pc := 0) (i := 0) d_H_rest_0 rfl rfl ?_
  refine r_getf (pc := 1) (ci := 11) (k := 11) (C := "CricketHay") (T := F_11) (N := 13) (v := .ref 380) (fun s => Std.k s (lc hn rfl) kq_0) rfl (Nat.le_of_ble_eq_true rfl) rfl w_433 (fun s => vr rfl (Std.r s (lc hn rfl) rq_0_11)) d_H_rest_1 ?_
  refine r_cVv (pc := 4) (T := F_6) (N := 2) (st := []) (ok_Lie_wipe hn h) (fun s => Std.k s (lc hn rfl) kq_380) rfl w_651 w_12 w_648 w_649 w_650 hy_Lie_wipe ⟨Nat.le_of_ble_eq_true rfl, Nat.le_of_ble_eq_true rfl⟩ ⟨Nat.le_of_ble_eq_true rfl, Nat.le_of_ble_eq_true rfl⟩ rfl (Nat.le_of_ble_eq_true rfl) d_H_rest_4 (fun hq1 => ?_)
  refine r_aload_n (pc := 7) (i := 0) d_H_rest_7 rfl rfl ?_
  refine r_iload_n (pc := 8) (i := 1) d_H_rest_8 rfl rfl ?_
  refine r_iload_n (pc := 9) (i := 2) d_H_rest_9 rfl rfl ?_
  refine r_cVi (pc := 10) (T := F_11) (N := 13) (st := []) (ok_H_areTwo hn a1 a2 hq1) (fun s => Std.k s (lc hn rfl) kq_0) rfl w_722 w_1 w_719 w_721 ws_23 hy_H_areTwo ⟨Nat.le_of_ble_eq_true rfl, Nat.le_of_ble_eq_true rfl⟩ ⟨Nat.le_of_ble_eq_true rfl, Nat.le_of_ble_eq_true rfl⟩ rfl (Nat.le_of_ble_eq_true rfl) d_H_rest_10 (fun rq2 hq3 => ?_)
  refine r_if_eq (pc := 13) (tgt := 50) d_H_rest_13 (by rfl) ?_ ?_
  · refine r_iconst (pc := 50) (v := -1) d_H_rest_50 (by rfl) ?_
    exact r_iret (pc := 51) rfl d_H_rest_51
  · refine r_aload_n (pc := 16) (i := 0) d_H_rest_16 rfl rfl ?_
    refine r_getf (pc := 17) (ci := 11) (k := 3) (C := "CricketHay") (T := F_11) (N := 13) (v := .ref 37) (fun s => Std.k s (lc hn rfl) kq_0) rfl (Nat.le_of_ble_eq_true rfl) rfl w_425 (fun s => vr rfl (Std.r s (lc hn rfl) rq_0_3)) d_H_rest_17 ?_
    refine r_getf (pc := 20) (ci := 10) (k := 5) (C := "CricketHay$Yard") (T := F_10) (N := 10) (v := .ref 43) (fun s => Std.k s (lc hn rfl) kq_37) rfl (Nat.le_of_ble_eq_true rfl) rfl w_226 (fun s => vr rfl (Std.r s (lc hn rfl) rq_37_5)) d_H_rest_20 ?_
    refine r_iload_n (pc := 23) (i := 1) d_H_rest_23 rfl rfl ?_
    refine r_gx (fun zq4 => ?_)
    refine r_iald (pc := 24) (n := 6) (i0 := (ix a1)) (fun s => Std.k s (lc hn rfl) kq_43) zq4 rfl d_H_rest_24 ?_
    refine r_if_ne (pc := 25) (tgt := 50) d_H_rest_25 (by rfl) ?_ ?_
    · refine r_iconst (pc := 50) (v := -1) d_H_rest_50 (by rfl) ?_
      exact r_iret (pc := 51) rfl d_H_rest_51
    · refine r_aload_n (pc := 28) (i := 0) d_H_rest_28 rfl rfl ?_
      refine r_getf (pc := 29) (ci := 11) (k := 3) (C := "CricketHay") (T := F_11) (N := 13) (v := .ref 37) (fun s => Std.k s (lc hn rfl) kq_0) rfl (Nat.le_of_ble_eq_true rfl) rfl w_425 (fun s => vr rfl (Std.r s (lc hn rfl) rq_0_3)) d_H_rest_29 ?_
      refine r_getf (pc := 32) (ci := 10) (k := 5) (C := "CricketHay$Yard") (T := F_10) (N := 10) (v := .ref 43) (fun s => Std.k s (lc hn rfl) kq_37) rfl (Nat.le_of_ble_eq_true rfl) rfl w_226 (fun s => vr rfl (Std.r s (lc hn rfl) rq_37_5)) d_H_rest_32 ?_
      refine r_iload_n (pc := 35) (i := 2) d_H_rest_35 rfl rfl ?_
      refine r_gx (fun zq5 => ?_)
      refine r_iald (pc := 36) (n := 6) (i0 := (ix a2)) (fun s => Std.k s (lc hn rfl) kq_43) zq5 rfl d_H_rest_36 ?_
      refine r_if_ne (pc := 37) (tgt := 50) d_H_rest_37 (by rfl) ?_ ?_
      · refine r_iconst (pc := 50) (v := -1) d_H_rest_50 (by rfl) ?_
        exact r_iret (pc := 51) rfl d_H_rest_51
      · refine r_iload_n (pc := 40) (i := 3) d_H_rest_40 rfl rfl ?_
        refine r_iconst (pc := 41) (v := 1) d_H_rest_41 (by rfl) ?_
        refine r_bipush (pc := 42) (v := 9) d_H_rest_42 (by rfl) ?_
        refine r_cSi (pc := 44) (st := []) (ok_H_within hn a3 (1 : Int32) (9 : Int32) hq3) w_817 w_1 w_815 w_816 hy_H_within ⟨Nat.le_of_ble_eq_true rfl, Nat.le_of_ble_eq_true rfl⟩ ⟨Nat.le_of_ble_eq_true rfl, Nat.le_of_ble_eq_true rfl⟩ rfl (Nat.le_of_ble_eq_true rfl) d_H_rest_44 (fun rq6 hq7 => ?_)
        refine r_if_ne (pc := 47) (tgt := 52) d_H_rest_47 (by rfl) ?_ ?_
        · refine r_aload_n (pc := 52) (i := 0) d_H_rest_52 rfl rfl ?_
          refine r_iload_n (pc := 53) (i := 1) d_H_rest_53 rfl rfl ?_
          refine r_iload_n (pc := 54) (i := 2) d_H_rest_54 rfl rfl ?_
          refine r_iload_n (pc := 55) (i := 3) d_H_rest_55 rfl rfl ?_
          refine r_cVv (pc := 56) (T := F_11) (N := 13) (st := []) (ok_H_hearBreaths hn a1 a2 a3 hq7) (fun s => Std.k s (lc hn rfl) kq_0) rfl w_929 w_1 w_926 w_928 ws_37 hy_H_hearBreaths ⟨Nat.le_of_ble_eq_true rfl, Nat.le_of_ble_eq_true rfl⟩ ⟨Nat.le_of_ble_eq_true rfl, Nat.le_of_ble_eq_true rfl⟩ rfl (Nat.le_of_ble_eq_true rfl) d_H_rest_56 (fun hq8 => ?_)
          refine r_iconst (pc := 59) (v := 0) d_H_rest_59 (by rfl) ?_
          refine r_istore (pc := 60) (lv1 := [some (.ref 0), some (.int a1), some (.int a2), some (.int a3), some (.int (0 : Int32)), none, none]) d_H_rest_60 (Nat.le_of_ble_eq_true rfl) rfl ?_
          refine r_iconst (pc := 62) (v := 0) d_H_rest_62 (by rfl) ?_
          refine r_istore (pc := 63) (lv1 := [some (.ref 0), some (.int a1), some (.int a2), some (.int a3), some (.int (0 : Int32)), some (.int (0 : Int32)), none]) d_H_rest_63 (Nat.le_of_ble_eq_true rfl) rfl ?_
          exact r_wk (o_H_rest_l65 hn FU (0 : Int32) (0 : Int32) hq8) ⟨rfl, ⟨rfl, ⟨rfl, trivial⟩⟩⟩
        · refine r_iconst (pc := 50) (v := -1) d_H_rest_50 (by rfl) ?_
          exact r_iret (pc := 51) rfl d_H_rest_51

def f_H_odds_l37  (a1 : Int32) (a2 : Int32) (a3 : Int32) (a4 : Int32) (a5 : Int32)  : Nat → Int32 → Int32 → AH → Option (Int32 × AH)
  | 0, _, _, _ => none
  | n + 1, x6, x7, h =>
    if ((1 : Int32) <<< (a4 &&& 31)) ≤ x7 then
      bI (f_H_partOf x6 a4 a5 h) fun rq1 hq2 =>
      some (rq1, hq2)
    else
      bI (f_H_priceBehind a1 a2 a4 x7 h) fun rq3 hq4 =>
      if rq3 < a3 then
        lt (x7 + (1 : Int32)) fun xq5 =>
        f_H_odds_l37 a1 a2 a3 a4 a5 n x6 xq5 hq4
      else
        bI (f_H_weight a4 x7 hq4) fun rq6 hq7 =>
        lt (x6 + rq6) fun xq8 =>
        lt (x7 + (1 : Int32)) fun xq9 =>
        f_H_odds_l37 a1 a2 a3 a4 a5 n xq8 xq9 hq7
set_option maxHeartbeats 2000000 in
theorem o_H_odds_l37 {G : AE} {n : Nat} (hn : NN ≤ n)  {a1 : Int32} {a2 : Int32} {a3 : Int32} {a4 : Int32} {a5 : Int32}   : ∀ (n0 : Nat) (x6 : Int32) (x7 : Int32) (h : AH), AJ G n y_H_odds (7) φI 37 [some (.ref 0), some (.int a1), some (.int a2), some (.int a3), some (.int a4), some (.int a5), some (.int x6), some (.int x7)] [] h (f_H_odds_l37 a1 a2 a3 a4 a5 n0 x6 x7 h) := by
  intro n0
  induction n0 with
  | zero => intros; exact r_none
  | succ n0 ih =>
    intro x6 x7 h
    rw [f_H_odds_l37]
    refine r_iload (pc := 37) d_H_odds_37 rfl ?_
    refine r_iconst (pc := 39) (v := 1) d_H_odds_39 (by rfl) ?_
    refine r_iload (pc := 40) d_H_odds_40 rfl ?_
    refine r_ishl (pc := 42) d_H_odds_42 ?_
    refine r_icmp_ge (pc := 43) (tgt := 79) d_H_odds_43 (by rfl) ?_ ?_
    · refine r_iload (pc := 79) d_H_odds_79 rfl ?_
      refine r_iload (pc := 81) d_H_odds_81 rfl ?_
      refine r_iload (pc := 83) d_H_odds_83 rfl ?_
      refine r_cSi (pc := 85) (st := []) (ok_H_partOf hn x6 a4 a5 h) w_918 w_1 w_916 w_917 hy_H_partOf ⟨Nat.le_of_ble_eq_true rfl, Nat.le_of_ble_eq_true rfl⟩ ⟨Nat.le_of_ble_eq_true rfl, Nat.le_of_ble_eq_true rfl⟩ rfl (Nat.le_of_ble_eq_true rfl) d_H_odds_85 (fun rq1 hq2 => ?_)
      exact r_iret (pc := 88) rfl d_H_odds_88
    · refine r_aload_n (pc := 46) (i := 0) d_H_odds_46 rfl rfl ?_
      refine r_iload_n (pc := 47) (i := 1) d_H_odds_47 rfl rfl ?_
      refine r_iload_n (pc := 48) (i := 2) d_H_odds_48 rfl rfl ?_
      refine r_iload (pc := 49) d_H_odds_49 rfl ?_
      refine r_iload (pc := 51) d_H_odds_51 rfl ?_
      refine r_cVi (pc := 53) (T := F_11) (N := 13) (st := []) (ok_H_priceBehind hn a1 a2 a4 x7 h) (fun s => Std.k s (lc hn rfl) kq_0) rfl w_914 w_1 w_911 w_913 ws_36 hy_H_priceBehind ⟨Nat.le_of_ble_eq_true rfl, Nat.le_of_ble_eq_true rfl⟩ ⟨Nat.le_of_ble_eq_true rfl, Nat.le_of_ble_eq_true rfl⟩ rfl (Nat.le_of_ble_eq_true rfl) d_H_odds_53 (fun rq3 hq4 => ?_)
      refine r_iload_n (pc := 56) (i := 3) d_H_odds_56 rfl rfl ?_
      refine r_icmp_lt (pc := 57) (tgt := 73) d_H_odds_57 (by rfl) ?_ ?_
      · refine r_ltE (fun xq5 exq5 => ?_)
        refine r_iinc (pc := 73) (v := xq5) (lv1 := [some (.ref 0), some (.int a1), some (.int a2), some (.int a3), some (.int a4), some (.int a5), some (.int x6), some (.int xq5)]) d_H_odds_73 rfl exq5.symm (Nat.le_of_ble_eq_true rfl) rfl ?_
        refine r_goto (pc := 76) (tgt := 37) d_H_odds_76 (by rfl) ?_
        exact r_wk (ih x6 xq5 hq4) ⟨rfl, ⟨rfl, ⟨rfl, ⟨rfl, ⟨rfl, ⟨rfl, ⟨rfl, ⟨rfl, trivial⟩⟩⟩⟩⟩⟩⟩⟩
      · refine r_iload (pc := 60) d_H_odds_60 rfl ?_
        refine r_aload_n (pc := 62) (i := 0) d_H_odds_62 rfl rfl ?_
        refine r_iload (pc := 63) d_H_odds_63 rfl ?_
        refine r_iload (pc := 65) d_H_odds_65 rfl ?_
        refine r_cVi (pc := 67) (T := F_11) (N := 13) (st := [.int x6]) (ok_H_weight hn a4 x7 hq4) (fun s => Std.k s (lc hn rfl) kq_0) rfl w_910 w_1 w_907 w_909 ws_35 hy_H_weight ⟨Nat.le_of_ble_eq_true rfl, Nat.le_of_ble_eq_true rfl⟩ ⟨Nat.le_of_ble_eq_true rfl, Nat.le_of_ble_eq_true rfl⟩ rfl (Nat.le_of_ble_eq_true rfl) d_H_odds_67 (fun rq6 hq7 => ?_)
        refine r_iadd (pc := 70) d_H_odds_70 ?_
        refine r_ltI (fun xq8 => ?_)
        refine r_istore (pc := 71) (lv1 := [some (.ref 0), some (.int a1), some (.int a2), some (.int a3), some (.int a4), some (.int a5), some (.int xq8), some (.int x7)]) d_H_odds_71 (Nat.le_of_ble_eq_true rfl) rfl ?_
        refine r_ltE (fun xq9 exq9 => ?_)
        refine r_iinc (pc := 73) (v := xq9) (lv1 := [some (.ref 0), some (.int a1), some (.int a2), some (.int a3), some (.int a4), some (.int a5), some (.int xq8), some (.int xq9)]) d_H_odds_73 rfl exq9.symm (Nat.le_of_ble_eq_true rfl) rfl ?_
        refine r_goto (pc := 76) (tgt := 37) d_H_odds_76 (by rfl) ?_
        exact r_wk (ih xq8 xq9 hq7) ⟨rfl, ⟨rfl, ⟨rfl, ⟨rfl, ⟨rfl, ⟨rfl, ⟨rfl, ⟨rfl, trivial⟩⟩⟩⟩⟩⟩⟩⟩
def f_H_odds  (a1 : Int32) (a2 : Int32) (a3 : Int32) (a4 : Int32) (a5 : Int32) (h : AH) : Option (Int32 × AH) :=
  bI (f_H_areTwo a1 a2 h) fun rq1 hq2 =>
  if rq1 = 0 then
    some ((-1 : Int32), hq2)
  else
    bI (f_H_within a4 (0 : Int32) (4 : Int32) hq2) fun rq3 hq4 =>
    if rq3 = 0 then
      some ((-1 : Int32), hq4)
    else
      bI (f_H_within a5 (0 : Int32) (1 : Int32) hq4) fun rq5 hq6 =>
      if ¬ rq5 = 0 then
        f_H_odds_l37 a1 a2 a3 a4 a5 FU (0 : Int32) (0 : Int32) hq6
      else
        some ((-1 : Int32), hq6)
set_option maxHeartbeats 2000000 in
theorem ok_H_odds {G : AE} {n : Nat} (hn : NN ≤ n)  (a1 : Int32) (a2 : Int32) (a3 : Int32) (a4 : Int32) (a5 : Int32) (h : AH) : OK G n y_H_odds (7) φI [.ref 0, .int a1, .int a2, .int a3, .int a4, .int a5] h (f_H_odds a1 a2 a3 a4 a5 h) := by
  refine ok_of (y := y_H_odds) (lv0 := [some (.ref 0), some (.int a1), some (.int a2), some (.int a3), some (.int a4), some (.int a5), none, none]) (by decide +kernel) (Nat.le_of_ble_eq_true rfl) ⟨rfl, ⟨rfl, ⟨rfl, ⟨rfl, ⟨rfl, ⟨rfl, trivial⟩⟩⟩⟩⟩⟩ ?_
  rw [f_H_odds]
  refine r_aload_n (pc := 0) (i := 0) d_H_odds_0 rfl rfl ?_
  refine r_iload_n (pc := 1) (i := 1) d_H_odds_1 rfl rfl ?_
  refine r_iload_n (pc := 2) (i := 2) d_H_odds_2 rfl rfl ?_
  refine r_cVi (pc := 3) (T := F_11) (N := 13) (st := []) (ok_H_areTwo hn a1 a2 h) (fun s => Std.k s (lc hn rfl) kq_0) rfl w_722 w_1 w_719 w_721 ws_23 hy_H_areTwo ⟨Nat.le_of_ble_eq_true rfl, Nat.le_of_ble_eq_true rfl⟩ ⟨Nat.le_of_ble_eq_true rfl, Nat.le_of_ble_eq_true rfl⟩ rfl (Nat.le_of_ble_eq_true rfl) d_H_odds_3 (fun rq1 hq2 => ?_)
  refine r_if_eq (pc := 6) (tgt := 29) d_H_odds_6 (by rfl) ?_ ?_
  · refine r_iconst (pc := 29) (v := -1) d_H_odds_29 (by rfl) ?_
    exact r_iret (pc := 30) rfl d_H_odds_30
  · refine r_iload (pc := 9) d_H_odds_9 rfl ?_
    refine r_iconst (pc := 11) (v := 0) d_H_odds_11 (by rfl) ?_
    refine r_iconst (pc := 12) (v := 4) d_H_odds_12 (by rfl) ?_
    refine r_cSi (pc := 13) (st := []) (ok_H_within hn a4 (0 : Int32) (4 : Int32) hq2) w_817 w_1 w_815 w_816 hy_H_within ⟨Nat.le_of_ble_eq_true rfl, Nat.le_of_ble_eq_true rfl⟩ ⟨Nat.le_of_ble_eq_true rfl, Nat.le_of_ble_eq_true rfl⟩ rfl (Nat.le_of_ble_eq_true rfl) d_H_odds_13 (fun rq3 hq4 => ?_)
    refine r_if_eq (pc := 16) (tgt := 29) d_H_odds_16 (by rfl) ?_ ?_
    · refine r_iconst (pc := 29) (v := -1) d_H_odds_29 (by rfl) ?_
      exact r_iret (pc := 30) rfl d_H_odds_30
    · refine r_iload (pc := 19) d_H_odds_19 rfl ?_
      refine r_iconst (pc := 21) (v := 0) d_H_odds_21 (by rfl) ?_
      refine r_iconst (pc := 22) (v := 1) d_H_odds_22 (by rfl) ?_
      refine r_cSi (pc := 23) (st := []) (ok_H_within hn a5 (0 : Int32) (1 : Int32) hq4) w_817 w_1 w_815 w_816 hy_H_within ⟨Nat.le_of_ble_eq_true rfl, Nat.le_of_ble_eq_true rfl⟩ ⟨Nat.le_of_ble_eq_true rfl, Nat.le_of_ble_eq_true rfl⟩ rfl (Nat.le_of_ble_eq_true rfl) d_H_odds_23 (fun rq5 hq6 => ?_)
      refine r_if_ne (pc := 26) (tgt := 31) d_H_odds_26 (by rfl) ?_ ?_
      · refine r_iconst (pc := 31) (v := 0) d_H_odds_31 (by rfl) ?_
        refine r_istore (pc := 32) (lv1 := [some (.ref 0), some (.int a1), some (.int a2), some (.int a3), some (.int a4), some (.int a5), some (.int (0 : Int32)), none]) d_H_odds_32 (Nat.le_of_ble_eq_true rfl) rfl ?_
        refine r_iconst (pc := 34) (v := 0) d_H_odds_34 (by rfl) ?_
        refine r_istore (pc := 35) (lv1 := [some (.ref 0), some (.int a1), some (.int a2), some (.int a3), some (.int a4), some (.int a5), some (.int (0 : Int32)), some (.int (0 : Int32))]) d_H_odds_35 (Nat.le_of_ble_eq_true rfl) rfl ?_
        exact r_wk (o_H_odds_l37 hn FU (0 : Int32) (0 : Int32) hq6) ⟨rfl, ⟨rfl, ⟨rfl, ⟨rfl, ⟨rfl, ⟨rfl, ⟨rfl, ⟨rfl, trivial⟩⟩⟩⟩⟩⟩⟩⟩
      · refine r_iconst (pc := 29) (v := -1) d_H_odds_29 (by rfl) ?_
        exact r_iret (pc := 30) rfl d_H_odds_30
