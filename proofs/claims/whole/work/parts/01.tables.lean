-- ===== PART A: goes FIRST, ahead of the names: the tables' words, and 'selects' of the private methods out of them =====
/-- a private method of a class that the tables say can be made, by its rows of tables_1 -/
def lw_okq (q : MethodName × Nat) : Prop := (q.1.cls ≠ "java/lang/invoke/MethodHandle" ∧ q.1.cls ≠ "java/lang/invoke/VarHandle") ∧ Cond.instantiable q.1.cls q.2 ∈ tables_1 ∧ Cond.privateMethod q.1 ∈ tables_1 ∧ Cond.instanceMethod q.1 ∈ tables_1
theorem lw_p0 : lw_okq (⟨"CricketHay$Market", "reset", "()V"⟩, 16) := ⟨⟨by decide +kernel, by decide +kernel⟩, List.mem_of_getElem? (i := 78) (by decide +kernel), List.mem_of_getElem? (i := 109) (by decide +kernel), List.mem_of_getElem? (i := 110) (by decide +kernel)⟩
theorem lw_p1 : lw_okq (⟨"CricketHay$Reader", "next", "()V"⟩, 12) := ⟨⟨by decide +kernel, by decide +kernel⟩, List.mem_of_getElem? (i := 31) (by decide +kernel), List.mem_of_getElem? (i := 484) (by decide +kernel), List.mem_of_getElem? (i := 485) (by decide +kernel)⟩
theorem lw_p2 : lw_okq (⟨"CricketHay$Reader", "readWord", "()V"⟩, 12) := ⟨⟨by decide +kernel, by decide +kernel⟩, List.mem_of_getElem? (i := 31) (by decide +kernel), List.mem_of_getElem? (i := 494) (by decide +kernel), List.mem_of_getElem? (i := 495) (by decide +kernel)⟩
theorem lw_p3 : lw_okq (⟨"CricketHay$Reader", "fail", "(I)V"⟩, 12) := ⟨⟨by decide +kernel, by decide +kernel⟩, List.mem_of_getElem? (i := 31) (by decide +kernel), List.mem_of_getElem? (i := 498) (by decide +kernel), List.mem_of_getElem? (i := 499) (by decide +kernel)⟩
theorem lw_p4 : lw_okq (⟨"CricketHay$Reader", "readNumber", "()V"⟩, 12) := ⟨⟨by decide +kernel, by decide +kernel⟩, List.mem_of_getElem? (i := 31) (by decide +kernel), List.mem_of_getElem? (i := 554) (by decide +kernel), List.mem_of_getElem? (i := 555) (by decide +kernel)⟩
theorem lw_p5 : lw_okq (⟨"CricketHay$Reader", "readLine", "()V"⟩, 12) := ⟨⟨by decide +kernel, by decide +kernel⟩, List.mem_of_getElem? (i := 31) (by decide +kernel), List.mem_of_getElem? (i := 561) (by decide +kernel), List.mem_of_getElem? (i := 562) (by decide +kernel)⟩
theorem lw_p6 : lw_okq (⟨"CricketHay$Reader", "mayStand", "(I)Z"⟩, 12) := ⟨⟨by decide +kernel, by decide +kernel⟩, List.mem_of_getElem? (i := 31) (by decide +kernel), List.mem_of_getElem? (i := 565) (by decide +kernel), List.mem_of_getElem? (i := 566) (by decide +kernel)⟩
theorem lw_p7 : lw_okq (⟨"CricketHay$Reader", "isFirst", "(I)Z"⟩, 12) := ⟨⟨by decide +kernel, by decide +kernel⟩, List.mem_of_getElem? (i := 31) (by decide +kernel), List.mem_of_getElem? (i := 569) (by decide +kernel), List.mem_of_getElem? (i := 570) (by decide +kernel)⟩
theorem lw_p8 : lw_okq (⟨"CricketHay$Reader", "readKind", "()V"⟩, 12) := ⟨⟨by decide +kernel, by decide +kernel⟩, List.mem_of_getElem? (i := 31) (by decide +kernel), List.mem_of_getElem? (i := 573) (by decide +kernel), List.mem_of_getElem? (i := 574) (by decide +kernel)⟩
theorem lw_p9 : lw_okq (⟨"CricketHay$Reader", "isNewName", "([JI)Z"⟩, 12) := ⟨⟨by decide +kernel, by decide +kernel⟩, List.mem_of_getElem? (i := 31) (by decide +kernel), List.mem_of_getElem? (i := 577) (by decide +kernel), List.mem_of_getElem? (i := 578) (by decide +kernel)⟩
theorem lw_p10 : lw_okq (⟨"CricketHay$Reader", "readDealer", "()V"⟩, 12) := ⟨⟨by decide +kernel, by decide +kernel⟩, List.mem_of_getElem? (i := 31) (by decide +kernel), List.mem_of_getElem? (i := 581) (by decide +kernel), List.mem_of_getElem? (i := 582) (by decide +kernel)⟩
theorem lw_p11 : lw_okq (⟨"CricketHay$Reader", "need", "(I)V"⟩, 12) := ⟨⟨by decide +kernel, by decide +kernel⟩, List.mem_of_getElem? (i := 31) (by decide +kernel), List.mem_of_getElem? (i := 585) (by decide +kernel), List.mem_of_getElem? (i := 586) (by decide +kernel)⟩
theorem lw_p12 : lw_okq (⟨"CricketHay$Reader", "needKind", "()I"⟩, 12) := ⟨⟨by decide +kernel, by decide +kernel⟩, List.mem_of_getElem? (i := 31) (by decide +kernel), List.mem_of_getElem? (i := 589) (by decide +kernel), List.mem_of_getElem? (i := 590) (by decide +kernel)⟩
theorem lw_p13 : lw_okq (⟨"CricketHay$Reader", "needNumber", "(II)I"⟩, 12) := ⟨⟨by decide +kernel, by decide +kernel⟩, List.mem_of_getElem? (i := 31) (by decide +kernel), List.mem_of_getElem? (i := 593) (by decide +kernel), List.mem_of_getElem? (i := 594) (by decide +kernel)⟩
theorem lw_p14 : lw_okq (⟨"CricketHay$Reader", "take", "(I)Z"⟩, 12) := ⟨⟨by decide +kernel, by decide +kernel⟩, List.mem_of_getElem? (i := 31) (by decide +kernel), List.mem_of_getElem? (i := 597) (by decide +kernel), List.mem_of_getElem? (i := 598) (by decide +kernel)⟩
theorem lw_p15 : lw_okq (⟨"CricketHay$Reader", "readEither", "(I)V"⟩, 12) := ⟨⟨by decide +kernel, by decide +kernel⟩, List.mem_of_getElem? (i := 31) (by decide +kernel), List.mem_of_getElem? (i := 601) (by decide +kernel), List.mem_of_getElem? (i := 602) (by decide +kernel)⟩
def lw_privs_1 : List (MethodName × Nat) := [(⟨"CricketHay$Market", "reset", "()V"⟩, 16), (⟨"CricketHay$Reader", "next", "()V"⟩, 12), (⟨"CricketHay$Reader", "readWord", "()V"⟩, 12), (⟨"CricketHay$Reader", "fail", "(I)V"⟩, 12), (⟨"CricketHay$Reader", "readNumber", "()V"⟩, 12), (⟨"CricketHay$Reader", "readLine", "()V"⟩, 12), (⟨"CricketHay$Reader", "mayStand", "(I)Z"⟩, 12), (⟨"CricketHay$Reader", "isFirst", "(I)Z"⟩, 12), (⟨"CricketHay$Reader", "readKind", "()V"⟩, 12), (⟨"CricketHay$Reader", "isNewName", "([JI)Z"⟩, 12), (⟨"CricketHay$Reader", "readDealer", "()V"⟩, 12), (⟨"CricketHay$Reader", "need", "(I)V"⟩, 12), (⟨"CricketHay$Reader", "needKind", "()I"⟩, 12), (⟨"CricketHay$Reader", "needNumber", "(II)I"⟩, 12), (⟨"CricketHay$Reader", "take", "(I)Z"⟩, 12), (⟨"CricketHay$Reader", "readEither", "(I)V"⟩, 12)]
theorem lw_r1 : ∀ q ∈ lw_privs_1, lw_okq q := List.forall_mem_cons.mpr ⟨lw_p0, List.forall_mem_cons.mpr ⟨lw_p1, List.forall_mem_cons.mpr ⟨lw_p2, List.forall_mem_cons.mpr ⟨lw_p3, List.forall_mem_cons.mpr ⟨lw_p4, List.forall_mem_cons.mpr ⟨lw_p5, List.forall_mem_cons.mpr ⟨lw_p6, List.forall_mem_cons.mpr ⟨lw_p7, List.forall_mem_cons.mpr ⟨lw_p8, List.forall_mem_cons.mpr ⟨lw_p9, List.forall_mem_cons.mpr ⟨lw_p10, List.forall_mem_cons.mpr ⟨lw_p11, List.forall_mem_cons.mpr ⟨lw_p12, List.forall_mem_cons.mpr ⟨lw_p13, List.forall_mem_cons.mpr ⟨lw_p14, List.forall_mem_cons.mpr ⟨lw_p15, fun _ h => absurd h List.not_mem_nil⟩⟩⟩⟩⟩⟩⟩⟩⟩⟩⟩⟩⟩⟩⟩⟩
theorem lw_p16 : lw_okq (⟨"CricketHay$Reader", "readBoth", "(I)V"⟩, 12) := ⟨⟨by decide +kernel, by decide +kernel⟩, List.mem_of_getElem? (i := 31) (by decide +kernel), List.mem_of_getElem? (i := 605) (by decide +kernel), List.mem_of_getElem? (i := 606) (by decide +kernel)⟩
theorem lw_p17 : lw_okq (⟨"CricketHay$Reader", "readOne", "(I)V"⟩, 12) := ⟨⟨by decide +kernel, by decide +kernel⟩, List.mem_of_getElem? (i := 31) (by decide +kernel), List.mem_of_getElem? (i := 609) (by decide +kernel), List.mem_of_getElem? (i := 610) (by decide +kernel)⟩
theorem lw_p18 : lw_okq (⟨"CricketHay$Reader", "readSum", "(I)V"⟩, 12) := ⟨⟨by decide +kernel, by decide +kernel⟩, List.mem_of_getElem? (i := 31) (by decide +kernel), List.mem_of_getElem? (i := 617) (by decide +kernel), List.mem_of_getElem? (i := 618) (by decide +kernel)⟩
theorem lw_p19 : lw_okq (⟨"CricketHay$Reader", "readTerm", "(I)V"⟩, 12) := ⟨⟨by decide +kernel, by decide +kernel⟩, List.mem_of_getElem? (i := 31) (by decide +kernel), List.mem_of_getElem? (i := 621) (by decide +kernel), List.mem_of_getElem? (i := 622) (by decide +kernel)⟩
theorem lw_p20 : lw_okq (⟨"CricketHay$Reader", "readUnit", "(I)V"⟩, 12) := ⟨⟨by decide +kernel, by decide +kernel⟩, List.mem_of_getElem? (i := 31) (by decide +kernel), List.mem_of_getElem? (i := 625) (by decide +kernel), List.mem_of_getElem? (i := 626) (by decide +kernel)⟩
theorem lw_p21 : lw_okq (⟨"CricketHay$Reader", "readInner", "(I)V"⟩, 12) := ⟨⟨by decide +kernel, by decide +kernel⟩, List.mem_of_getElem? (i := 31) (by decide +kernel), List.mem_of_getElem? (i := 629) (by decide +kernel), List.mem_of_getElem? (i := 630) (by decide +kernel)⟩
theorem lw_p22 : lw_okq (⟨"CricketHay$Reader", "readSnap", "()V"⟩, 12) := ⟨⟨by decide +kernel, by decide +kernel⟩, List.mem_of_getElem? (i := 31) (by decide +kernel), List.mem_of_getElem? (i := 633) (by decide +kernel), List.mem_of_getElem? (i := 634) (by decide +kernel)⟩
theorem lw_p23 : lw_okq (⟨"CricketHay", "areTwo", "(II)Z"⟩, 13) := ⟨⟨by decide +kernel, by decide +kernel⟩, List.mem_of_getElem? (i := 23) (by decide +kernel), List.mem_of_getElem? (i := 720) (by decide +kernel), List.mem_of_getElem? (i := 721) (by decide +kernel)⟩
theorem lw_p24 : lw_okq (⟨"CricketHay", "canBuyOne", "(II)Z"⟩, 13) := ⟨⟨by decide +kernel, by decide +kernel⟩, List.mem_of_getElem? (i := 23) (by decide +kernel), List.mem_of_getElem? (i := 732) (by decide +kernel), List.mem_of_getElem? (i := 733) (by decide +kernel)⟩
theorem lw_p25 : lw_okq (⟨"CricketHay$Acts", "dropOldest", "()V"⟩, 3) := ⟨⟨by decide +kernel, by decide +kernel⟩, List.mem_of_getElem? (i := 275) (by decide +kernel), List.mem_of_getElem? (i := 756) (by decide +kernel), List.mem_of_getElem? (i := 757) (by decide +kernel)⟩
theorem lw_p26 : lw_okq (⟨"CricketHay$Yard", "eat", "(LCricketHay$Market;)V"⟩, 10) := ⟨⟨by decide +kernel, by decide +kernel⟩, List.mem_of_getElem? (i := 205) (by decide +kernel), List.mem_of_getElem? (i := 792) (by decide +kernel), List.mem_of_getElem? (i := 793) (by decide +kernel)⟩
theorem lw_p27 : lw_okq (⟨"CricketHay", "lookAhead", "(I)V"⟩, 13) := ⟨⟨by decide +kernel, by decide +kernel⟩, List.mem_of_getElem? (i := 23) (by decide +kernel), List.mem_of_getElem? (i := 819) (by decide +kernel), List.mem_of_getElem? (i := 820) (by decide +kernel)⟩
theorem lw_p28 : lw_okq (⟨"CricketHay", "bestHour", "(IIII)I"⟩, 13) := ⟨⟨by decide +kernel, by decide +kernel⟩, List.mem_of_getElem? (i := 23) (by decide +kernel), List.mem_of_getElem? (i := 828) (by decide +kernel), List.mem_of_getElem? (i := 829) (by decide +kernel)⟩
theorem lw_p29 : lw_okq (⟨"CricketHay", "hearPrices", "(III)V"⟩, 13) := ⟨⟨by decide +kernel, by decide +kernel⟩, List.mem_of_getElem? (i := 23) (by decide +kernel), List.mem_of_getElem? (i := 840) (by decide +kernel), List.mem_of_getElem? (i := 841) (by decide +kernel)⟩
theorem lw_p30 : lw_okq (⟨"CricketHay", "cheapestUnused", "(I)I"⟩, 13) := ⟨⟨by decide +kernel, by decide +kernel⟩, List.mem_of_getElem? (i := 23) (by decide +kernel), List.mem_of_getElem? (i := 848) (by decide +kernel), List.mem_of_getElem? (i := 849) (by decide +kernel)⟩
theorem lw_p31 : lw_okq (⟨"CricketHay", "canDeal", "(III)Z"⟩, 13) := ⟨⟨by decide +kernel, by decide +kernel⟩, List.mem_of_getElem? (i := 23) (by decide +kernel), List.mem_of_getElem? (i := 858) (by decide +kernel), List.mem_of_getElem? (i := 859) (by decide +kernel)⟩
def lw_privs_2 : List (MethodName × Nat) := [(⟨"CricketHay$Reader", "readBoth", "(I)V"⟩, 12), (⟨"CricketHay$Reader", "readOne", "(I)V"⟩, 12), (⟨"CricketHay$Reader", "readSum", "(I)V"⟩, 12), (⟨"CricketHay$Reader", "readTerm", "(I)V"⟩, 12), (⟨"CricketHay$Reader", "readUnit", "(I)V"⟩, 12), (⟨"CricketHay$Reader", "readInner", "(I)V"⟩, 12), (⟨"CricketHay$Reader", "readSnap", "()V"⟩, 12), (⟨"CricketHay", "areTwo", "(II)Z"⟩, 13), (⟨"CricketHay", "canBuyOne", "(II)Z"⟩, 13), (⟨"CricketHay$Acts", "dropOldest", "()V"⟩, 3), (⟨"CricketHay$Yard", "eat", "(LCricketHay$Market;)V"⟩, 10), (⟨"CricketHay", "lookAhead", "(I)V"⟩, 13), (⟨"CricketHay", "bestHour", "(IIII)I"⟩, 13), (⟨"CricketHay", "hearPrices", "(III)V"⟩, 13), (⟨"CricketHay", "cheapestUnused", "(I)I"⟩, 13), (⟨"CricketHay", "canDeal", "(III)Z"⟩, 13)]
theorem lw_r2 : ∀ q ∈ lw_privs_2, lw_okq q := List.forall_mem_cons.mpr ⟨lw_p16, List.forall_mem_cons.mpr ⟨lw_p17, List.forall_mem_cons.mpr ⟨lw_p18, List.forall_mem_cons.mpr ⟨lw_p19, List.forall_mem_cons.mpr ⟨lw_p20, List.forall_mem_cons.mpr ⟨lw_p21, List.forall_mem_cons.mpr ⟨lw_p22, List.forall_mem_cons.mpr ⟨lw_p23, List.forall_mem_cons.mpr ⟨lw_p24, List.forall_mem_cons.mpr ⟨lw_p25, List.forall_mem_cons.mpr ⟨lw_p26, List.forall_mem_cons.mpr ⟨lw_p27, List.forall_mem_cons.mpr ⟨lw_p28, List.forall_mem_cons.mpr ⟨lw_p29, List.forall_mem_cons.mpr ⟨lw_p30, List.forall_mem_cons.mpr ⟨lw_p31, fun _ h => absurd h List.not_mem_nil⟩⟩⟩⟩⟩⟩⟩⟩⟩⟩⟩⟩⟩⟩⟩⟩
theorem lw_p32 : lw_okq (⟨"CricketHay$Clearing", "choose", "(III)V"⟩, 8) := ⟨⟨by decide +kernel, by decide +kernel⟩, List.mem_of_getElem? (i := 370) (by decide +kernel), List.mem_of_getElem? (i := 870) (by decide +kernel), List.mem_of_getElem? (i := 871) (by decide +kernel)⟩
theorem lw_p33 : lw_okq (⟨"CricketHay$Clearing", "compare", "(II)V"⟩, 8) := ⟨⟨by decide +kernel, by decide +kernel⟩, List.mem_of_getElem? (i := 370) (by decide +kernel), List.mem_of_getElem? (i := 874) (by decide +kernel), List.mem_of_getElem? (i := 875) (by decide +kernel)⟩
theorem lw_p34 : lw_okq (⟨"CricketHay$Choir", "byLaw", "(III)I"⟩, 2) := ⟨⟨by decide +kernel, by decide +kernel⟩, List.mem_of_getElem? (i := 261) (by decide +kernel), List.mem_of_getElem? (i := 889) (by decide +kernel), List.mem_of_getElem? (i := 890) (by decide +kernel)⟩
theorem lw_p35 : lw_okq (⟨"CricketHay", "weight", "(II)I"⟩, 13) := ⟨⟨by decide +kernel, by decide +kernel⟩, List.mem_of_getElem? (i := 23) (by decide +kernel), List.mem_of_getElem? (i := 908) (by decide +kernel), List.mem_of_getElem? (i := 909) (by decide +kernel)⟩
theorem lw_p36 : lw_okq (⟨"CricketHay", "priceBehind", "(IIII)I"⟩, 13) := ⟨⟨by decide +kernel, by decide +kernel⟩, List.mem_of_getElem? (i := 23) (by decide +kernel), List.mem_of_getElem? (i := 912) (by decide +kernel), List.mem_of_getElem? (i := 913) (by decide +kernel)⟩
theorem lw_p37 : lw_okq (⟨"CricketHay", "hearBreaths", "(III)V"⟩, 13) := ⟨⟨by decide +kernel, by decide +kernel⟩, List.mem_of_getElem? (i := 23) (by decide +kernel), List.mem_of_getElem? (i := 927) (by decide +kernel), List.mem_of_getElem? (i := 928) (by decide +kernel)⟩
theorem lw_p38 : lw_okq (⟨"CricketHay", "buyerStays", "(II)Z"⟩, 13) := ⟨⟨by decide +kernel, by decide +kernel⟩, List.mem_of_getElem? (i := 23) (by decide +kernel), List.mem_of_getElem? (i := 931) (by decide +kernel), List.mem_of_getElem? (i := 932) (by decide +kernel)⟩
theorem lw_p39 : lw_okq (⟨"CricketHay", "buyerHas", "(II)I"⟩, 13) := ⟨⟨by decide +kernel, by decide +kernel⟩, List.mem_of_getElem? (i := 23) (by decide +kernel), List.mem_of_getElem? (i := 935) (by decide +kernel), List.mem_of_getElem? (i := 936) (by decide +kernel)⟩
theorem lw_p40 : lw_okq (⟨"CricketHay", "sellerStays", "(II)Z"⟩, 13) := ⟨⟨by decide +kernel, by decide +kernel⟩, List.mem_of_getElem? (i := 23) (by decide +kernel), List.mem_of_getElem? (i := 942) (by decide +kernel), List.mem_of_getElem? (i := 943) (by decide +kernel)⟩
theorem lw_p41 : lw_okq (⟨"CricketHay", "sellerHas", "(II)I"⟩, 13) := ⟨⟨by decide +kernel, by decide +kernel⟩, List.mem_of_getElem? (i := 23) (by decide +kernel), List.mem_of_getElem? (i := 946) (by decide +kernel), List.mem_of_getElem? (i := 947) (by decide +kernel)⟩
theorem lw_p42 : lw_okq (⟨"CricketHay$Mating", "matings", "(I)I"⟩, 2) := ⟨⟨by decide +kernel, by decide +kernel⟩, List.mem_of_getElem? (i := 357) (by decide +kernel), List.mem_of_getElem? (i := 978) (by decide +kernel), List.mem_of_getElem? (i := 979) (by decide +kernel)⟩
theorem lw_p43 : lw_okq (⟨"CricketHay$Ears", "isFit", "(LCricketHay$Market;II)Z"⟩, 12) := ⟨⟨by decide +kernel, by decide +kernel⟩, List.mem_of_getElem? (i := 312) (by decide +kernel), List.mem_of_getElem? (i := 1030) (by decide +kernel), List.mem_of_getElem? (i := 1031) (by decide +kernel)⟩
theorem lw_p44 : lw_okq (⟨"CricketHay$Ears", "counts", "(II)Z"⟩, 12) := ⟨⟨by decide +kernel, by decide +kernel⟩, List.mem_of_getElem? (i := 312) (by decide +kernel), List.mem_of_getElem? (i := 1034) (by decide +kernel), List.mem_of_getElem? (i := 1035) (by decide +kernel)⟩
theorem lw_p45 : lw_okq (⟨"CricketHay$Ears", "sings", "(LCricketHay$Market;II)I"⟩, 12) := ⟨⟨by decide +kernel, by decide +kernel⟩, List.mem_of_getElem? (i := 312) (by decide +kernel), List.mem_of_getElem? (i := 1038) (by decide +kernel), List.mem_of_getElem? (i := 1039) (by decide +kernel)⟩
theorem lw_p46 : lw_okq (⟨"CricketHayModel", "four", "(I)V"⟩, 73) := ⟨⟨by decide +kernel, by decide +kernel⟩, List.mem_of_getElem? (i := 1081) (by decide +kernel), List.mem_of_getElem? (i := 1311) (by decide +kernel), List.mem_of_getElem? (i := 1312) (by decide +kernel)⟩
theorem lw_p47 : lw_okq (⟨"CricketHayModel", "readAll", "()V"⟩, 73) := ⟨⟨by decide +kernel, by decide +kernel⟩, List.mem_of_getElem? (i := 1081) (by decide +kernel), List.mem_of_getElem? (i := 1323) (by decide +kernel), List.mem_of_getElem? (i := 1324) (by decide +kernel)⟩
def lw_privs_3 : List (MethodName × Nat) := [(⟨"CricketHay$Clearing", "choose", "(III)V"⟩, 8), (⟨"CricketHay$Clearing", "compare", "(II)V"⟩, 8), (⟨"CricketHay$Choir", "byLaw", "(III)I"⟩, 2), (⟨"CricketHay", "weight", "(II)I"⟩, 13), (⟨"CricketHay", "priceBehind", "(IIII)I"⟩, 13), (⟨"CricketHay", "hearBreaths", "(III)V"⟩, 13), (⟨"CricketHay", "buyerStays", "(II)Z"⟩, 13), (⟨"CricketHay", "buyerHas", "(II)I"⟩, 13), (⟨"CricketHay", "sellerStays", "(II)Z"⟩, 13), (⟨"CricketHay", "sellerHas", "(II)I"⟩, 13), (⟨"CricketHay$Mating", "matings", "(I)I"⟩, 2), (⟨"CricketHay$Ears", "isFit", "(LCricketHay$Market;II)Z"⟩, 12), (⟨"CricketHay$Ears", "counts", "(II)Z"⟩, 12), (⟨"CricketHay$Ears", "sings", "(LCricketHay$Market;II)I"⟩, 12), (⟨"CricketHayModel", "four", "(I)V"⟩, 73), (⟨"CricketHayModel", "readAll", "()V"⟩, 73)]
theorem lw_r3 : ∀ q ∈ lw_privs_3, lw_okq q := List.forall_mem_cons.mpr ⟨lw_p32, List.forall_mem_cons.mpr ⟨lw_p33, List.forall_mem_cons.mpr ⟨lw_p34, List.forall_mem_cons.mpr ⟨lw_p35, List.forall_mem_cons.mpr ⟨lw_p36, List.forall_mem_cons.mpr ⟨lw_p37, List.forall_mem_cons.mpr ⟨lw_p38, List.forall_mem_cons.mpr ⟨lw_p39, List.forall_mem_cons.mpr ⟨lw_p40, List.forall_mem_cons.mpr ⟨lw_p41, List.forall_mem_cons.mpr ⟨lw_p42, List.forall_mem_cons.mpr ⟨lw_p43, List.forall_mem_cons.mpr ⟨lw_p44, List.forall_mem_cons.mpr ⟨lw_p45, List.forall_mem_cons.mpr ⟨lw_p46, List.forall_mem_cons.mpr ⟨lw_p47, fun _ h => absurd h List.not_mem_nil⟩⟩⟩⟩⟩⟩⟩⟩⟩⟩⟩⟩⟩⟩⟩⟩
theorem lw_p48 : lw_okq (⟨"CricketHayModel", "token", "()V"⟩, 73) := ⟨⟨by decide +kernel, by decide +kernel⟩, List.mem_of_getElem? (i := 1081) (by decide +kernel), List.mem_of_getElem? (i := 1327) (by decide +kernel), List.mem_of_getElem? (i := 1328) (by decide +kernel)⟩
theorem lw_p49 : lw_okq (⟨"CricketHayModel", "here", "(I)I"⟩, 73) := ⟨⟨by decide +kernel, by decide +kernel⟩, List.mem_of_getElem? (i := 1081) (by decide +kernel), List.mem_of_getElem? (i := 1331) (by decide +kernel), List.mem_of_getElem? (i := 1332) (by decide +kernel)⟩
theorem lw_p50 : lw_okq (⟨"CricketHayModel", "readLine", "()V"⟩, 73) := ⟨⟨by decide +kernel, by decide +kernel⟩, List.mem_of_getElem? (i := 1081) (by decide +kernel), List.mem_of_getElem? (i := 1344) (by decide +kernel), List.mem_of_getElem? (i := 1345) (by decide +kernel)⟩
theorem lw_p51 : lw_okq (⟨"CricketHayModel", "isWord", "(J)Z"⟩, 73) := ⟨⟨by decide +kernel, by decide +kernel⟩, List.mem_of_getElem? (i := 1081) (by decide +kernel), List.mem_of_getElem? (i := 1349) (by decide +kernel), List.mem_of_getElem? (i := 1350) (by decide +kernel)⟩
theorem lw_p52 : lw_okq (⟨"CricketHayModel", "readKind", "()V"⟩, 73) := ⟨⟨by decide +kernel, by decide +kernel⟩, List.mem_of_getElem? (i := 1081) (by decide +kernel), List.mem_of_getElem? (i := 1353) (by decide +kernel), List.mem_of_getElem? (i := 1354) (by decide +kernel)⟩
theorem lw_p53 : lw_okq (⟨"CricketHayModel", "newName", "(II)V"⟩, 73) := ⟨⟨by decide +kernel, by decide +kernel⟩, List.mem_of_getElem? (i := 1081) (by decide +kernel), List.mem_of_getElem? (i := 1357) (by decide +kernel), List.mem_of_getElem? (i := 1358) (by decide +kernel)⟩
theorem lw_p54 : lw_okq (⟨"CricketHayModel", "isName", "()Z"⟩, 73) := ⟨⟨by decide +kernel, by decide +kernel⟩, List.mem_of_getElem? (i := 1081) (by decide +kernel), List.mem_of_getElem? (i := 1361) (by decide +kernel), List.mem_of_getElem? (i := 1362) (by decide +kernel)⟩
theorem lw_p55 : lw_okq (⟨"CricketHayModel", "isOwn", "()Z"⟩, 73) := ⟨⟨by decide +kernel, by decide +kernel⟩, List.mem_of_getElem? (i := 1081) (by decide +kernel), List.mem_of_getElem? (i := 1365) (by decide +kernel), List.mem_of_getElem? (i := 1366) (by decide +kernel)⟩
theorem lw_p56 : lw_okq (⟨"CricketHayModel", "wrong", "(I)V"⟩, 73) := ⟨⟨by decide +kernel, by decide +kernel⟩, List.mem_of_getElem? (i := 1081) (by decide +kernel), List.mem_of_getElem? (i := 1387) (by decide +kernel), List.mem_of_getElem? (i := 1388) (by decide +kernel)⟩
theorem lw_p57 : lw_okq (⟨"CricketHayModel", "find", "(II)I"⟩, 73) := ⟨⟨by decide +kernel, by decide +kernel⟩, List.mem_of_getElem? (i := 1081) (by decide +kernel), List.mem_of_getElem? (i := 1391) (by decide +kernel), List.mem_of_getElem? (i := 1392) (by decide +kernel)⟩
theorem lw_p58 : lw_okq (⟨"CricketHayModel", "readDealer", "()V"⟩, 73) := ⟨⟨by decide +kernel, by decide +kernel⟩, List.mem_of_getElem? (i := 1081) (by decide +kernel), List.mem_of_getElem? (i := 1395) (by decide +kernel), List.mem_of_getElem? (i := 1396) (by decide +kernel)⟩
theorem lw_p59 : lw_okq (⟨"CricketHayModel", "want", "(J)V"⟩, 73) := ⟨⟨by decide +kernel, by decide +kernel⟩, List.mem_of_getElem? (i := 1081) (by decide +kernel), List.mem_of_getElem? (i := 1399) (by decide +kernel), List.mem_of_getElem? (i := 1400) (by decide +kernel)⟩
theorem lw_p60 : lw_okq (⟨"CricketHayModel", "told", "(JII)I"⟩, 73) := ⟨⟨by decide +kernel, by decide +kernel⟩, List.mem_of_getElem? (i := 1081) (by decide +kernel), List.mem_of_getElem? (i := 1403) (by decide +kernel), List.mem_of_getElem? (i := 1404) (by decide +kernel)⟩
theorem lw_p61 : lw_okq (⟨"CricketHayModel", "toldNumber", "(II)I"⟩, 73) := ⟨⟨by decide +kernel, by decide +kernel⟩, List.mem_of_getElem? (i := 1081) (by decide +kernel), List.mem_of_getElem? (i := 1407) (by decide +kernel), List.mem_of_getElem? (i := 1408) (by decide +kernel)⟩
theorem lw_p62 : lw_okq (⟨"CricketHayModel", "option", "(JI)I"⟩, 73) := ⟨⟨by decide +kernel, by decide +kernel⟩, List.mem_of_getElem? (i := 1081) (by decide +kernel), List.mem_of_getElem? (i := 1411) (by decide +kernel), List.mem_of_getElem? (i := 1412) (by decide +kernel)⟩
theorem lw_p63 : lw_okq (⟨"CricketHayModel", "formula", "(I)V"⟩, 73) := ⟨⟨by decide +kernel, by decide +kernel⟩, List.mem_of_getElem? (i := 1081) (by decide +kernel), List.mem_of_getElem? (i := 1415) (by decide +kernel), List.mem_of_getElem? (i := 1416) (by decide +kernel)⟩
def lw_privs_4 : List (MethodName × Nat) := [(⟨"CricketHayModel", "token", "()V"⟩, 73), (⟨"CricketHayModel", "here", "(I)I"⟩, 73), (⟨"CricketHayModel", "readLine", "()V"⟩, 73), (⟨"CricketHayModel", "isWord", "(J)Z"⟩, 73), (⟨"CricketHayModel", "readKind", "()V"⟩, 73), (⟨"CricketHayModel", "newName", "(II)V"⟩, 73), (⟨"CricketHayModel", "isName", "()Z"⟩, 73), (⟨"CricketHayModel", "isOwn", "()Z"⟩, 73), (⟨"CricketHayModel", "wrong", "(I)V"⟩, 73), (⟨"CricketHayModel", "find", "(II)I"⟩, 73), (⟨"CricketHayModel", "readDealer", "()V"⟩, 73), (⟨"CricketHayModel", "want", "(J)V"⟩, 73), (⟨"CricketHayModel", "told", "(JII)I"⟩, 73), (⟨"CricketHayModel", "toldNumber", "(II)I"⟩, 73), (⟨"CricketHayModel", "option", "(JI)I"⟩, 73), (⟨"CricketHayModel", "formula", "(I)V"⟩, 73)]
theorem lw_r4 : ∀ q ∈ lw_privs_4, lw_okq q := List.forall_mem_cons.mpr ⟨lw_p48, List.forall_mem_cons.mpr ⟨lw_p49, List.forall_mem_cons.mpr ⟨lw_p50, List.forall_mem_cons.mpr ⟨lw_p51, List.forall_mem_cons.mpr ⟨lw_p52, List.forall_mem_cons.mpr ⟨lw_p53, List.forall_mem_cons.mpr ⟨lw_p54, List.forall_mem_cons.mpr ⟨lw_p55, List.forall_mem_cons.mpr ⟨lw_p56, List.forall_mem_cons.mpr ⟨lw_p57, List.forall_mem_cons.mpr ⟨lw_p58, List.forall_mem_cons.mpr ⟨lw_p59, List.forall_mem_cons.mpr ⟨lw_p60, List.forall_mem_cons.mpr ⟨lw_p61, List.forall_mem_cons.mpr ⟨lw_p62, List.forall_mem_cons.mpr ⟨lw_p63, fun _ h => absurd h List.not_mem_nil⟩⟩⟩⟩⟩⟩⟩⟩⟩⟩⟩⟩⟩⟩⟩⟩
theorem lw_p64 : lw_okq (⟨"CricketHayModel", "unit", "()V"⟩, 73) := ⟨⟨by decide +kernel, by decide +kernel⟩, List.mem_of_getElem? (i := 1081) (by decide +kernel), List.mem_of_getElem? (i := 1419) (by decide +kernel), List.mem_of_getElem? (i := 1420) (by decide +kernel)⟩
theorem lw_p65 : lw_okq (⟨"CricketHayModel", "mayNot", "()Z"⟩, 73) := ⟨⟨by decide +kernel, by decide +kernel⟩, List.mem_of_getElem? (i := 1081) (by decide +kernel), List.mem_of_getElem? (i := 1423) (by decide +kernel), List.mem_of_getElem? (i := 1424) (by decide +kernel)⟩
theorem lw_p66 : lw_okq (⟨"CricketHayModel", "openUp", "(I)V"⟩, 73) := ⟨⟨by decide +kernel, by decide +kernel⟩, List.mem_of_getElem? (i := 1081) (by decide +kernel), List.mem_of_getElem? (i := 1430) (by decide +kernel), List.mem_of_getElem? (i := 1431) (by decide +kernel)⟩
theorem lw_p67 : lw_okq (⟨"CricketHayModel", "isFull", "()Z"⟩, 73) := ⟨⟨by decide +kernel, by decide +kernel⟩, List.mem_of_getElem? (i := 1081) (by decide +kernel), List.mem_of_getElem? (i := 1434) (by decide +kernel), List.mem_of_getElem? (i := 1435) (by decide +kernel)⟩
theorem lw_p68 : lw_okq (⟨"CricketHayModel", "countUnit", "()V"⟩, 73) := ⟨⟨by decide +kernel, by decide +kernel⟩, List.mem_of_getElem? (i := 1081) (by decide +kernel), List.mem_of_getElem? (i := 1438) (by decide +kernel), List.mem_of_getElem? (i := 1439) (by decide +kernel)⟩
theorem lw_p69 : lw_okq (⟨"CricketHayModel", "asked", "()I"⟩, 73) := ⟨⟨by decide +kernel, by decide +kernel⟩, List.mem_of_getElem? (i := 1081) (by decide +kernel), List.mem_of_getElem? (i := 1442) (by decide +kernel), List.mem_of_getElem? (i := 1443) (by decide +kernel)⟩
theorem lw_p70 : lw_okq (⟨"CricketHayModel", "add", "(II)V"⟩, 73) := ⟨⟨by decide +kernel, by decide +kernel⟩, List.mem_of_getElem? (i := 1081) (by decide +kernel), List.mem_of_getElem? (i := 1446) (by decide +kernel), List.mem_of_getElem? (i := 1447) (by decide +kernel)⟩
theorem lw_p71 : lw_okq (⟨"CricketHayModel", "sign", "()I"⟩, 73) := ⟨⟨by decide +kernel, by decide +kernel⟩, List.mem_of_getElem? (i := 1081) (by decide +kernel), List.mem_of_getElem? (i := 1450) (by decide +kernel), List.mem_of_getElem? (i := 1451) (by decide +kernel)⟩
theorem lw_p72 : lw_okq (⟨"CricketHayModel", "hasBracket", "()Z"⟩, 73) := ⟨⟨by decide +kernel, by decide +kernel⟩, List.mem_of_getElem? (i := 1081) (by decide +kernel), List.mem_of_getElem? (i := 1454) (by decide +kernel), List.mem_of_getElem? (i := 1455) (by decide +kernel)⟩
theorem lw_p73 : lw_okq (⟨"CricketHayModel", "close", "(I)V"⟩, 73) := ⟨⟨by decide +kernel, by decide +kernel⟩, List.mem_of_getElem? (i := 1081) (by decide +kernel), List.mem_of_getElem? (i := 1458) (by decide +kernel), List.mem_of_getElem? (i := 1459) (by decide +kernel)⟩
theorem lw_p74 : lw_okq (⟨"CricketHayModel", "hasRelation", "()Z"⟩, 73) := ⟨⟨by decide +kernel, by decide +kernel⟩, List.mem_of_getElem? (i := 1081) (by decide +kernel), List.mem_of_getElem? (i := 1462) (by decide +kernel), List.mem_of_getElem? (i := 1463) (by decide +kernel)⟩
theorem lw_p75 : lw_okq (⟨"CricketHayModel", "isDealer", "(I)Z"⟩, 73) := ⟨⟨by decide +kernel, by decide +kernel⟩, List.mem_of_getElem? (i := 1081) (by decide +kernel), List.mem_of_getElem? (i := 1474) (by decide +kernel), List.mem_of_getElem? (i := 1475) (by decide +kernel)⟩
theorem lw_p76 : lw_okq (⟨"CricketHayModel", "load", "()V"⟩, 73) := ⟨⟨by decide +kernel, by decide +kernel⟩, List.mem_of_getElem? (i := 1081) (by decide +kernel), List.mem_of_getElem? (i := 1481) (by decide +kernel), List.mem_of_getElem? (i := 1482) (by decide +kernel)⟩
theorem lw_p77 : lw_okq (⟨"CricketHayModel", "isFree", "(I)Z"⟩, 73) := ⟨⟨by decide +kernel, by decide +kernel⟩, List.mem_of_getElem? (i := 1081) (by decide +kernel), List.mem_of_getElem? (i := 1485) (by decide +kernel), List.mem_of_getElem? (i := 1486) (by decide +kernel)⟩
theorem lw_p78 : lw_okq (⟨"CricketHayModel", "chirpsOf", "(I)I"⟩, 73) := ⟨⟨by decide +kernel, by decide +kernel⟩, List.mem_of_getElem? (i := 1081) (by decide +kernel), List.mem_of_getElem? (i := 1492) (by decide +kernel), List.mem_of_getElem? (i := 1493) (by decide +kernel)⟩
theorem lw_p79 : lw_okq (⟨"CricketHayModel", "heatHere", "()I"⟩, 73) := ⟨⟨by decide +kernel, by decide +kernel⟩, List.mem_of_getElem? (i := 1081) (by decide +kernel), List.mem_of_getElem? (i := 1496) (by decide +kernel), List.mem_of_getElem? (i := 1497) (by decide +kernel)⟩
def lw_privs_5 : List (MethodName × Nat) := [(⟨"CricketHayModel", "unit", "()V"⟩, 73), (⟨"CricketHayModel", "mayNot", "()Z"⟩, 73), (⟨"CricketHayModel", "openUp", "(I)V"⟩, 73), (⟨"CricketHayModel", "isFull", "()Z"⟩, 73), (⟨"CricketHayModel", "countUnit", "()V"⟩, 73), (⟨"CricketHayModel", "asked", "()I"⟩, 73), (⟨"CricketHayModel", "add", "(II)V"⟩, 73), (⟨"CricketHayModel", "sign", "()I"⟩, 73), (⟨"CricketHayModel", "hasBracket", "()Z"⟩, 73), (⟨"CricketHayModel", "close", "(I)V"⟩, 73), (⟨"CricketHayModel", "hasRelation", "()Z"⟩, 73), (⟨"CricketHayModel", "isDealer", "(I)Z"⟩, 73), (⟨"CricketHayModel", "load", "()V"⟩, 73), (⟨"CricketHayModel", "isFree", "(I)Z"⟩, 73), (⟨"CricketHayModel", "chirpsOf", "(I)I"⟩, 73), (⟨"CricketHayModel", "heatHere", "()I"⟩, 73)]
theorem lw_r5 : ∀ q ∈ lw_privs_5, lw_okq q := List.forall_mem_cons.mpr ⟨lw_p64, List.forall_mem_cons.mpr ⟨lw_p65, List.forall_mem_cons.mpr ⟨lw_p66, List.forall_mem_cons.mpr ⟨lw_p67, List.forall_mem_cons.mpr ⟨lw_p68, List.forall_mem_cons.mpr ⟨lw_p69, List.forall_mem_cons.mpr ⟨lw_p70, List.forall_mem_cons.mpr ⟨lw_p71, List.forall_mem_cons.mpr ⟨lw_p72, List.forall_mem_cons.mpr ⟨lw_p73, List.forall_mem_cons.mpr ⟨lw_p74, List.forall_mem_cons.mpr ⟨lw_p75, List.forall_mem_cons.mpr ⟨lw_p76, List.forall_mem_cons.mpr ⟨lw_p77, List.forall_mem_cons.mpr ⟨lw_p78, List.forall_mem_cons.mpr ⟨lw_p79, fun _ h => absurd h List.not_mem_nil⟩⟩⟩⟩⟩⟩⟩⟩⟩⟩⟩⟩⟩⟩⟩⟩
theorem lw_p80 : lw_okq (⟨"CricketHayModel", "askOf", "(IIII)V"⟩, 73) := ⟨⟨by decide +kernel, by decide +kernel⟩, List.mem_of_getElem? (i := 1081) (by decide +kernel), List.mem_of_getElem? (i := 1500) (by decide +kernel), List.mem_of_getElem? (i := 1501) (by decide +kernel)⟩
theorem lw_p81 : lw_okq (⟨"CricketHayModel", "worked", "(II)I"⟩, 73) := ⟨⟨by decide +kernel, by decide +kernel⟩, List.mem_of_getElem? (i := 1081) (by decide +kernel), List.mem_of_getElem? (i := 1504) (by decide +kernel), List.mem_of_getElem? (i := 1505) (by decide +kernel)⟩
theorem lw_p82 : lw_okq (⟨"CricketHayModel", "matesOf", "(I)I"⟩, 73) := ⟨⟨by decide +kernel, by decide +kernel⟩, List.mem_of_getElem? (i := 1081) (by decide +kernel), List.mem_of_getElem? (i := 1514) (by decide +kernel), List.mem_of_getElem? (i := 1515) (by decide +kernel)⟩
theorem lw_p83 : lw_okq (⟨"CricketHayModel", "chirpsAt", "(IIII)I"⟩, 73) := ⟨⟨by decide +kernel, by decide +kernel⟩, List.mem_of_getElem? (i := 1081) (by decide +kernel), List.mem_of_getElem? (i := 1518) (by decide +kernel), List.mem_of_getElem? (i := 1519) (by decide +kernel)⟩
theorem lw_p84 : lw_okq (⟨"CricketHayModel", "areTwo", "(II)Z"⟩, 73) := ⟨⟨by decide +kernel, by decide +kernel⟩, List.mem_of_getElem? (i := 1081) (by decide +kernel), List.mem_of_getElem? (i := 1530) (by decide +kernel), List.mem_of_getElem? (i := 1531) (by decide +kernel)⟩
theorem lw_p85 : lw_okq (⟨"CricketHayModel", "priceOf", "(II)I"⟩, 73) := ⟨⟨by decide +kernel, by decide +kernel⟩, List.mem_of_getElem? (i := 1081) (by decide +kernel), List.mem_of_getElem? (i := 1534) (by decide +kernel), List.mem_of_getElem? (i := 1535) (by decide +kernel)⟩
theorem lw_p86 : lw_okq (⟨"CricketHayModel", "chorusHere", "()I"⟩, 73) := ⟨⟨by decide +kernel, by decide +kernel⟩, List.mem_of_getElem? (i := 1081) (by decide +kernel), List.mem_of_getElem? (i := 1546) (by decide +kernel), List.mem_of_getElem? (i := 1547) (by decide +kernel)⟩
theorem lw_p87 : lw_okq (⟨"CricketHayModel", "act", "()V"⟩, 73) := ⟨⟨by decide +kernel, by decide +kernel⟩, List.mem_of_getElem? (i := 1081) (by decide +kernel), List.mem_of_getElem? (i := 1558) (by decide +kernel), List.mem_of_getElem? (i := 1559) (by decide +kernel)⟩
theorem lw_p88 : lw_okq (⟨"CricketHayModel", "isThere", "(I)Z"⟩, 73) := ⟨⟨by decide +kernel, by decide +kernel⟩, List.mem_of_getElem? (i := 1081) (by decide +kernel), List.mem_of_getElem? (i := 1566) (by decide +kernel), List.mem_of_getElem? (i := 1567) (by decide +kernel)⟩
theorem lw_p89 : lw_okq (⟨"CricketHayModel", "goHour", "()V"⟩, 73) := ⟨⟨by decide +kernel, by decide +kernel⟩, List.mem_of_getElem? (i := 1081) (by decide +kernel), List.mem_of_getElem? (i := 1578) (by decide +kernel), List.mem_of_getElem? (i := 1579) (by decide +kernel)⟩
theorem lw_p90 : lw_okq (⟨"CricketHayModel", "pass", "(Z)V"⟩, 73) := ⟨⟨by decide +kernel, by decide +kernel⟩, List.mem_of_getElem? (i := 1081) (by decide +kernel), List.mem_of_getElem? (i := 1582) (by decide +kernel), List.mem_of_getElem? (i := 1583) (by decide +kernel)⟩
theorem lw_p91 : lw_okq (⟨"CricketHayModel", "eat", "(I)V"⟩, 73) := ⟨⟨by decide +kernel, by decide +kernel⟩, List.mem_of_getElem? (i := 1081) (by decide +kernel), List.mem_of_getElem? (i := 1586) (by decide +kernel), List.mem_of_getElem? (i := 1587) (by decide +kernel)⟩
theorem lw_p92 : lw_okq (⟨"CricketHayModel", "exchange", "(I)V"⟩, 73) := ⟨⟨by decide +kernel, by decide +kernel⟩, List.mem_of_getElem? (i := 1081) (by decide +kernel), List.mem_of_getElem? (i := 1594) (by decide +kernel), List.mem_of_getElem? (i := 1595) (by decide +kernel)⟩
theorem lw_p93 : lw_okq (⟨"CricketHayModel", "goFar", "(I)V"⟩, 73) := ⟨⟨by decide +kernel, by decide +kernel⟩, List.mem_of_getElem? (i := 1081) (by decide +kernel), List.mem_of_getElem? (i := 1606) (by decide +kernel), List.mem_of_getElem? (i := 1607) (by decide +kernel)⟩
theorem lw_p94 : lw_okq (⟨"CricketHayModel", "edge", "(IIIZ)I"⟩, 73) := ⟨⟨by decide +kernel, by decide +kernel⟩, List.mem_of_getElem? (i := 1081) (by decide +kernel), List.mem_of_getElem? (i := 1614) (by decide +kernel), List.mem_of_getElem? (i := 1615) (by decide +kernel)⟩
theorem lw_p95 : lw_okq (⟨"CricketHayModel", "laySellers", "(I)Z"⟩, 73) := ⟨⟨by decide +kernel, by decide +kernel⟩, List.mem_of_getElem? (i := 1081) (by decide +kernel), List.mem_of_getElem? (i := 1634) (by decide +kernel), List.mem_of_getElem? (i := 1635) (by decide +kernel)⟩
def lw_privs_6 : List (MethodName × Nat) := [(⟨"CricketHayModel", "askOf", "(IIII)V"⟩, 73), (⟨"CricketHayModel", "worked", "(II)I"⟩, 73), (⟨"CricketHayModel", "matesOf", "(I)I"⟩, 73), (⟨"CricketHayModel", "chirpsAt", "(IIII)I"⟩, 73), (⟨"CricketHayModel", "areTwo", "(II)Z"⟩, 73), (⟨"CricketHayModel", "priceOf", "(II)I"⟩, 73), (⟨"CricketHayModel", "chorusHere", "()I"⟩, 73), (⟨"CricketHayModel", "act", "()V"⟩, 73), (⟨"CricketHayModel", "isThere", "(I)Z"⟩, 73), (⟨"CricketHayModel", "goHour", "()V"⟩, 73), (⟨"CricketHayModel", "pass", "(Z)V"⟩, 73), (⟨"CricketHayModel", "eat", "(I)V"⟩, 73), (⟨"CricketHayModel", "exchange", "(I)V"⟩, 73), (⟨"CricketHayModel", "goFar", "(I)V"⟩, 73), (⟨"CricketHayModel", "edge", "(IIIZ)I"⟩, 73), (⟨"CricketHayModel", "laySellers", "(I)Z"⟩, 73)]
theorem lw_r6 : ∀ q ∈ lw_privs_6, lw_okq q := List.forall_mem_cons.mpr ⟨lw_p80, List.forall_mem_cons.mpr ⟨lw_p81, List.forall_mem_cons.mpr ⟨lw_p82, List.forall_mem_cons.mpr ⟨lw_p83, List.forall_mem_cons.mpr ⟨lw_p84, List.forall_mem_cons.mpr ⟨lw_p85, List.forall_mem_cons.mpr ⟨lw_p86, List.forall_mem_cons.mpr ⟨lw_p87, List.forall_mem_cons.mpr ⟨lw_p88, List.forall_mem_cons.mpr ⟨lw_p89, List.forall_mem_cons.mpr ⟨lw_p90, List.forall_mem_cons.mpr ⟨lw_p91, List.forall_mem_cons.mpr ⟨lw_p92, List.forall_mem_cons.mpr ⟨lw_p93, List.forall_mem_cons.mpr ⟨lw_p94, List.forall_mem_cons.mpr ⟨lw_p95, fun _ h => absurd h List.not_mem_nil⟩⟩⟩⟩⟩⟩⟩⟩⟩⟩⟩⟩⟩⟩⟩⟩
theorem lw_p96 : lw_okq (⟨"CricketHayModel", "canSell", "(II)Z"⟩, 73) := ⟨⟨by decide +kernel, by decide +kernel⟩, List.mem_of_getElem? (i := 1081) (by decide +kernel), List.mem_of_getElem? (i := 1638) (by decide +kernel), List.mem_of_getElem? (i := 1639) (by decide +kernel)⟩
theorem lw_p97 : lw_okq (⟨"CricketHayModel", "wants", "(I)Z"⟩, 73) := ⟨⟨by decide +kernel, by decide +kernel⟩, List.mem_of_getElem? (i := 1081) (by decide +kernel), List.mem_of_getElem? (i := 1642) (by decide +kernel), List.mem_of_getElem? (i := 1643) (by decide +kernel)⟩
theorem lw_p98 : lw_okq (⟨"CricketHayModel", "over", "(I)I"⟩, 73) := ⟨⟨by decide +kernel, by decide +kernel⟩, List.mem_of_getElem? (i := 1081) (by decide +kernel), List.mem_of_getElem? (i := 1646) (by decide +kernel), List.mem_of_getElem? (i := 1647) (by decide +kernel)⟩
theorem lw_p99 : lw_okq (⟨"CricketHayModel", "allPrices", "()I"⟩, 73) := ⟨⟨by decide +kernel, by decide +kernel⟩, List.mem_of_getElem? (i := 1081) (by decide +kernel), List.mem_of_getElem? (i := 1655) (by decide +kernel), List.mem_of_getElem? (i := 1656) (by decide +kernel)⟩
theorem lw_p100 : lw_okq (⟨"CricketHayModel", "isRest", "(IIIII)Z"⟩, 73) := ⟨⟨by decide +kernel, by decide +kernel⟩, List.mem_of_getElem? (i := 1081) (by decide +kernel), List.mem_of_getElem? (i := 1671) (by decide +kernel), List.mem_of_getElem? (i := 1672) (by decide +kernel)⟩
theorem lw_p101 : lw_okq (⟨"CricketHayModel", "payOf", "(IIIIIZ)I"⟩, 73) := ⟨⟨by decide +kernel, by decide +kernel⟩, List.mem_of_getElem? (i := 1081) (by decide +kernel), List.mem_of_getElem? (i := 1675) (by decide +kernel), List.mem_of_getElem? (i := 1676) (by decide +kernel)⟩
theorem lw_p102 : lw_okq (⟨"CricketHayModel", "canOdds", "(IIII)Z"⟩, 73) := ⟨⟨by decide +kernel, by decide +kernel⟩, List.mem_of_getElem? (i := 1081) (by decide +kernel), List.mem_of_getElem? (i := 1683) (by decide +kernel), List.mem_of_getElem? (i := 1684) (by decide +kernel)⟩
theorem lw_p103 : lw_okq (⟨"CricketHayModel", "shareOf", "(II)I"⟩, 73) := ⟨⟨by decide +kernel, by decide +kernel⟩, List.mem_of_getElem? (i := 1081) (by decide +kernel), List.mem_of_getElem? (i := 1687) (by decide +kernel), List.mem_of_getElem? (i := 1688) (by decide +kernel)⟩
theorem lw_p104 : lw_okq (⟨"CricketHayModel", "priceBy", "(III)I"⟩, 73) := ⟨⟨by decide +kernel, by decide +kernel⟩, List.mem_of_getElem? (i := 1081) (by decide +kernel), List.mem_of_getElem? (i := 1705) (by decide +kernel), List.mem_of_getElem? (i := 1706) (by decide +kernel)⟩
theorem lw_p105 : lw_okq (⟨"CricketHayModel", "layMatings", "()V"⟩, 73) := ⟨⟨by decide +kernel, by decide +kernel⟩, List.mem_of_getElem? (i := 1081) (by decide +kernel), List.mem_of_getElem? (i := 1713) (by decide +kernel), List.mem_of_getElem? (i := 1714) (by decide +kernel)⟩
theorem lw_p106 : lw_okq (⟨"CricketHayModel", "songsThere", "()I"⟩, 73) := ⟨⟨by decide +kernel, by decide +kernel⟩, List.mem_of_getElem? (i := 1081) (by decide +kernel), List.mem_of_getElem? (i := 1717) (by decide +kernel), List.mem_of_getElem? (i := 1718) (by decide +kernel)⟩
theorem lw_p107 : lw_okq (⟨"CricketHayModel", "goMatings", "(I)V"⟩, 73) := ⟨⟨by decide +kernel, by decide +kernel⟩, List.mem_of_getElem? (i := 1081) (by decide +kernel), List.mem_of_getElem? (i := 1721) (by decide +kernel), List.mem_of_getElem? (i := 1722) (by decide +kernel)⟩
theorem lw_p108 : lw_okq (⟨"CricketHayModel", "layFits", "(I)I"⟩, 73) := ⟨⟨by decide +kernel, by decide +kernel⟩, List.mem_of_getElem? (i := 1081) (by decide +kernel), List.mem_of_getElem? (i := 1753) (by decide +kernel), List.mem_of_getElem? (i := 1754) (by decide +kernel)⟩
theorem lw_p109 : lw_okq (⟨"CricketHayModel", "isFit", "(III)Z"⟩, 73) := ⟨⟨by decide +kernel, by decide +kernel⟩, List.mem_of_getElem? (i := 1081) (by decide +kernel), List.mem_of_getElem? (i := 1757) (by decide +kernel), List.mem_of_getElem? (i := 1758) (by decide +kernel)⟩
theorem lw_p110 : lw_okq (⟨"CricketHayModel", "loudAt", "(II)I"⟩, 73) := ⟨⟨by decide +kernel, by decide +kernel⟩, List.mem_of_getElem? (i := 1081) (by decide +kernel), List.mem_of_getElem? (i := 1769) (by decide +kernel), List.mem_of_getElem? (i := 1770) (by decide +kernel)⟩
def lw_privs_7 : List (MethodName × Nat) := [(⟨"CricketHayModel", "canSell", "(II)Z"⟩, 73), (⟨"CricketHayModel", "wants", "(I)Z"⟩, 73), (⟨"CricketHayModel", "over", "(I)I"⟩, 73), (⟨"CricketHayModel", "allPrices", "()I"⟩, 73), (⟨"CricketHayModel", "isRest", "(IIIII)Z"⟩, 73), (⟨"CricketHayModel", "payOf", "(IIIIIZ)I"⟩, 73), (⟨"CricketHayModel", "canOdds", "(IIII)Z"⟩, 73), (⟨"CricketHayModel", "shareOf", "(II)I"⟩, 73), (⟨"CricketHayModel", "priceBy", "(III)I"⟩, 73), (⟨"CricketHayModel", "layMatings", "()V"⟩, 73), (⟨"CricketHayModel", "songsThere", "()I"⟩, 73), (⟨"CricketHayModel", "goMatings", "(I)V"⟩, 73), (⟨"CricketHayModel", "layFits", "(I)I"⟩, 73), (⟨"CricketHayModel", "isFit", "(III)Z"⟩, 73), (⟨"CricketHayModel", "loudAt", "(II)I"⟩, 73)]
theorem lw_r7 : ∀ q ∈ lw_privs_7, lw_okq q := List.forall_mem_cons.mpr ⟨lw_p96, List.forall_mem_cons.mpr ⟨lw_p97, List.forall_mem_cons.mpr ⟨lw_p98, List.forall_mem_cons.mpr ⟨lw_p99, List.forall_mem_cons.mpr ⟨lw_p100, List.forall_mem_cons.mpr ⟨lw_p101, List.forall_mem_cons.mpr ⟨lw_p102, List.forall_mem_cons.mpr ⟨lw_p103, List.forall_mem_cons.mpr ⟨lw_p104, List.forall_mem_cons.mpr ⟨lw_p105, List.forall_mem_cons.mpr ⟨lw_p106, List.forall_mem_cons.mpr ⟨lw_p107, List.forall_mem_cons.mpr ⟨lw_p108, List.forall_mem_cons.mpr ⟨lw_p109, List.forall_mem_cons.mpr ⟨lw_p110, fun _ h => absurd h List.not_mem_nil⟩⟩⟩⟩⟩⟩⟩⟩⟩⟩⟩⟩⟩⟩⟩
def lw_privs : List (MethodName × Nat) := lw_privs_1 ++ (lw_privs_2 ++ (lw_privs_3 ++ (lw_privs_4 ++ (lw_privs_5 ++ (lw_privs_6 ++ (lw_privs_7))))))
def lw_tbl : List Cond := k2_sels lw_privs ++ tables_1
theorem lw_privs_ok : ∀ q ∈ lw_privs, lw_okq q := by
  show ∀ q ∈ lw_privs_1 ++ (lw_privs_2 ++ (lw_privs_3 ++ (lw_privs_4 ++ (lw_privs_5 ++ (lw_privs_6 ++ (lw_privs_7)))))), lw_okq q
  exact List.forall_mem_append.mpr ⟨lw_r1, List.forall_mem_append.mpr ⟨lw_r2, List.forall_mem_append.mpr ⟨lw_r3, List.forall_mem_append.mpr ⟨lw_r4, List.forall_mem_append.mpr ⟨lw_r5, List.forall_mem_append.mpr ⟨lw_r6, lw_r7⟩⟩⟩⟩⟩⟩

def F_0 : u_T := fun k => match k with
  | 0 => ("CricketHay$Acts", "yards", "[LCricketHay$Yard;", true)
  | 1 => ("CricketHay$Acts", "done", "I", false)
  | _ => ("CricketHay$Acts", "undone", "I", false)
def ty_0 : Nat → FieldType := fun k => match k with
  | 0 => .array (.object "CricketHay$Yard")
  | 1 => .int
  | _ => .int
theorem nm_0 : ∀ a, a < 3 → ∀ b, b < 3 → a ≠ b → (F_0 a).2.1 ≠ (F_0 b).2.1 := by decide +kernel
theorem ty_0_ok : ∀ k, k < 3 → parseFieldDescriptor (F_0 k).2.2.1 = some (ty_0 k) := by decide +kernel
def F_1 : u_T := fun k => match k with
  | 0 => ("CricketHay$Boxes", "yards", "[LCricketHay$Yard;", true)
  | _ => ("CricketHay$Boxes", "full", "[Z", true)
def ty_1 : Nat → FieldType := fun k => match k with
  | 0 => .array (.object "CricketHay$Yard")
  | _ => .array .boolean
theorem nm_1 : ∀ a, a < 2 → ∀ b, b < 2 → a ≠ b → (F_1 a).2.1 ≠ (F_1 b).2.1 := by decide +kernel
theorem ty_1_ok : ∀ k, k < 2 → parseFieldDescriptor (F_1 k).2.2.1 = some (ty_1 k) := by decide +kernel
def F_2 : u_T := fun k => match k with
  | 0 => ("CricketHay$Choir", "sings", "[I", true)
  | _ => ("CricketHay$Choir", "dealers", "I", false)
def ty_2 : Nat → FieldType := fun k => match k with
  | 0 => .array .int
  | _ => .int
theorem nm_2 : ∀ a, a < 2 → ∀ b, b < 2 → a ≠ b → (F_2 a).2.1 ≠ (F_2 b).2.1 := by decide +kernel
theorem ty_2_ok : ∀ k, k < 2 → parseFieldDescriptor (F_2 k).2.2.1 = some (ty_2 k) := by decide +kernel
def F_3 : u_T := fun k => match k with
  | 0 => ("CricketHay$Clearing", "over", "[I", true)
  | 1 => ("CricketHay$Clearing", "from", "[I", true)
  | 2 => ("CricketHay$Clearing", "best", "[I", true)
  | 3 => ("CricketHay$Clearing", "market", "LCricketHay$Market;", false)
  | 4 => ("CricketHay$Clearing", "yard", "LCricketHay$Yard;", false)
  | 5 => ("CricketHay$Clearing", "choir", "LCricketHay$Choir;", false)
  | 6 => ("CricketHay$Clearing", "mostSold", "I", false)
  | _ => ("CricketHay$Clearing", "leastPaid", "I", false)
def ty_3 : Nat → FieldType := fun k => match k with
  | 0 => .array .int
  | 1 => .array .int
  | 2 => .array .int
  | 3 => .object "CricketHay$Market"
  | 4 => .object "CricketHay$Yard"
  | 5 => .object "CricketHay$Choir"
  | 6 => .int
  | _ => .int
theorem nm_3 : ∀ a, a < 8 → ∀ b, b < 8 → a ≠ b → (F_3 a).2.1 ≠ (F_3 b).2.1 := by decide +kernel
theorem ty_3_ok : ∀ k, k < 8 → parseFieldDescriptor (F_3 k).2.2.1 = some (ty_3 k) := by decide +kernel
def F_4 : u_T := fun k => match k with
  | 0 => ("CricketHay$Ears", "heats", "[I", true)
  | 1 => ("CricketHay$Ears", "chirps", "[I", true)
  | 2 => ("CricketHay$Ears", "had", "[Z", true)
  | 3 => ("CricketHay$Ears", "told", "[I", true)
  | 4 => ("CricketHay$Ears", "untold", "[I", true)
  | 5 => ("CricketHay$Ears", "fitting", "[Z", true)
  | 6 => ("CricketHay$Ears", "sung", "[I", true)
  | 7 => ("CricketHay$Ears", "sungHour", "I", false)
  | 8 => ("CricketHay$Ears", "sungDay", "I", false)
  | 9 => ("CricketHay$Ears", "fits", "I", false)
  | 10 => ("CricketHay$Ears", "count", "I", false)
  | _ => ("CricketHay$Ears", "time", "I", false)
def ty_4 : Nat → FieldType := fun k => match k with
  | 0 => .array .int
  | 1 => .array .int
  | 2 => .array .boolean
  | 3 => .array .int
  | 4 => .array .int
  | 5 => .array .boolean
  | 6 => .array .int
  | 7 => .int
  | 8 => .int
  | 9 => .int
  | 10 => .int
  | _ => .int
theorem nm_4 : ∀ a, a < 12 → ∀ b, b < 12 → a ≠ b → (F_4 a).2.1 ≠ (F_4 b).2.1 := by decide +kernel
theorem ty_4_ok : ∀ k, k < 12 → parseFieldDescriptor (F_4 k).2.2.1 = some (ty_4 k) := by decide +kernel
def F_5 : u_T := fun k => match k with
  | 0 => ("CricketHay$Formula", "steps", "[I", true)
  | 1 => ("CricketHay$Formula", "numbers", "[I", true)
  | 2 => ("CricketHay$Formula", "stack", "[I", true)
  | 3 => ("CricketHay$Formula", "size", "I", false)
  | _ => ("CricketHay$Formula", "units", "I", false)
def ty_5 : Nat → FieldType := fun k => match k with
  | 0 => .array .int
  | 1 => .array .int
  | 2 => .array .int
  | 3 => .int
  | _ => .int
theorem nm_5 : ∀ a, a < 5 → ∀ b, b < 5 → a ≠ b → (F_5 a).2.1 ≠ (F_5 b).2.1 := by decide +kernel
theorem ty_5_ok : ∀ k, k < 5 → parseFieldDescriptor (F_5 k).2.2.1 = some (ty_5 k) := by decide +kernel
def F_6 : u_T := fun k => match k with
  | 0 => ("CricketHay$Lie", "values", "[I", true)
  | _ => ("CricketHay$Lie", "count", "I", false)
def ty_6 : Nat → FieldType := fun k => match k with
  | 0 => .array .int
  | _ => .int
theorem nm_6 : ∀ a, a < 2 → ∀ b, b < 2 → a ≠ b → (F_6 a).2.1 ≠ (F_6 b).2.1 := by decide +kernel
theorem ty_6_ok : ∀ k, k < 2 → parseFieldDescriptor (F_6 k).2.2.1 = some (ty_6 k) := by decide +kernel
def F_7 : u_T := fun k => match k with
  | 0 => ("CricketHay$Market", "kindNames", "[J", true)
  | 1 => ("CricketHay$Market", "names", "[J", true)
  | 2 => ("CricketHay$Market", "kind", "[I", true)
  | 3 => ("CricketHay$Market", "song", "[I", true)
  | 4 => ("CricketHay$Market", "age", "[I", true)
  | 5 => ("CricketHay$Market", "gold", "[I", true)
  | 6 => ("CricketHay$Market", "loads", "[I", true)
  | 7 => ("CricketHay$Market", "needs", "[I", true)
  | 8 => ("CricketHay$Market", "chirps", "LCricketHay$Formula;", true)
  | 9 => ("CricketHay$Market", "heat", "LCricketHay$Formula;", true)
  | 10 => ("CricketHay$Market", "kinds", "I", false)
  | 11 => ("CricketHay$Market", "dealers", "I", false)
  | 12 => ("CricketHay$Market", "chance", "I", false)
  | 13 => ("CricketHay$Market", "snap", "I", false)
  | 14 => ("CricketHay$Market", "cart", "I", false)
  | _ => ("CricketHay$Market", "draw", "I", false)
def ty_7 : Nat → FieldType := fun k => match k with
  | 0 => .array .long
  | 1 => .array .long
  | 2 => .array .int
  | 3 => .array .int
  | 4 => .array .int
  | 5 => .array .int
  | 6 => .array .int
  | 7 => .array .int
  | 8 => .object "CricketHay$Formula"
  | 9 => .object "CricketHay$Formula"
  | 10 => .int
  | 11 => .int
  | 12 => .int
  | 13 => .int
  | 14 => .int
  | _ => .int
theorem nm_7 : ∀ a, a < 16 → ∀ b, b < 16 → a ≠ b → (F_7 a).2.1 ≠ (F_7 b).2.1 := by decide +kernel
theorem ty_7_ok : ∀ k, k < 16 → parseFieldDescriptor (F_7 k).2.2.1 = some (ty_7 k) := by decide +kernel
def F_8 : u_T := fun k => match k with
  | 0 => ("CricketHay$Mating", "reached", "[I", true)
  | _ => ("CricketHay$Mating", "first", "I", false)
def ty_8 : Nat → FieldType := fun k => match k with
  | 0 => .array .int
  | _ => .int
theorem nm_8 : ∀ a, a < 2 → ∀ b, b < 2 → a ≠ b → (F_8 a).2.1 ≠ (F_8 b).2.1 := by decide +kernel
theorem ty_8_ok : ∀ k, k < 2 → parseFieldDescriptor (F_8 k).2.2.1 = some (ty_8 k) := by decide +kernel
def F_9 : u_T := fun k => match k with
  | 0 => ("CricketHay$Reader", "bytes", "[I", true)
  | 1 => ("CricketHay$Reader", "market", "LCricketHay$Market;", false)
  | 2 => ("CricketHay$Reader", "formula", "LCricketHay$Formula;", false)
  | 3 => ("CricketHay$Reader", "at", "I", false)
  | 4 => ("CricketHay$Reader", "token", "I", false)
  | 5 => ("CricketHay$Reader", "place", "I", false)
  | 6 => ("CricketHay$Reader", "number", "I", false)
  | 7 => ("CricketHay$Reader", "name", "J", false)
  | 8 => ("CricketHay$Reader", "seen", "I", false)
  | 9 => ("CricketHay$Reader", "length", "I", false)
  | 10 => ("CricketHay$Reader", "fault", "I", false)
  | _ => ("CricketHay$Reader", "faultPlace", "I", false)
def ty_9 : Nat → FieldType := fun k => match k with
  | 0 => .array .int
  | 1 => .object "CricketHay$Market"
  | 2 => .object "CricketHay$Formula"
  | 3 => .int
  | 4 => .int
  | 5 => .int
  | 6 => .int
  | 7 => .long
  | 8 => .int
  | 9 => .int
  | 10 => .int
  | _ => .int
theorem nm_9 : ∀ a, a < 12 → ∀ b, b < 12 → a ≠ b → (F_9 a).2.1 ≠ (F_9 b).2.1 := by decide +kernel
theorem ty_9_ok : ∀ k, k < 12 → parseFieldDescriptor (F_9 k).2.2.1 = some (ty_9 k) := by decide +kernel
def F_10 : u_T := fun k => match k with
  | 0 => ("CricketHay$Yard", "gold", "[I", true)
  | 1 => ("CricketHay$Yard", "loads", "[I", true)
  | 2 => ("CricketHay$Yard", "hunger", "[I", true)
  | 3 => ("CricketHay$Yard", "age", "[I", true)
  | 4 => ("CricketHay$Yard", "breath", "[I", true)
  | 5 => ("CricketHay$Yard", "freed", "[I", true)
  | 6 => ("CricketHay$Yard", "cold", "I", false)
  | 7 => ("CricketHay$Yard", "hour", "I", false)
  | 8 => ("CricketHay$Yard", "day", "I", false)
  | _ => ("CricketHay$Yard", "seed", "I", false)
def ty_10 : Nat → FieldType := fun k => match k with
  | 0 => .array .int
  | 1 => .array .int
  | 2 => .array .int
  | 3 => .array .int
  | 4 => .array .int
  | 5 => .array .int
  | 6 => .int
  | 7 => .int
  | 8 => .int
  | _ => .int
theorem nm_10 : ∀ a, a < 10 → ∀ b, b < 10 → a ≠ b → (F_10 a).2.1 ≠ (F_10 b).2.1 := by decide +kernel
theorem ty_10_ok : ∀ k, k < 10 → parseFieldDescriptor (F_10 k).2.2.1 = some (ty_10 k) := by decide +kernel
def F_11 : u_T := fun k => match k with
  | 0 => ("CricketHay", "reader", "LCricketHay$Reader;", true)
  | 1 => ("CricketHay", "told", "LCricketHay$Market;", false)
  | 2 => ("CricketHay", "draft", "LCricketHay$Market;", false)
  | 3 => ("CricketHay", "now", "LCricketHay$Yard;", true)
  | 4 => ("CricketHay", "ahead", "LCricketHay$Yard;", true)
  | 5 => ("CricketHay", "choir", "LCricketHay$Choir;", true)
  | 6 => ("CricketHay", "acts", "LCricketHay$Acts;", true)
  | 7 => ("CricketHay", "boxes", "LCricketHay$Boxes;", true)
  | 8 => ("CricketHay", "ears", "LCricketHay$Ears;", true)
  | 9 => ("CricketHay", "mating", "LCricketHay$Mating;", true)
  | 10 => ("CricketHay", "clearing", "LCricketHay$Clearing;", true)
  | 11 => ("CricketHay", "lie", "LCricketHay$Lie;", true)
  | _ => ("CricketHay", "row", "[I", true)
def ty_11 : Nat → FieldType := fun k => match k with
  | 0 => .object "CricketHay$Reader"
  | 1 => .object "CricketHay$Market"
  | 2 => .object "CricketHay$Market"
  | 3 => .object "CricketHay$Yard"
  | 4 => .object "CricketHay$Yard"
  | 5 => .object "CricketHay$Choir"
  | 6 => .object "CricketHay$Acts"
  | 7 => .object "CricketHay$Boxes"
  | 8 => .object "CricketHay$Ears"
  | 9 => .object "CricketHay$Mating"
  | 10 => .object "CricketHay$Clearing"
  | 11 => .object "CricketHay$Lie"
  | _ => .array .int
theorem nm_11 : ∀ a, a < 13 → ∀ b, b < 13 → a ≠ b → (F_11 a).2.1 ≠ (F_11 b).2.1 := by decide +kernel
theorem ty_11_ok : ∀ k, k < 13 → parseFieldDescriptor (F_11 k).2.2.1 = some (ty_11 k) := by decide +kernel
def F_12 : u_T := fun k => match k with
  | 0 => ("CricketHayModel", "tape", "[I", true)
  | 1 => ("CricketHayModel", "taped", "I", false)
  | 2 => ("CricketHayModel", "fault", "I", false)
  | 3 => ("CricketHayModel", "faultPlace", "I", false)
  | 4 => ("CricketHayModel", "at", "I", false)
  | 5 => ("CricketHayModel", "size", "I", false)
  | 6 => ("CricketHayModel", "sort", "I", false)
  | 7 => ("CricketHayModel", "place", "I", false)
  | 8 => ("CricketHayModel", "number", "I", false)
  | 9 => ("CricketHayModel", "word", "J", false)
  | 10 => ("CricketHayModel", "nName", "[J", true)
  | 11 => ("CricketHayModel", "nStep", "[I", true)
  | 12 => ("CricketHayModel", "nArg", "[I", true)
  | 13 => ("CricketHayModel", "nMany", "[I", true)
  | 14 => ("CricketHayModel", "step", "[I", true)
  | 15 => ("CricketHayModel", "arg", "[I", true)
  | 16 => ("CricketHayModel", "steps", "[I", true)
  | 17 => ("CricketHayModel", "open", "[I", true)
  | 18 => ("CricketHayModel", "values", "[I", true)
  | 19 => ("CricketHayModel", "nHasForm", "[Z", true)
  | 20 => ("CricketHayModel", "form", "I", false)
  | 21 => ("CricketHayModel", "opens", "I", false)
  | 22 => ("CricketHayModel", "nUnits", "I", false)
  | 23 => ("CricketHayModel", "units", "I", false)
  | 24 => ("CricketHayModel", "ownUnits", "I", false)
  | 25 => ("CricketHayModel", "deep", "I", false)
  | 26 => ("CricketHayModel", "asks", "[I", true)
  | 27 => ("CricketHayModel", "nKindOf", "[I", true)
  | 28 => ("CricketHayModel", "nSong", "[I", true)
  | 29 => ("CricketHayModel", "nAge", "[I", true)
  | 30 => ("CricketHayModel", "nGold", "[I", true)
  | 31 => ("CricketHayModel", "nLoads", "[I", true)
  | 32 => ("CricketHayModel", "nNeeds", "[I", true)
  | 33 => ("CricketHayModel", "kindOf", "[I", true)
  | 34 => ("CricketHayModel", "songOf", "[I", true)
  | 35 => ("CricketHayModel", "needs", "[I", true)
  | 36 => ("CricketHayModel", "nKinds", "I", false)
  | 37 => ("CricketHayModel", "nDealers", "I", false)
  | 38 => ("CricketHayModel", "nSnap", "I", false)
  | 39 => ("CricketHayModel", "nSnapOf", "I", false)
  | 40 => ("CricketHayModel", "nCart", "I", false)
  | 41 => ("CricketHayModel", "nDraw", "I", false)
  | 42 => ("CricketHayModel", "kinds", "I", false)
  | 43 => ("CricketHayModel", "dealers", "I", false)
  | 44 => ("CricketHayModel", "snap", "I", false)
  | 45 => ("CricketHayModel", "snapOf", "I", false)
  | 46 => ("CricketHayModel", "cart", "I", false)
  | 47 => ("CricketHayModel", "nHasSnap", "Z", false)
  | 48 => ("CricketHayModel", "nHasCart", "Z", false)
  | 49 => ("CricketHayModel", "nHasDraw", "Z", false)
  | 50 => ("CricketHayModel", "now", "[I", true)
  | 51 => ("CricketHayModel", "air", "[I", true)
  | 52 => ("CricketHayModel", "were", "[I", true)
  | 53 => ("CricketHayModel", "acts", "I", false)
  | 54 => ("CricketHayModel", "undone", "I", false)
  | 55 => ("CricketHayModel", "prices", "[I", true)
  | 56 => ("CricketHayModel", "lies", "[I", true)
  | 57 => ("CricketHayModel", "lain", "I", false)
  | 58 => ("CricketHayModel", "seller", "[I", true)
  | 59 => ("CricketHayModel", "sold", "[I", true)
  | 60 => ("CricketHayModel", "soldMany", "I", false)
  | 61 => ("CricketHayModel", "soldPaid", "I", false)
  | 62 => ("CricketHayModel", "depth", "[I", true)
  | 63 => ("CricketHayModel", "heardHeat", "[I", true)
  | 64 => ("CricketHayModel", "heardChirps", "[I", true)
  | 65 => ("CricketHayModel", "heardTold", "[I", true)
  | 66 => ("CricketHayModel", "heardUntold", "[I", true)
  | 67 => ("CricketHayModel", "heardIs", "[Z", true)
  | 68 => ("CricketHayModel", "heards", "I", false)
  | 69 => ("CricketHayModel", "time", "I", false)
  | 70 => ("CricketHayModel", "fit", "[Z", true)
  | 71 => ("CricketHayModel", "hasBox", "[Z", true)
  | _ => ("CricketHayModel", "boxes", "[I", true)
def ty_12 : Nat → FieldType := fun k => match k with
  | 0 => .array .int
  | 1 => .int
  | 2 => .int
  | 3 => .int
  | 4 => .int
  | 5 => .int
  | 6 => .int
  | 7 => .int
  | 8 => .int
  | 9 => .long
  | 10 => .array .long
  | 11 => .array .int
  | 12 => .array .int
  | 13 => .array .int
  | 14 => .array .int
  | 15 => .array .int
  | 16 => .array .int
  | 17 => .array .int
  | 18 => .array .int
  | 19 => .array .boolean
  | 20 => .int
  | 21 => .int
  | 22 => .int
  | 23 => .int
  | 24 => .int
  | 25 => .int
  | 26 => .array .int
  | 27 => .array .int
  | 28 => .array .int
  | 29 => .array .int
  | 30 => .array .int
  | 31 => .array .int
  | 32 => .array .int
  | 33 => .array .int
  | 34 => .array .int
  | 35 => .array .int
  | 36 => .int
  | 37 => .int
  | 38 => .int
  | 39 => .int
  | 40 => .int
  | 41 => .int
  | 42 => .int
  | 43 => .int
  | 44 => .int
  | 45 => .int
  | 46 => .int
  | 47 => .boolean
  | 48 => .boolean
  | 49 => .boolean
  | 50 => .array .int
  | 51 => .array .int
  | 52 => .array .int
  | 53 => .int
  | 54 => .int
  | 55 => .array .int
  | 56 => .array .int
  | 57 => .int
  | 58 => .array .int
  | 59 => .array .int
  | 60 => .int
  | 61 => .int
  | 62 => .array .int
  | 63 => .array .int
  | 64 => .array .int
  | 65 => .array .int
  | 66 => .array .int
  | 67 => .array .boolean
  | 68 => .int
  | 69 => .int
  | 70 => .array .boolean
  | 71 => .array .boolean
  | _ => .array .int
theorem nm_12 : ∀ a, a < 73 → ∀ b, b < 73 → a ≠ b → (F_12 a).2.1 ≠ (F_12 b).2.1 := by decide +kernel
theorem ty_12_ok : ∀ k, k < 73 → parseFieldDescriptor (F_12 k).2.2.1 = some (ty_12 k) := by decide +kernel
abbrev classes : List vw_C := [("CricketHay$Acts", F_0, 3), ("CricketHay$Boxes", F_1, 2), ("CricketHay$Choir", F_2, 2), ("CricketHay$Clearing", F_3, 8), ("CricketHay$Ears", F_4, 12), ("CricketHay$Formula", F_5, 5), ("CricketHay$Lie", F_6, 2), ("CricketHay$Market", F_7, 16), ("CricketHay$Mating", F_8, 2), ("CricketHay$Reader", F_9, 12), ("CricketHay$Yard", F_10, 10), ("CricketHay", F_11, 13), ("CricketHayModel", F_12, 73)]
def tyF (ci : Nat) : Nat → FieldType := match ci with
  | 0 => ty_0
  | 1 => ty_1
  | 2 => ty_2
  | 3 => ty_3
  | 4 => ty_4
  | 5 => ty_5
  | 6 => ty_6
  | 7 => ty_7
  | 8 => ty_8
  | 9 => ty_9
  | 10 => ty_10
  | 11 => ty_11
  | _ => ty_12
/-- the words that any later state of the machine keeps -/
def lw_good : List Cond := lw_tbl.filter goodWord
theorem lw_good_in : GoodIn lw_tbl lw_good := fun w h => ⟨(List.mem_filter.mp h).1, good_of_word (List.mem_filter.mp h).2⟩
theorem q_t {w : Cond} (i : Nat) (h : tables_1[i]? = some w) (g : goodWord w = true) : w ∈ lw_good := List.mem_filter.mpr ⟨List.mem_append_right _ (List.mem_of_getElem? h), g⟩
theorem q_s {w : Cond} (i : Nat) (h : (k2_sels lw_privs)[i]? = some w) (g : goodWord w = true) : w ∈ lw_good := List.mem_filter.mpr ⟨List.mem_append_left _ (List.mem_of_getElem? h), g⟩
theorem ip_0 : (u_ws "CricketHay$Acts" F_0 3).map some = [288, 290, 292].map (fun i => tables_1[i]?) := by decide +kernel
theorem ig_0 : (u_ws "CricketHay$Acts" F_0 3).all goodWord = true := by decide +kernel
theorem ip_1 : (u_ws "CricketHay$Boxes" F_1 2).map some = [305, 307].map (fun i => tables_1[i]?) := by decide +kernel
theorem ig_1 : (u_ws "CricketHay$Boxes" F_1 2).all goodWord = true := by decide +kernel
theorem ip_2 : (u_ws "CricketHay$Choir" F_2 2).map some = [269, 271].map (fun i => tables_1[i]?) := by decide +kernel
theorem ig_2 : (u_ws "CricketHay$Choir" F_2 2).all goodWord = true := by decide +kernel
theorem ip_3 : (u_ws "CricketHay$Clearing" F_3 8).map some = [386, 388, 390, 392, 394, 396, 398, 400].map (fun i => tables_1[i]?) := by decide +kernel
theorem ig_3 : (u_ws "CricketHay$Clearing" F_3 8).all goodWord = true := by decide +kernel
theorem ip_4 : (u_ws "CricketHay$Ears" F_4 12).map some = [331, 333, 335, 337, 339, 341, 343, 345, 347, 349, 351, 353].map (fun i => tables_1[i]?) := by decide +kernel
theorem ig_4 : (u_ws "CricketHay$Ears" F_4 12).all goodWord = true := by decide +kernel
theorem ip_5 : (u_ws "CricketHay$Formula" F_5 5).map some = [96, 98, 100, 102, 104].map (fun i => tables_1[i]?) := by decide +kernel
theorem ig_5 : (u_ws "CricketHay$Formula" F_5 5).all goodWord = true := by decide +kernel
theorem ip_6 : (u_ws "CricketHay$Lie" F_6 2).map some = [413, 415].map (fun i => tables_1[i]?) := by decide +kernel
theorem ig_6 : (u_ws "CricketHay$Lie" F_6 2).all goodWord = true := by decide +kernel
theorem ip_7 : (u_ws "CricketHay$Market" F_7 16).map some = [171, 173, 175, 177, 179, 181, 183, 185, 187, 189, 191, 193, 195, 197, 199, 201].map (fun i => tables_1[i]?) := by decide +kernel
theorem ig_7 : (u_ws "CricketHay$Market" F_7 16).all goodWord = true := by decide +kernel
theorem ip_8 : (u_ws "CricketHay$Mating" F_8 2).map some = [364, 366].map (fun i => tables_1[i]?) := by decide +kernel
theorem ig_8 : (u_ws "CricketHay$Mating" F_8 2).all goodWord = true := by decide +kernel
theorem ip_9 : (u_ws "CricketHay$Reader" F_9 12).map some = [51, 53, 55, 57, 59, 61, 63, 65, 67, 69, 71, 73].map (fun i => tables_1[i]?) := by decide +kernel
theorem ig_9 : (u_ws "CricketHay$Reader" F_9 12).all goodWord = true := by decide +kernel
theorem ip_10 : (u_ws "CricketHay$Yard" F_10 10).map some = [239, 241, 243, 245, 247, 249, 251, 253, 255, 257].map (fun i => tables_1[i]?) := by decide +kernel
theorem ig_10 : (u_ws "CricketHay$Yard" F_10 10).all goodWord = true := by decide +kernel
theorem ip_11 : (u_ws "CricketHay" F_11 13).map some = [435, 437, 439, 441, 443, 445, 447, 449, 451, 453, 455, 457, 459].map (fun i => tables_1[i]?) := by decide +kernel
theorem ig_11 : (u_ws "CricketHay" F_11 13).all goodWord = true := by decide +kernel
theorem ip_12 : (u_ws "CricketHayModel" F_12 73).map some = [1159, 1161, 1163, 1165, 1167, 1169, 1171, 1173, 1175, 1177, 1179, 1181, 1183, 1185, 1187, 1189, 1191, 1193, 1195, 1197, 1199, 1201, 1203, 1205, 1207, 1209, 1211, 1213, 1215, 1217, 1219, 1221, 1223, 1225, 1227, 1229, 1231, 1233, 1235, 1237, 1239, 1241, 1243, 1245, 1247, 1249, 1251, 1253, 1255, 1257, 1259, 1261, 1263, 1265, 1267, 1269, 1271, 1273, 1275, 1277, 1279, 1281, 1283, 1285, 1287, 1289, 1291, 1293, 1295, 1297, 1299, 1301, 1303].map (fun i => tables_1[i]?) := by decide +kernel
theorem ig_12 : (u_ws "CricketHayModel" F_12 73).all goodWord = true := by decide +kernel
theorem in_of {ws : List Cond} (ps : List Nat) (hp : ws.map some = ps.map (fun i => tables_1[i]?)) (hg : ws.all goodWord = true) : ∀ w ∈ ws, w ∈ lw_good := by
  intro w hw
  have h1 : some w ∈ ws.map some := List.mem_map.mpr ⟨w, hw, rfl⟩
  rw [hp] at h1
  obtain ⟨i, -, hi⟩ := List.mem_map.mp h1
  exact q_t i hi (List.all_eq_true.mp hg w hw)
theorem in_0 : ∀ w ∈ u_ws "CricketHay$Acts" F_0 3, w ∈ lw_good := in_of _ ip_0 ig_0
theorem in_1 : ∀ w ∈ u_ws "CricketHay$Boxes" F_1 2, w ∈ lw_good := in_of _ ip_1 ig_1
theorem in_2 : ∀ w ∈ u_ws "CricketHay$Choir" F_2 2, w ∈ lw_good := in_of _ ip_2 ig_2
theorem in_3 : ∀ w ∈ u_ws "CricketHay$Clearing" F_3 8, w ∈ lw_good := in_of _ ip_3 ig_3
theorem in_4 : ∀ w ∈ u_ws "CricketHay$Ears" F_4 12, w ∈ lw_good := in_of _ ip_4 ig_4
theorem in_5 : ∀ w ∈ u_ws "CricketHay$Formula" F_5 5, w ∈ lw_good := in_of _ ip_5 ig_5
theorem in_6 : ∀ w ∈ u_ws "CricketHay$Lie" F_6 2, w ∈ lw_good := in_of _ ip_6 ig_6
theorem in_7 : ∀ w ∈ u_ws "CricketHay$Market" F_7 16, w ∈ lw_good := in_of _ ip_7 ig_7
theorem in_8 : ∀ w ∈ u_ws "CricketHay$Mating" F_8 2, w ∈ lw_good := in_of _ ip_8 ig_8
theorem in_9 : ∀ w ∈ u_ws "CricketHay$Reader" F_9 12, w ∈ lw_good := in_of _ ip_9 ig_9
theorem in_10 : ∀ w ∈ u_ws "CricketHay$Yard" F_10 10, w ∈ lw_good := in_of _ ip_10 ig_10
theorem in_11 : ∀ w ∈ u_ws "CricketHay" F_11 13, w ∈ lw_good := in_of _ ip_11 ig_11
theorem in_12 : ∀ w ∈ u_ws "CricketHayModel" F_12 73, w ∈ lw_good := in_of _ ip_12 ig_12
/-- a class by its number: its table, its words -/
theorem cls_all {P : Nat → vw_C → Prop} (h0 : P 0 ("CricketHay$Acts", F_0, 3)) (h1 : P 1 ("CricketHay$Boxes", F_1, 2)) (h2 : P 2 ("CricketHay$Choir", F_2, 2)) (h3 : P 3 ("CricketHay$Clearing", F_3, 8)) (h4 : P 4 ("CricketHay$Ears", F_4, 12)) (h5 : P 5 ("CricketHay$Formula", F_5, 5)) (h6 : P 6 ("CricketHay$Lie", F_6, 2)) (h7 : P 7 ("CricketHay$Market", F_7, 16)) (h8 : P 8 ("CricketHay$Mating", F_8, 2)) (h9 : P 9 ("CricketHay$Reader", F_9, 12)) (h10 : P 10 ("CricketHay$Yard", F_10, 10)) (h11 : P 11 ("CricketHay", F_11, 13)) (h12 : P 12 ("CricketHayModel", F_12, 73)) : ∀ (ci : Nat) (r : vw_C), classes[ci]? = some r → P ci r := by
  intro ci r h
  match ci, h with
  | 0, h => cases h; exact h0
  | 1, h => cases h; exact h1
  | 2, h => cases h; exact h2
  | 3, h => cases h; exact h3
  | 4, h => cases h; exact h4
  | 5, h => cases h; exact h5
  | 6, h => cases h; exact h6
  | 7, h => cases h; exact h7
  | 8, h => cases h; exact h8
  | 9, h => cases h; exact h9
  | 10, h => cases h; exact h10
  | 11, h => cases h; exact h11
  | 12, h => cases h; exact h12
  | n + 13, h => simp [classes] at h
theorem cls_in : ∀ (ci : Nat) (r : vw_C), classes[ci]? = some r → ∀ w ∈ u_ws r.1 r.2.1 r.2.2, w ∈ lw_good := cls_all (P := fun _ r => ∀ w ∈ u_ws r.1 r.2.1 r.2.2, w ∈ lw_good) in_0 in_1 in_2 in_3 in_4 in_5 in_6 in_7 in_8 in_9 in_10 in_11 in_12
theorem cls_nm : ∀ (ci : Nat) (r : vw_C), classes[ci]? = some r → ∀ a, a < r.2.2 → ∀ b, b < r.2.2 → a ≠ b → (r.2.1 a).2.1 ≠ (r.2.1 b).2.1 := cls_all (P := fun _ r => ∀ a, a < r.2.2 → ∀ b, b < r.2.2 → a ≠ b → (r.2.1 a).2.1 ≠ (r.2.1 b).2.1) nm_0 nm_1 nm_2 nm_3 nm_4 nm_5 nm_6 nm_7 nm_8 nm_9 nm_10 nm_11 nm_12
theorem cls_ty : ∀ (ci : Nat) (r : vw_C), classes[ci]? = some r → ∀ k, k < r.2.2 → parseFieldDescriptor (r.2.1 k).2.2.1 = some (tyF ci k) := cls_all (P := fun ci r => ∀ k, k < r.2.2 → parseFieldDescriptor (r.2.1 k).2.2.1 = some (tyF ci k)) ty_0_ok ty_1_ok ty_2_ok ty_3_ok ty_4_ok ty_5_ok ty_6_ok ty_7_ok ty_8_ok ty_9_ok ty_10_ok ty_11_ok ty_12_ok
