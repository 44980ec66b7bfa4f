def R_law : String := "CricketHayLaw"
def lw_P (b : Addr) (xs : List Int32) (args : Array Value) (s : State) : Prop := args = #[.ref b] ∧ s.IntsAt b xs ∧ xs.length ≤ 3072 ∧ (Jvm.Cond.and given_1 narrow_1).before args s = true
def lw_Q (_ : Array Value) (s : State) (o : Outcome) (t : State) : Prop := o = .returned (some (.int 1)) ∧ Framed s o t [] 600000 7302250
def lw_Z (below : List Frame) (a : Array Value) (s : State) : State → Prop := fun t => ∃ o, t.status = .running ∧ Ended t below o ∧ lw_Q a s o t
/-- the law's own end, with 1 on the stack, nothing written that was there before, its room as the claim has it -/
theorem lw_ret {p : Program} {l : Launch} {e : Env} {s : State} {m : MethodId} {below : List Frame} {meth : Method} {c : Code} {b : Nat} (hx : p.tables.exec = Jvm.exec) (hb : c.code = code) (hr : meth.sig.returnType = ret) (hlocks : meth.locks = false) {pc : Nat} {H : Heap} {ls : Array Slot} (hdg : decode code pc = .ok (.ireturn, 1)) : W p l e room_1 s m #[Value.ref b] below meth c H [] 600000 7302250 (lw_Z below #[Value.ref b] s) (F0 m pc ls [.int 1]) := by
  intro T hT X
  obtain ⟨fs, hret, hrun, hended, hW, hframe⟩ := X.leave (v := some (.int 1)) (hlocks := hlocks) (fun h => by rw [hr] at h; cases h)
  have hmeth' : T.vm.method? m = some meth := X.method'
  refine ⟨T.setFrames fs, ?_, .returned (some (.int 1)), hrun, hended, rfl, ⟨_, rfl⟩, hW, hframe⟩
  jvm_step X.here [X.here.top, hx, hb, hdg, hmeth', hr, ret, narrow_b1]
  (try refine ⟨rfl, ?_⟩); (try refine ⟨rfl, ?_⟩)
  first | (intro acts; rw [hret _ acts rfl rfl rfl]) | rw [hret _ _ rfl rfl rfl]
  exact Steps.refl _
/-- what holds at the law's entry: the machine, the code, the tables' words (any of lw_tbl by 'hts w (by decide +kernel)'), the script of L ints xs at the cell b, what the Statement gives of the start (any of its parts by flat_of_before) -/
def lw_At (p : Program) (s : State) (m : MethodId) (meth : Method) (c : Code) (b L : Nat) (xs : Nat → Int32) : Prop :=
  p.tables.exec = Jvm.exec ∧ c.code = code ∧ meth.sig.returnType = ret ∧ c.maxLocals = 4 ∧ s.vm.findClass R_law = some m.cls ∧ (∀ w ∈ lw_tbl, w.before #[Value.ref b] s = true) ∧ va_X b L xs s s.heap ∧ b < s.heap.size ∧ meth.locks = false ∧ (Jvm.Cond.and given_1 narrow_1).before #[Value.ref b] s = true ∧ meth.name = "law"
theorem w_22 : Cond.classLink "CricketHayLaw" 7 "CricketHay" ∈ lw_good := q_t 22 (by decide +kernel) rfl
theorem w_23 : Cond.instantiable "CricketHay" 13 ∈ lw_good := q_t 23 (by decide +kernel) rfl
theorem w_24 : Cond.methodLink "CricketHayLaw" 9 ⟨"CricketHay", "<init>", "()V"⟩ ∈ lw_good := q_t 24 (by decide +kernel) rfl
theorem w_25 : Cond.instanceMethod ⟨"CricketHay", "<init>", "()V"⟩ ∈ lw_good := q_t 25 (by decide +kernel) rfl
theorem w_26 : Cond.code ⟨"CricketHay", "<init>", "()V"⟩ prog_1_method_1_code 1 none ∈ lw_good := q_t 26 (by decide +kernel) rfl
theorem w_462 : Cond.methodLink "CricketHayLaw" 13 ⟨"CricketHay", "feed", "(IIIII)I"⟩ ∈ lw_good := q_t 462 (by decide +kernel) rfl
theorem w_463 : Cond.instanceMethod ⟨"CricketHay", "feed", "(IIIII)I"⟩ ∈ lw_good := q_t 463 (by decide +kernel) rfl
theorem w_464 : Cond.selects "CricketHay" ⟨"CricketHay", "feed", "(IIIII)I"⟩ ⟨"CricketHay", "feed", "(IIIII)I"⟩ ∈ lw_good := q_t 464 (by decide +kernel) rfl
theorem w_465 : Cond.code ⟨"CricketHay", "feed", "(IIIII)I"⟩ prog_1_method_2_code 6 (some .int) ∈ lw_good := q_t 465 (by decide +kernel) rfl
theorem w_470 : Cond.methodLink "CricketHayLaw" 18 ⟨"CricketHay", "end", "(I)I"⟩ ∈ lw_good := q_t 470 (by decide +kernel) rfl
theorem w_471 : Cond.instanceMethod ⟨"CricketHay", "end", "(I)I"⟩ ∈ lw_good := q_t 471 (by decide +kernel) rfl
theorem w_472 : Cond.selects "CricketHay" ⟨"CricketHay", "end", "(I)I"⟩ ⟨"CricketHay", "end", "(I)I"⟩ ∈ lw_good := q_t 472 (by decide +kernel) rfl
theorem w_473 : Cond.code ⟨"CricketHay", "end", "(I)I"⟩ prog_1_method_3_code 2 (some .int) ∈ lw_good := q_t 473 (by decide +kernel) rfl
theorem w_474 : Cond.methodLink "CricketHayLaw" 23 ⟨"CricketHay", "market", "()I"⟩ ∈ lw_good := q_t 474 (by decide +kernel) rfl
theorem w_475 : Cond.instanceMethod ⟨"CricketHay", "market", "()I"⟩ ∈ lw_good := q_t 475 (by decide +kernel) rfl
theorem w_476 : Cond.selects "CricketHay" ⟨"CricketHay", "market", "()I"⟩ ⟨"CricketHay", "market", "()I"⟩ ∈ lw_good := q_t 476 (by decide +kernel) rfl
theorem w_477 : Cond.code ⟨"CricketHay", "market", "()I"⟩ prog_1_method_4_code 3 (some .int) ∈ lw_good := q_t 477 (by decide +kernel) rfl
theorem w_653 : Cond.methodLink "CricketHayLaw" 28 ⟨"CricketHay", "fault", "(I)I"⟩ ∈ lw_good := q_t 653 (by decide +kernel) rfl
theorem w_654 : Cond.instanceMethod ⟨"CricketHay", "fault", "(I)I"⟩ ∈ lw_good := q_t 654 (by decide +kernel) rfl
theorem w_655 : Cond.selects "CricketHay" ⟨"CricketHay", "fault", "(I)I"⟩ ⟨"CricketHay", "fault", "(I)I"⟩ ∈ lw_good := q_t 655 (by decide +kernel) rfl
theorem w_656 : Cond.code ⟨"CricketHay", "fault", "(I)I"⟩ prog_1_method_5_code 2 (some .int) ∈ lw_good := q_t 656 (by decide +kernel) rfl
theorem w_657 : Cond.methodLink "CricketHayLaw" 32 ⟨"CricketHay", "dealer", "(II)I"⟩ ∈ lw_good := q_t 657 (by decide +kernel) rfl
theorem w_658 : Cond.instanceMethod ⟨"CricketHay", "dealer", "(II)I"⟩ ∈ lw_good := q_t 658 (by decide +kernel) rfl
theorem w_659 : Cond.selects "CricketHay" ⟨"CricketHay", "dealer", "(II)I"⟩ ⟨"CricketHay", "dealer", "(II)I"⟩ ∈ lw_good := q_t 659 (by decide +kernel) rfl
theorem w_660 : Cond.code ⟨"CricketHay", "dealer", "(II)I"⟩ prog_1_method_6_code 3 (some .int) ∈ lw_good := q_t 660 (by decide +kernel) rfl
theorem w_710 : Cond.methodLink "CricketHayLaw" 37 ⟨"CricketHay", "heat", "()I"⟩ ∈ lw_good := q_t 710 (by decide +kernel) rfl
theorem w_711 : Cond.instanceMethod ⟨"CricketHay", "heat", "()I"⟩ ∈ lw_good := q_t 711 (by decide +kernel) rfl
theorem w_712 : Cond.selects "CricketHay" ⟨"CricketHay", "heat", "()I"⟩ ⟨"CricketHay", "heat", "()I"⟩ ∈ lw_good := q_t 712 (by decide +kernel) rfl
theorem w_713 : Cond.code ⟨"CricketHay", "heat", "()I"⟩ prog_1_method_7_code 1 (some .int) ∈ lw_good := q_t 713 (by decide +kernel) rfl
theorem w_715 : Cond.methodLink "CricketHayLaw" 41 ⟨"CricketHay", "price", "(II)I"⟩ ∈ lw_good := q_t 715 (by decide +kernel) rfl
theorem w_716 : Cond.instanceMethod ⟨"CricketHay", "price", "(II)I"⟩ ∈ lw_good := q_t 716 (by decide +kernel) rfl
theorem w_717 : Cond.selects "CricketHay" ⟨"CricketHay", "price", "(II)I"⟩ ⟨"CricketHay", "price", "(II)I"⟩ ∈ lw_good := q_t 717 (by decide +kernel) rfl
theorem w_718 : Cond.code ⟨"CricketHay", "price", "(II)I"⟩ prog_1_method_8_code 3 (some .int) ∈ lw_good := q_t 718 (by decide +kernel) rfl
theorem w_727 : Cond.methodLink "CricketHayLaw" 45 ⟨"CricketHay", "cheapest", "(I)I"⟩ ∈ lw_good := q_t 727 (by decide +kernel) rfl
theorem w_728 : Cond.instanceMethod ⟨"CricketHay", "cheapest", "(I)I"⟩ ∈ lw_good := q_t 728 (by decide +kernel) rfl
theorem w_729 : Cond.selects "CricketHay" ⟨"CricketHay", "cheapest", "(I)I"⟩ ⟨"CricketHay", "cheapest", "(I)I"⟩ ∈ lw_good := q_t 729 (by decide +kernel) rfl
theorem w_730 : Cond.code ⟨"CricketHay", "cheapest", "(I)I"⟩ prog_1_method_9_code 4 (some .int) ∈ lw_good := q_t 730 (by decide +kernel) rfl
theorem w_735 : Cond.methodLink "CricketHayLaw" 49 ⟨"CricketHay", "chorus", "()I"⟩ ∈ lw_good := q_t 735 (by decide +kernel) rfl
theorem w_736 : Cond.instanceMethod ⟨"CricketHay", "chorus", "()I"⟩ ∈ lw_good := q_t 736 (by decide +kernel) rfl
theorem w_737 : Cond.selects "CricketHay" ⟨"CricketHay", "chorus", "()I"⟩ ⟨"CricketHay", "chorus", "()I"⟩ ∈ lw_good := q_t 737 (by decide +kernel) rfl
theorem w_738 : Cond.code ⟨"CricketHay", "chorus", "()I"⟩ prog_1_method_10_code 1 (some .int) ∈ lw_good := q_t 738 (by decide +kernel) rfl
theorem w_743 : Cond.methodLink "CricketHayLaw" 53 ⟨"CricketHay", "lasts", "(I)I"⟩ ∈ lw_good := q_t 743 (by decide +kernel) rfl
theorem w_744 : Cond.instanceMethod ⟨"CricketHay", "lasts", "(I)I"⟩ ∈ lw_good := q_t 744 (by decide +kernel) rfl
theorem w_745 : Cond.selects "CricketHay" ⟨"CricketHay", "lasts", "(I)I"⟩ ⟨"CricketHay", "lasts", "(I)I"⟩ ∈ lw_good := q_t 745 (by decide +kernel) rfl
theorem w_746 : Cond.code ⟨"CricketHay", "lasts", "(I)I"⟩ prog_1_method_11_code 2 (some .int) ∈ lw_good := q_t 746 (by decide +kernel) rfl
theorem w_747 : Cond.methodLink "CricketHayLaw" 57 ⟨"CricketHay", "buy", "(III)I"⟩ ∈ lw_good := q_t 747 (by decide +kernel) rfl
theorem w_748 : Cond.instanceMethod ⟨"CricketHay", "buy", "(III)I"⟩ ∈ lw_good := q_t 748 (by decide +kernel) rfl
theorem w_749 : Cond.selects "CricketHay" ⟨"CricketHay", "buy", "(III)I"⟩ ⟨"CricketHay", "buy", "(III)I"⟩ ∈ lw_good := q_t 749 (by decide +kernel) rfl
theorem w_750 : Cond.code ⟨"CricketHay", "buy", "(III)I"⟩ prog_1_method_12_code 5 (some .int) ∈ lw_good := q_t 750 (by decide +kernel) rfl
theorem w_766 : Cond.methodLink "CricketHayLaw" 62 ⟨"CricketHay", "breathe", "(II)I"⟩ ∈ lw_good := q_t 766 (by decide +kernel) rfl
theorem w_767 : Cond.instanceMethod ⟨"CricketHay", "breathe", "(II)I"⟩ ∈ lw_good := q_t 767 (by decide +kernel) rfl
theorem w_768 : Cond.selects "CricketHay" ⟨"CricketHay", "breathe", "(II)I"⟩ ⟨"CricketHay", "breathe", "(II)I"⟩ ∈ lw_good := q_t 768 (by decide +kernel) rfl
theorem w_769 : Cond.code ⟨"CricketHay", "breathe", "(II)I"⟩ prog_1_method_13_code 4 (some .int) ∈ lw_good := q_t 769 (by decide +kernel) rfl
theorem w_770 : Cond.methodLink "CricketHayLaw" 66 ⟨"CricketHay", "free", "(I)I"⟩ ∈ lw_good := q_t 770 (by decide +kernel) rfl
theorem w_771 : Cond.instanceMethod ⟨"CricketHay", "free", "(I)I"⟩ ∈ lw_good := q_t 771 (by decide +kernel) rfl
theorem w_772 : Cond.selects "CricketHay" ⟨"CricketHay", "free", "(I)I"⟩ ⟨"CricketHay", "free", "(I)I"⟩ ∈ lw_good := q_t 772 (by decide +kernel) rfl
theorem w_773 : Cond.code ⟨"CricketHay", "free", "(I)I"⟩ prog_1_method_14_code 2 (some .int) ∈ lw_good := q_t 773 (by decide +kernel) rfl
theorem w_774 : Cond.methodLink "CricketHayLaw" 70 ⟨"CricketHay", "hour", "()I"⟩ ∈ lw_good := q_t 774 (by decide +kernel) rfl
theorem w_775 : Cond.instanceMethod ⟨"CricketHay", "hour", "()I"⟩ ∈ lw_good := q_t 775 (by decide +kernel) rfl
theorem w_776 : Cond.selects "CricketHay" ⟨"CricketHay", "hour", "()I"⟩ ⟨"CricketHay", "hour", "()I"⟩ ∈ lw_good := q_t 776 (by decide +kernel) rfl
theorem w_777 : Cond.code ⟨"CricketHay", "hour", "()I"⟩ prog_1_method_15_code 1 (some .int) ∈ lw_good := q_t 777 (by decide +kernel) rfl
theorem w_795 : Cond.methodLink "CricketHayLaw" 74 ⟨"CricketHay", "undo", "()Z"⟩ ∈ lw_good := q_t 795 (by decide +kernel) rfl
theorem w_796 : Cond.instanceMethod ⟨"CricketHay", "undo", "()Z"⟩ ∈ lw_good := q_t 796 (by decide +kernel) rfl
theorem w_797 : Cond.selects "CricketHay" ⟨"CricketHay", "undo", "()Z"⟩ ⟨"CricketHay", "undo", "()Z"⟩ ∈ lw_good := q_t 797 (by decide +kernel) rfl
theorem w_798 : Cond.code ⟨"CricketHay", "undo", "()Z"⟩ prog_1_method_16_code 1 (some .boolean) ∈ lw_good := q_t 798 (by decide +kernel) rfl
theorem w_803 : Cond.methodLink "CricketHayLaw" 79 ⟨"CricketHay", "redo", "()Z"⟩ ∈ lw_good := q_t 803 (by decide +kernel) rfl
theorem w_804 : Cond.instanceMethod ⟨"CricketHay", "redo", "()Z"⟩ ∈ lw_good := q_t 804 (by decide +kernel) rfl
theorem w_805 : Cond.selects "CricketHay" ⟨"CricketHay", "redo", "()Z"⟩ ⟨"CricketHay", "redo", "()Z"⟩ ∈ lw_good := q_t 805 (by decide +kernel) rfl
theorem w_806 : Cond.code ⟨"CricketHay", "redo", "()Z"⟩ prog_1_method_17_code 1 (some .boolean) ∈ lw_good := q_t 806 (by decide +kernel) rfl
theorem w_811 : Cond.methodLink "CricketHayLaw" 83 ⟨"CricketHay", "will", "(III)I"⟩ ∈ lw_good := q_t 811 (by decide +kernel) rfl
theorem w_812 : Cond.instanceMethod ⟨"CricketHay", "will", "(III)I"⟩ ∈ lw_good := q_t 812 (by decide +kernel) rfl
theorem w_813 : Cond.selects "CricketHay" ⟨"CricketHay", "will", "(III)I"⟩ ⟨"CricketHay", "will", "(III)I"⟩ ∈ lw_good := q_t 813 (by decide +kernel) rfl
theorem w_814 : Cond.code ⟨"CricketHay", "will", "(III)I"⟩ prog_1_method_18_code 4 (some .int) ∈ lw_good := q_t 814 (by decide +kernel) rfl
theorem w_823 : Cond.methodLink "CricketHayLaw" 87 ⟨"CricketHay", "low", "(III)I"⟩ ∈ lw_good := q_t 823 (by decide +kernel) rfl
theorem w_824 : Cond.instanceMethod ⟨"CricketHay", "low", "(III)I"⟩ ∈ lw_good := q_t 824 (by decide +kernel) rfl
theorem w_825 : Cond.selects "CricketHay" ⟨"CricketHay", "low", "(III)I"⟩ ⟨"CricketHay", "low", "(III)I"⟩ ∈ lw_good := q_t 825 (by decide +kernel) rfl
theorem w_826 : Cond.code ⟨"CricketHay", "low", "(III)I"⟩ prog_1_method_19_code 4 (some .int) ∈ lw_good := q_t 826 (by decide +kernel) rfl
theorem w_831 : Cond.methodLink "CricketHayLaw" 91 ⟨"CricketHay", "high", "(III)I"⟩ ∈ lw_good := q_t 831 (by decide +kernel) rfl
theorem w_832 : Cond.instanceMethod ⟨"CricketHay", "high", "(III)I"⟩ ∈ lw_good := q_t 832 (by decide +kernel) rfl
theorem w_833 : Cond.selects "CricketHay" ⟨"CricketHay", "high", "(III)I"⟩ ⟨"CricketHay", "high", "(III)I"⟩ ∈ lw_good := q_t 833 (by decide +kernel) rfl
theorem w_834 : Cond.code ⟨"CricketHay", "high", "(III)I"⟩ prog_1_method_20_code 4 (some .int) ∈ lw_good := q_t 834 (by decide +kernel) rfl
theorem w_835 : Cond.methodLink "CricketHayLaw" 95 ⟨"CricketHay", "plan", "(IIII)I"⟩ ∈ lw_good := q_t 835 (by decide +kernel) rfl
theorem w_836 : Cond.instanceMethod ⟨"CricketHay", "plan", "(IIII)I"⟩ ∈ lw_good := q_t 836 (by decide +kernel) rfl
theorem w_837 : Cond.selects "CricketHay" ⟨"CricketHay", "plan", "(IIII)I"⟩ ⟨"CricketHay", "plan", "(IIII)I"⟩ ∈ lw_good := q_t 837 (by decide +kernel) rfl
theorem w_838 : Cond.code ⟨"CricketHay", "plan", "(IIII)I"⟩ prog_1_method_21_code 10 (some .int) ∈ lw_good := q_t 838 (by decide +kernel) rfl
theorem w_853 : Cond.methodLink "CricketHayLaw" 100 ⟨"CricketHay", "gain", "(I)I"⟩ ∈ lw_good := q_t 853 (by decide +kernel) rfl
theorem w_854 : Cond.instanceMethod ⟨"CricketHay", "gain", "(I)I"⟩ ∈ lw_good := q_t 854 (by decide +kernel) rfl
theorem w_855 : Cond.selects "CricketHay" ⟨"CricketHay", "gain", "(I)I"⟩ ⟨"CricketHay", "gain", "(I)I"⟩ ∈ lw_good := q_t 855 (by decide +kernel) rfl
theorem w_856 : Cond.code ⟨"CricketHay", "gain", "(I)I"⟩ prog_1_method_22_code 6 (some .int) ∈ lw_good := q_t 856 (by decide +kernel) rfl
theorem w_861 : Cond.methodLink "CricketHayLaw" 104 ⟨"CricketHay", "clear", "(I)I"⟩ ∈ lw_good := q_t 861 (by decide +kernel) rfl
theorem w_862 : Cond.instanceMethod ⟨"CricketHay", "clear", "(I)I"⟩ ∈ lw_good := q_t 862 (by decide +kernel) rfl
theorem w_863 : Cond.selects "CricketHay" ⟨"CricketHay", "clear", "(I)I"⟩ ⟨"CricketHay", "clear", "(I)I"⟩ ∈ lw_good := q_t 863 (by decide +kernel) rfl
theorem w_864 : Cond.code ⟨"CricketHay", "clear", "(I)I"⟩ prog_1_method_23_code 3 (some .int) ∈ lw_good := q_t 864 (by decide +kernel) rfl
theorem w_879 : Cond.methodLink "CricketHayLaw" 108 ⟨"CricketHay", "spoils", "(I)I"⟩ ∈ lw_good := q_t 879 (by decide +kernel) rfl
theorem w_880 : Cond.instanceMethod ⟨"CricketHay", "spoils", "(I)I"⟩ ∈ lw_good := q_t 880 (by decide +kernel) rfl
theorem w_881 : Cond.selects "CricketHay" ⟨"CricketHay", "spoils", "(I)I"⟩ ⟨"CricketHay", "spoils", "(I)I"⟩ ∈ lw_good := q_t 881 (by decide +kernel) rfl
theorem w_882 : Cond.code ⟨"CricketHay", "spoils", "(I)I"⟩ prog_1_method_24_code 3 (some .int) ∈ lw_good := q_t 882 (by decide +kernel) rfl
theorem w_895 : Cond.methodLink "CricketHayLaw" 112 ⟨"CricketHay", "starve", "(I)I"⟩ ∈ lw_good := q_t 895 (by decide +kernel) rfl
theorem w_896 : Cond.instanceMethod ⟨"CricketHay", "starve", "(I)I"⟩ ∈ lw_good := q_t 896 (by decide +kernel) rfl
theorem w_897 : Cond.selects "CricketHay" ⟨"CricketHay", "starve", "(I)I"⟩ ⟨"CricketHay", "starve", "(I)I"⟩ ∈ lw_good := q_t 897 (by decide +kernel) rfl
theorem w_898 : Cond.code ⟨"CricketHay", "starve", "(I)I"⟩ prog_1_method_25_code 4 (some .int) ∈ lw_good := q_t 898 (by decide +kernel) rfl
theorem w_899 : Cond.methodLink "CricketHayLaw" 116 ⟨"CricketHay", "hush", "(I)I"⟩ ∈ lw_good := q_t 899 (by decide +kernel) rfl
theorem w_900 : Cond.instanceMethod ⟨"CricketHay", "hush", "(I)I"⟩ ∈ lw_good := q_t 900 (by decide +kernel) rfl
theorem w_901 : Cond.selects "CricketHay" ⟨"CricketHay", "hush", "(I)I"⟩ ⟨"CricketHay", "hush", "(I)I"⟩ ∈ lw_good := q_t 901 (by decide +kernel) rfl
theorem w_902 : Cond.code ⟨"CricketHay", "hush", "(I)I"⟩ prog_1_method_26_code 3 (some .int) ∈ lw_good := q_t 902 (by decide +kernel) rfl
theorem w_903 : Cond.methodLink "CricketHayLaw" 120 ⟨"CricketHay", "mean", "(IIII)I"⟩ ∈ lw_good := q_t 903 (by decide +kernel) rfl
theorem w_904 : Cond.instanceMethod ⟨"CricketHay", "mean", "(IIII)I"⟩ ∈ lw_good := q_t 904 (by decide +kernel) rfl
theorem w_905 : Cond.selects "CricketHay" ⟨"CricketHay", "mean", "(IIII)I"⟩ ⟨"CricketHay", "mean", "(IIII)I"⟩ ∈ lw_good := q_t 905 (by decide +kernel) rfl
theorem w_906 : Cond.code ⟨"CricketHay", "mean", "(IIII)I"⟩ prog_1_method_27_code 7 (some .int) ∈ lw_good := q_t 906 (by decide +kernel) rfl
theorem w_922 : Cond.methodLink "CricketHayLaw" 124 ⟨"CricketHay", "rest", "(III)I"⟩ ∈ lw_good := q_t 922 (by decide +kernel) rfl
theorem w_923 : Cond.instanceMethod ⟨"CricketHay", "rest", "(III)I"⟩ ∈ lw_good := q_t 923 (by decide +kernel) rfl
theorem w_924 : Cond.selects "CricketHay" ⟨"CricketHay", "rest", "(III)I"⟩ ⟨"CricketHay", "rest", "(III)I"⟩ ∈ lw_good := q_t 924 (by decide +kernel) rfl
theorem w_925 : Cond.code ⟨"CricketHay", "rest", "(III)I"⟩ prog_1_method_28_code 7 (some .int) ∈ lw_good := q_t 925 (by decide +kernel) rfl
theorem w_949 : Cond.methodLink "CricketHayLaw" 128 ⟨"CricketHay", "odds", "(IIIII)I"⟩ ∈ lw_good := q_t 949 (by decide +kernel) rfl
theorem w_950 : Cond.instanceMethod ⟨"CricketHay", "odds", "(IIIII)I"⟩ ∈ lw_good := q_t 950 (by decide +kernel) rfl
theorem w_951 : Cond.selects "CricketHay" ⟨"CricketHay", "odds", "(IIIII)I"⟩ ⟨"CricketHay", "odds", "(IIIII)I"⟩ ∈ lw_good := q_t 951 (by decide +kernel) rfl
theorem w_952 : Cond.code ⟨"CricketHay", "odds", "(IIIII)I"⟩ prog_1_method_29_code 8 (some .int) ∈ lw_good := q_t 952 (by decide +kernel) rfl
theorem w_953 : Cond.methodLink "CricketHayLaw" 132 ⟨"CricketHay", "law", "(I)I"⟩ ∈ lw_good := q_t 953 (by decide +kernel) rfl
theorem w_954 : Cond.instanceMethod ⟨"CricketHay", "law", "(I)I"⟩ ∈ lw_good := q_t 954 (by decide +kernel) rfl
theorem w_955 : Cond.selects "CricketHay" ⟨"CricketHay", "law", "(I)I"⟩ ⟨"CricketHay", "law", "(I)I"⟩ ∈ lw_good := q_t 955 (by decide +kernel) rfl
theorem w_956 : Cond.code ⟨"CricketHay", "law", "(I)I"⟩ prog_1_method_30_code 2 (some .int) ∈ lw_good := q_t 956 (by decide +kernel) rfl
theorem w_957 : Cond.methodLink "CricketHayLaw" 136 ⟨"CricketHay", "song", "(I)I"⟩ ∈ lw_good := q_t 957 (by decide +kernel) rfl
theorem w_958 : Cond.instanceMethod ⟨"CricketHay", "song", "(I)I"⟩ ∈ lw_good := q_t 958 (by decide +kernel) rfl
theorem w_959 : Cond.selects "CricketHay" ⟨"CricketHay", "song", "(I)I"⟩ ⟨"CricketHay", "song", "(I)I"⟩ ∈ lw_good := q_t 959 (by decide +kernel) rfl
theorem w_960 : Cond.code ⟨"CricketHay", "song", "(I)I"⟩ prog_1_method_31_code 2 (some .int) ∈ lw_good := q_t 960 (by decide +kernel) rfl
theorem w_987 : Cond.methodLink "CricketHayLaw" 140 ⟨"CricketHay", "songs", "(I)I"⟩ ∈ lw_good := q_t 987 (by decide +kernel) rfl
theorem w_988 : Cond.instanceMethod ⟨"CricketHay", "songs", "(I)I"⟩ ∈ lw_good := q_t 988 (by decide +kernel) rfl
theorem w_989 : Cond.selects "CricketHay" ⟨"CricketHay", "songs", "(I)I"⟩ ⟨"CricketHay", "songs", "(I)I"⟩ ∈ lw_good := q_t 989 (by decide +kernel) rfl
theorem w_990 : Cond.code ⟨"CricketHay", "songs", "(I)I"⟩ prog_1_method_32_code 2 (some .int) ∈ lw_good := q_t 990 (by decide +kernel) rfl
theorem w_995 : Cond.methodLink "CricketHayLaw" 144 ⟨"CricketHay", "lies", "(I)I"⟩ ∈ lw_good := q_t 995 (by decide +kernel) rfl
theorem w_996 : Cond.instanceMethod ⟨"CricketHay", "lies", "(I)I"⟩ ∈ lw_good := q_t 996 (by decide +kernel) rfl
theorem w_997 : Cond.selects "CricketHay" ⟨"CricketHay", "lies", "(I)I"⟩ ⟨"CricketHay", "lies", "(I)I"⟩ ∈ lw_good := q_t 997 (by decide +kernel) rfl
theorem w_998 : Cond.code ⟨"CricketHay", "lies", "(I)I"⟩ prog_1_method_33_code 2 (some .int) ∈ lw_good := q_t 998 (by decide +kernel) rfl
theorem w_999 : Cond.methodLink "CricketHayLaw" 148 ⟨"CricketHay", "heard", "(IIZ)I"⟩ ∈ lw_good := q_t 999 (by decide +kernel) rfl
theorem w_1000 : Cond.instanceMethod ⟨"CricketHay", "heard", "(IIZ)I"⟩ ∈ lw_good := q_t 1000 (by decide +kernel) rfl
theorem w_1001 : Cond.selects "CricketHay" ⟨"CricketHay", "heard", "(IIZ)I"⟩ ⟨"CricketHay", "heard", "(IIZ)I"⟩ ∈ lw_good := q_t 1001 (by decide +kernel) rfl
theorem w_1002 : Cond.code ⟨"CricketHay", "heard", "(IIZ)I"⟩ prog_1_method_34_code 4 (some .int) ∈ lw_good := q_t 1002 (by decide +kernel) rfl
theorem w_1007 : Cond.methodLink "CricketHayLaw" 153 ⟨"CricketHay", "untell", "(I)Z"⟩ ∈ lw_good := q_t 1007 (by decide +kernel) rfl
theorem w_1008 : Cond.instanceMethod ⟨"CricketHay", "untell", "(I)Z"⟩ ∈ lw_good := q_t 1008 (by decide +kernel) rfl
theorem w_1009 : Cond.selects "CricketHay" ⟨"CricketHay", "untell", "(I)Z"⟩ ⟨"CricketHay", "untell", "(I)Z"⟩ ∈ lw_good := q_t 1009 (by decide +kernel) rfl
theorem w_1010 : Cond.code ⟨"CricketHay", "untell", "(I)Z"⟩ prog_1_method_35_code 2 (some .boolean) ∈ lw_good := q_t 1010 (by decide +kernel) rfl
theorem w_1015 : Cond.methodLink "CricketHayLaw" 158 ⟨"CricketHay", "later", "(I)I"⟩ ∈ lw_good := q_t 1015 (by decide +kernel) rfl
theorem w_1016 : Cond.instanceMethod ⟨"CricketHay", "later", "(I)I"⟩ ∈ lw_good := q_t 1016 (by decide +kernel) rfl
theorem w_1017 : Cond.selects "CricketHay" ⟨"CricketHay", "later", "(I)I"⟩ ⟨"CricketHay", "later", "(I)I"⟩ ∈ lw_good := q_t 1017 (by decide +kernel) rfl
theorem w_1018 : Cond.code ⟨"CricketHay", "later", "(I)I"⟩ prog_1_method_36_code 2 (some .int) ∈ lw_good := q_t 1018 (by decide +kernel) rfl
theorem w_1020 : Cond.methodLink "CricketHayLaw" 162 ⟨"CricketHay", "fits", "(I)I"⟩ ∈ lw_good := q_t 1020 (by decide +kernel) rfl
theorem w_1021 : Cond.instanceMethod ⟨"CricketHay", "fits", "(I)I"⟩ ∈ lw_good := q_t 1021 (by decide +kernel) rfl
theorem w_1022 : Cond.selects "CricketHay" ⟨"CricketHay", "fits", "(I)I"⟩ ⟨"CricketHay", "fits", "(I)I"⟩ ∈ lw_good := q_t 1022 (by decide +kernel) rfl
theorem w_1023 : Cond.code ⟨"CricketHay", "fits", "(I)I"⟩ prog_1_method_37_code 2 (some .int) ∈ lw_good := q_t 1023 (by decide +kernel) rfl
theorem w_1042 : Cond.methodLink "CricketHayLaw" 166 ⟨"CricketHay", "sure", "(I)I"⟩ ∈ lw_good := q_t 1042 (by decide +kernel) rfl
theorem w_1043 : Cond.instanceMethod ⟨"CricketHay", "sure", "(I)I"⟩ ∈ lw_good := q_t 1043 (by decide +kernel) rfl
theorem w_1044 : Cond.selects "CricketHay" ⟨"CricketHay", "sure", "(I)I"⟩ ⟨"CricketHay", "sure", "(I)I"⟩ ∈ lw_good := q_t 1044 (by decide +kernel) rfl
theorem w_1045 : Cond.code ⟨"CricketHay", "sure", "(I)I"⟩ prog_1_method_38_code 2 (some .int) ∈ lw_good := q_t 1045 (by decide +kernel) rfl
theorem w_1050 : Cond.methodLink "CricketHayLaw" 170 ⟨"CricketHay", "ask", "(III)I"⟩ ∈ lw_good := q_t 1050 (by decide +kernel) rfl
theorem w_1051 : Cond.instanceMethod ⟨"CricketHay", "ask", "(III)I"⟩ ∈ lw_good := q_t 1051 (by decide +kernel) rfl
theorem w_1052 : Cond.selects "CricketHay" ⟨"CricketHay", "ask", "(III)I"⟩ ⟨"CricketHay", "ask", "(III)I"⟩ ∈ lw_good := q_t 1052 (by decide +kernel) rfl
theorem w_1053 : Cond.code ⟨"CricketHay", "ask", "(III)I"⟩ prog_1_method_39_code 8 (some .int) ∈ lw_good := q_t 1053 (by decide +kernel) rfl
theorem w_1059 : Cond.methodLink "CricketHayLaw" 174 ⟨"CricketHay", "image", "(I)I"⟩ ∈ lw_good := q_t 1059 (by decide +kernel) rfl
theorem w_1060 : Cond.instanceMethod ⟨"CricketHay", "image", "(I)I"⟩ ∈ lw_good := q_t 1060 (by decide +kernel) rfl
theorem w_1061 : Cond.selects "CricketHay" ⟨"CricketHay", "image", "(I)I"⟩ ⟨"CricketHay", "image", "(I)I"⟩ ∈ lw_good := q_t 1061 (by decide +kernel) rfl
theorem w_1062 : Cond.code ⟨"CricketHay", "image", "(I)I"⟩ prog_1_method_40_code 2 (some .int) ∈ lw_good := q_t 1062 (by decide +kernel) rfl
theorem w_1068 : Cond.methodLink "CricketHayLaw" 178 ⟨"CricketHay", "back", "(I)I"⟩ ∈ lw_good := q_t 1068 (by decide +kernel) rfl
theorem w_1069 : Cond.instanceMethod ⟨"CricketHay", "back", "(I)I"⟩ ∈ lw_good := q_t 1069 (by decide +kernel) rfl
theorem w_1070 : Cond.selects "CricketHay" ⟨"CricketHay", "back", "(I)I"⟩ ⟨"CricketHay", "back", "(I)I"⟩ ∈ lw_good := q_t 1070 (by decide +kernel) rfl
theorem w_1071 : Cond.code ⟨"CricketHay", "back", "(I)I"⟩ prog_1_method_41_code 2 (some .int) ∈ lw_good := q_t 1071 (by decide +kernel) rfl
theorem w_1076 : Cond.methodLink "CricketHayLaw" 182 ⟨"CricketHay", "about", "(I)I"⟩ ∈ lw_good := q_t 1076 (by decide +kernel) rfl
theorem w_1077 : Cond.instanceMethod ⟨"CricketHay", "about", "(I)I"⟩ ∈ lw_good := q_t 1077 (by decide +kernel) rfl
theorem w_1078 : Cond.selects "CricketHay" ⟨"CricketHay", "about", "(I)I"⟩ ⟨"CricketHay", "about", "(I)I"⟩ ∈ lw_good := q_t 1078 (by decide +kernel) rfl
theorem w_1079 : Cond.code ⟨"CricketHay", "about", "(I)I"⟩ prog_1_method_42_code 2 (some .int) ∈ lw_good := q_t 1079 (by decide +kernel) rfl
theorem w_1080 : Cond.classLink "CricketHayLaw" 10 "CricketHayModel" ∈ lw_good := q_t 1080 (by decide +kernel) rfl
theorem w_1081 : Cond.instantiable "CricketHayModel" 73 ∈ lw_good := q_t 1081 (by decide +kernel) rfl
theorem w_1082 : Cond.methodLink "CricketHayLaw" 12 ⟨"CricketHayModel", "<init>", "()V"⟩ ∈ lw_good := q_t 1082 (by decide +kernel) rfl
theorem w_1083 : Cond.instanceMethod ⟨"CricketHayModel", "<init>", "()V"⟩ ∈ lw_good := q_t 1083 (by decide +kernel) rfl
theorem w_1084 : Cond.code ⟨"CricketHayModel", "<init>", "()V"⟩ prog_14_method_1_code 1 none ∈ lw_good := q_t 1084 (by decide +kernel) rfl
theorem w_1306 : Cond.methodLink "CricketHayLaw" 17 ⟨"CricketHayModel", "feed", "(IIIII)I"⟩ ∈ lw_good := q_t 1306 (by decide +kernel) rfl
theorem w_1307 : Cond.instanceMethod ⟨"CricketHayModel", "feed", "(IIIII)I"⟩ ∈ lw_good := q_t 1307 (by decide +kernel) rfl
theorem w_1308 : Cond.selects "CricketHayModel" ⟨"CricketHayModel", "feed", "(IIIII)I"⟩ ⟨"CricketHayModel", "feed", "(IIIII)I"⟩ ∈ lw_good := q_t 1308 (by decide +kernel) rfl
theorem w_1309 : Cond.code ⟨"CricketHayModel", "feed", "(IIIII)I"⟩ prog_14_method_2_code 6 (some .int) ∈ lw_good := q_t 1309 (by decide +kernel) rfl
theorem w_1314 : Cond.methodLink "CricketHayLaw" 22 ⟨"CricketHayModel", "end", "(I)I"⟩ ∈ lw_good := q_t 1314 (by decide +kernel) rfl
theorem w_1315 : Cond.instanceMethod ⟨"CricketHayModel", "end", "(I)I"⟩ ∈ lw_good := q_t 1315 (by decide +kernel) rfl
theorem w_1316 : Cond.selects "CricketHayModel" ⟨"CricketHayModel", "end", "(I)I"⟩ ⟨"CricketHayModel", "end", "(I)I"⟩ ∈ lw_good := q_t 1316 (by decide +kernel) rfl
theorem w_1317 : Cond.code ⟨"CricketHayModel", "end", "(I)I"⟩ prog_14_method_4_code 2 (some .int) ∈ lw_good := q_t 1317 (by decide +kernel) rfl
theorem w_1318 : Cond.methodLink "CricketHayLaw" 27 ⟨"CricketHayModel", "market", "()I"⟩ ∈ lw_good := q_t 1318 (by decide +kernel) rfl
theorem w_1319 : Cond.instanceMethod ⟨"CricketHayModel", "market", "()I"⟩ ∈ lw_good := q_t 1319 (by decide +kernel) rfl
theorem w_1320 : Cond.selects "CricketHayModel" ⟨"CricketHayModel", "market", "()I"⟩ ⟨"CricketHayModel", "market", "()I"⟩ ∈ lw_good := q_t 1320 (by decide +kernel) rfl
theorem w_1321 : Cond.code ⟨"CricketHayModel", "market", "()I"⟩ prog_14_method_41_code 3 (some .int) ∈ lw_good := q_t 1321 (by decide +kernel) rfl
theorem w_1465 : Cond.methodLink "CricketHayLaw" 31 ⟨"CricketHayModel", "fault", "(I)I"⟩ ∈ lw_good := q_t 1465 (by decide +kernel) rfl
theorem w_1466 : Cond.instanceMethod ⟨"CricketHayModel", "fault", "(I)I"⟩ ∈ lw_good := q_t 1466 (by decide +kernel) rfl
theorem w_1467 : Cond.selects "CricketHayModel" ⟨"CricketHayModel", "fault", "(I)I"⟩ ⟨"CricketHayModel", "fault", "(I)I"⟩ ∈ lw_good := q_t 1467 (by decide +kernel) rfl
theorem w_1468 : Cond.code ⟨"CricketHayModel", "fault", "(I)I"⟩ prog_14_method_42_code 2 (some .int) ∈ lw_good := q_t 1468 (by decide +kernel) rfl
theorem w_1469 : Cond.methodLink "CricketHayLaw" 36 ⟨"CricketHayModel", "dealer", "(II)I"⟩ ∈ lw_good := q_t 1469 (by decide +kernel) rfl
theorem w_1470 : Cond.instanceMethod ⟨"CricketHayModel", "dealer", "(II)I"⟩ ∈ lw_good := q_t 1470 (by decide +kernel) rfl
theorem w_1471 : Cond.selects "CricketHayModel" ⟨"CricketHayModel", "dealer", "(II)I"⟩ ⟨"CricketHayModel", "dealer", "(II)I"⟩ ∈ lw_good := q_t 1471 (by decide +kernel) rfl
theorem w_1472 : Cond.code ⟨"CricketHayModel", "dealer", "(II)I"⟩ prog_14_method_57_code 3 (some .int) ∈ lw_good := q_t 1472 (by decide +kernel) rfl
theorem w_1521 : Cond.methodLink "CricketHayLaw" 40 ⟨"CricketHayModel", "heat", "()I"⟩ ∈ lw_good := q_t 1521 (by decide +kernel) rfl
theorem w_1522 : Cond.instanceMethod ⟨"CricketHayModel", "heat", "()I"⟩ ∈ lw_good := q_t 1522 (by decide +kernel) rfl
theorem w_1523 : Cond.selects "CricketHayModel" ⟨"CricketHayModel", "heat", "()I"⟩ ⟨"CricketHayModel", "heat", "()I"⟩ ∈ lw_good := q_t 1523 (by decide +kernel) rfl
theorem w_1524 : Cond.code ⟨"CricketHayModel", "heat", "()I"⟩ prog_14_method_58_code 1 (some .int) ∈ lw_good := q_t 1524 (by decide +kernel) rfl
theorem w_1525 : Cond.methodLink "CricketHayLaw" 44 ⟨"CricketHayModel", "price", "(II)I"⟩ ∈ lw_good := q_t 1525 (by decide +kernel) rfl
theorem w_1526 : Cond.instanceMethod ⟨"CricketHayModel", "price", "(II)I"⟩ ∈ lw_good := q_t 1526 (by decide +kernel) rfl
theorem w_1527 : Cond.selects "CricketHayModel" ⟨"CricketHayModel", "price", "(II)I"⟩ ⟨"CricketHayModel", "price", "(II)I"⟩ ∈ lw_good := q_t 1527 (by decide +kernel) rfl
theorem w_1528 : Cond.code ⟨"CricketHayModel", "price", "(II)I"⟩ prog_14_method_59_code 3 (some .int) ∈ lw_good := q_t 1528 (by decide +kernel) rfl
theorem w_1537 : Cond.methodLink "CricketHayLaw" 48 ⟨"CricketHayModel", "cheapest", "(I)I"⟩ ∈ lw_good := q_t 1537 (by decide +kernel) rfl
theorem w_1538 : Cond.instanceMethod ⟨"CricketHayModel", "cheapest", "(I)I"⟩ ∈ lw_good := q_t 1538 (by decide +kernel) rfl
theorem w_1539 : Cond.selects "CricketHayModel" ⟨"CricketHayModel", "cheapest", "(I)I"⟩ ⟨"CricketHayModel", "cheapest", "(I)I"⟩ ∈ lw_good := q_t 1539 (by decide +kernel) rfl
theorem w_1540 : Cond.code ⟨"CricketHayModel", "cheapest", "(I)I"⟩ prog_14_method_60_code 4 (some .int) ∈ lw_good := q_t 1540 (by decide +kernel) rfl
theorem w_1541 : Cond.methodLink "CricketHayLaw" 52 ⟨"CricketHayModel", "chorus", "()I"⟩ ∈ lw_good := q_t 1541 (by decide +kernel) rfl
theorem w_1542 : Cond.instanceMethod ⟨"CricketHayModel", "chorus", "()I"⟩ ∈ lw_good := q_t 1542 (by decide +kernel) rfl
theorem w_1543 : Cond.selects "CricketHayModel" ⟨"CricketHayModel", "chorus", "()I"⟩ ⟨"CricketHayModel", "chorus", "()I"⟩ ∈ lw_good := q_t 1543 (by decide +kernel) rfl
theorem w_1544 : Cond.code ⟨"CricketHayModel", "chorus", "()I"⟩ prog_14_method_62_code 1 (some .int) ∈ lw_good := q_t 1544 (by decide +kernel) rfl
theorem w_1549 : Cond.methodLink "CricketHayLaw" 56 ⟨"CricketHayModel", "lasts", "(I)I"⟩ ∈ lw_good := q_t 1549 (by decide +kernel) rfl
theorem w_1550 : Cond.instanceMethod ⟨"CricketHayModel", "lasts", "(I)I"⟩ ∈ lw_good := q_t 1550 (by decide +kernel) rfl
theorem w_1551 : Cond.selects "CricketHayModel" ⟨"CricketHayModel", "lasts", "(I)I"⟩ ⟨"CricketHayModel", "lasts", "(I)I"⟩ ∈ lw_good := q_t 1551 (by decide +kernel) rfl
theorem w_1552 : Cond.code ⟨"CricketHayModel", "lasts", "(I)I"⟩ prog_14_method_63_code 2 (some .int) ∈ lw_good := q_t 1552 (by decide +kernel) rfl
theorem w_1553 : Cond.methodLink "CricketHayLaw" 61 ⟨"CricketHayModel", "buy", "(III)I"⟩ ∈ lw_good := q_t 1553 (by decide +kernel) rfl
theorem w_1554 : Cond.instanceMethod ⟨"CricketHayModel", "buy", "(III)I"⟩ ∈ lw_good := q_t 1554 (by decide +kernel) rfl
theorem w_1555 : Cond.selects "CricketHayModel" ⟨"CricketHayModel", "buy", "(III)I"⟩ ⟨"CricketHayModel", "buy", "(III)I"⟩ ∈ lw_good := q_t 1555 (by decide +kernel) rfl
theorem w_1556 : Cond.code ⟨"CricketHayModel", "buy", "(III)I"⟩ prog_14_method_66_code 5 (some .int) ∈ lw_good := q_t 1556 (by decide +kernel) rfl
theorem w_1561 : Cond.methodLink "CricketHayLaw" 65 ⟨"CricketHayModel", "breathe", "(II)I"⟩ ∈ lw_good := q_t 1561 (by decide +kernel) rfl
theorem w_1562 : Cond.instanceMethod ⟨"CricketHayModel", "breathe", "(II)I"⟩ ∈ lw_good := q_t 1562 (by decide +kernel) rfl
theorem w_1563 : Cond.selects "CricketHayModel" ⟨"CricketHayModel", "breathe", "(II)I"⟩ ⟨"CricketHayModel", "breathe", "(II)I"⟩ ∈ lw_good := q_t 1563 (by decide +kernel) rfl
theorem w_1564 : Cond.code ⟨"CricketHayModel", "breathe", "(II)I"⟩ prog_14_method_68_code 4 (some .int) ∈ lw_good := q_t 1564 (by decide +kernel) rfl
theorem w_1569 : Cond.methodLink "CricketHayLaw" 69 ⟨"CricketHayModel", "free", "(I)I"⟩ ∈ lw_good := q_t 1569 (by decide +kernel) rfl
theorem w_1570 : Cond.instanceMethod ⟨"CricketHayModel", "free", "(I)I"⟩ ∈ lw_good := q_t 1570 (by decide +kernel) rfl
theorem w_1571 : Cond.selects "CricketHayModel" ⟨"CricketHayModel", "free", "(I)I"⟩ ⟨"CricketHayModel", "free", "(I)I"⟩ ∈ lw_good := q_t 1571 (by decide +kernel) rfl
theorem w_1572 : Cond.code ⟨"CricketHayModel", "free", "(I)I"⟩ prog_14_method_69_code 3 (some .int) ∈ lw_good := q_t 1572 (by decide +kernel) rfl
theorem w_1573 : Cond.methodLink "CricketHayLaw" 73 ⟨"CricketHayModel", "hour", "()I"⟩ ∈ lw_good := q_t 1573 (by decide +kernel) rfl
theorem w_1574 : Cond.instanceMethod ⟨"CricketHayModel", "hour", "()I"⟩ ∈ lw_good := q_t 1574 (by decide +kernel) rfl
theorem w_1575 : Cond.selects "CricketHayModel" ⟨"CricketHayModel", "hour", "()I"⟩ ⟨"CricketHayModel", "hour", "()I"⟩ ∈ lw_good := q_t 1575 (by decide +kernel) rfl
theorem w_1576 : Cond.code ⟨"CricketHayModel", "hour", "()I"⟩ prog_14_method_70_code 2 (some .int) ∈ lw_good := q_t 1576 (by decide +kernel) rfl
theorem w_1589 : Cond.methodLink "CricketHayLaw" 78 ⟨"CricketHayModel", "undo", "()Z"⟩ ∈ lw_good := q_t 1589 (by decide +kernel) rfl
theorem w_1590 : Cond.instanceMethod ⟨"CricketHayModel", "undo", "()Z"⟩ ∈ lw_good := q_t 1590 (by decide +kernel) rfl
theorem w_1591 : Cond.selects "CricketHayModel" ⟨"CricketHayModel", "undo", "()Z"⟩ ⟨"CricketHayModel", "undo", "()Z"⟩ ∈ lw_good := q_t 1591 (by decide +kernel) rfl
theorem w_1592 : Cond.code ⟨"CricketHayModel", "undo", "()Z"⟩ prog_14_method_71_code 1 (some .boolean) ∈ lw_good := q_t 1592 (by decide +kernel) rfl
theorem w_1597 : Cond.methodLink "CricketHayLaw" 82 ⟨"CricketHayModel", "redo", "()Z"⟩ ∈ lw_good := q_t 1597 (by decide +kernel) rfl
theorem w_1598 : Cond.instanceMethod ⟨"CricketHayModel", "redo", "()Z"⟩ ∈ lw_good := q_t 1598 (by decide +kernel) rfl
theorem w_1599 : Cond.selects "CricketHayModel" ⟨"CricketHayModel", "redo", "()Z"⟩ ⟨"CricketHayModel", "redo", "()Z"⟩ ∈ lw_good := q_t 1599 (by decide +kernel) rfl
theorem w_1600 : Cond.code ⟨"CricketHayModel", "redo", "()Z"⟩ prog_14_method_72_code 1 (some .boolean) ∈ lw_good := q_t 1600 (by decide +kernel) rfl
theorem w_1601 : Cond.methodLink "CricketHayLaw" 86 ⟨"CricketHayModel", "will", "(III)I"⟩ ∈ lw_good := q_t 1601 (by decide +kernel) rfl
theorem w_1602 : Cond.instanceMethod ⟨"CricketHayModel", "will", "(III)I"⟩ ∈ lw_good := q_t 1602 (by decide +kernel) rfl
theorem w_1603 : Cond.selects "CricketHayModel" ⟨"CricketHayModel", "will", "(III)I"⟩ ⟨"CricketHayModel", "will", "(III)I"⟩ ∈ lw_good := q_t 1603 (by decide +kernel) rfl
theorem w_1604 : Cond.code ⟨"CricketHayModel", "will", "(III)I"⟩ prog_14_method_74_code 4 (some .int) ∈ lw_good := q_t 1604 (by decide +kernel) rfl
theorem w_1609 : Cond.methodLink "CricketHayLaw" 90 ⟨"CricketHayModel", "low", "(III)I"⟩ ∈ lw_good := q_t 1609 (by decide +kernel) rfl
theorem w_1610 : Cond.instanceMethod ⟨"CricketHayModel", "low", "(III)I"⟩ ∈ lw_good := q_t 1610 (by decide +kernel) rfl
theorem w_1611 : Cond.selects "CricketHayModel" ⟨"CricketHayModel", "low", "(III)I"⟩ ⟨"CricketHayModel", "low", "(III)I"⟩ ∈ lw_good := q_t 1611 (by decide +kernel) rfl
theorem w_1612 : Cond.code ⟨"CricketHayModel", "low", "(III)I"⟩ prog_14_method_76_code 4 (some .int) ∈ lw_good := q_t 1612 (by decide +kernel) rfl
theorem w_1617 : Cond.methodLink "CricketHayLaw" 94 ⟨"CricketHayModel", "high", "(III)I"⟩ ∈ lw_good := q_t 1617 (by decide +kernel) rfl
theorem w_1618 : Cond.instanceMethod ⟨"CricketHayModel", "high", "(III)I"⟩ ∈ lw_good := q_t 1618 (by decide +kernel) rfl
theorem w_1619 : Cond.selects "CricketHayModel" ⟨"CricketHayModel", "high", "(III)I"⟩ ⟨"CricketHayModel", "high", "(III)I"⟩ ∈ lw_good := q_t 1619 (by decide +kernel) rfl
theorem w_1620 : Cond.code ⟨"CricketHayModel", "high", "(III)I"⟩ prog_14_method_77_code 4 (some .int) ∈ lw_good := q_t 1620 (by decide +kernel) rfl
theorem w_1621 : Cond.methodLink "CricketHayLaw" 99 ⟨"CricketHayModel", "plan", "(IIII)I"⟩ ∈ lw_good := q_t 1621 (by decide +kernel) rfl
theorem w_1622 : Cond.instanceMethod ⟨"CricketHayModel", "plan", "(IIII)I"⟩ ∈ lw_good := q_t 1622 (by decide +kernel) rfl
theorem w_1623 : Cond.selects "CricketHayModel" ⟨"CricketHayModel", "plan", "(IIII)I"⟩ ⟨"CricketHayModel", "plan", "(IIII)I"⟩ ∈ lw_good := q_t 1623 (by decide +kernel) rfl
theorem w_1624 : Cond.code ⟨"CricketHayModel", "plan", "(IIII)I"⟩ prog_14_method_78_code 9 (some .int) ∈ lw_good := q_t 1624 (by decide +kernel) rfl
theorem w_1625 : Cond.methodLink "CricketHayLaw" 103 ⟨"CricketHayModel", "gain", "(I)I"⟩ ∈ lw_good := q_t 1625 (by decide +kernel) rfl
theorem w_1626 : Cond.instanceMethod ⟨"CricketHayModel", "gain", "(I)I"⟩ ∈ lw_good := q_t 1626 (by decide +kernel) rfl
theorem w_1627 : Cond.selects "CricketHayModel" ⟨"CricketHayModel", "gain", "(I)I"⟩ ⟨"CricketHayModel", "gain", "(I)I"⟩ ∈ lw_good := q_t 1627 (by decide +kernel) rfl
theorem w_1628 : Cond.code ⟨"CricketHayModel", "gain", "(I)I"⟩ prog_14_method_79_code 6 (some .int) ∈ lw_good := q_t 1628 (by decide +kernel) rfl
theorem w_1629 : Cond.methodLink "CricketHayLaw" 107 ⟨"CricketHayModel", "clear", "(I)I"⟩ ∈ lw_good := q_t 1629 (by decide +kernel) rfl
theorem w_1630 : Cond.instanceMethod ⟨"CricketHayModel", "clear", "(I)I"⟩ ∈ lw_good := q_t 1630 (by decide +kernel) rfl
theorem w_1631 : Cond.selects "CricketHayModel" ⟨"CricketHayModel", "clear", "(I)I"⟩ ⟨"CricketHayModel", "clear", "(I)I"⟩ ∈ lw_good := q_t 1631 (by decide +kernel) rfl
theorem w_1632 : Cond.code ⟨"CricketHayModel", "clear", "(I)I"⟩ prog_14_method_84_code 7 (some .int) ∈ lw_good := q_t 1632 (by decide +kernel) rfl
theorem w_1649 : Cond.methodLink "CricketHayLaw" 111 ⟨"CricketHayModel", "spoils", "(I)I"⟩ ∈ lw_good := q_t 1649 (by decide +kernel) rfl
theorem w_1650 : Cond.instanceMethod ⟨"CricketHayModel", "spoils", "(I)I"⟩ ∈ lw_good := q_t 1650 (by decide +kernel) rfl
theorem w_1651 : Cond.selects "CricketHayModel" ⟨"CricketHayModel", "spoils", "(I)I"⟩ ⟨"CricketHayModel", "spoils", "(I)I"⟩ ∈ lw_good := q_t 1651 (by decide +kernel) rfl
theorem w_1652 : Cond.code ⟨"CricketHayModel", "spoils", "(I)I"⟩ prog_14_method_86_code 3 (some .int) ∈ lw_good := q_t 1652 (by decide +kernel) rfl
theorem w_1658 : Cond.methodLink "CricketHayLaw" 115 ⟨"CricketHayModel", "starve", "(I)I"⟩ ∈ lw_good := q_t 1658 (by decide +kernel) rfl
theorem w_1659 : Cond.instanceMethod ⟨"CricketHayModel", "starve", "(I)I"⟩ ∈ lw_good := q_t 1659 (by decide +kernel) rfl
theorem w_1660 : Cond.selects "CricketHayModel" ⟨"CricketHayModel", "starve", "(I)I"⟩ ⟨"CricketHayModel", "starve", "(I)I"⟩ ∈ lw_good := q_t 1660 (by decide +kernel) rfl
theorem w_1661 : Cond.code ⟨"CricketHayModel", "starve", "(I)I"⟩ prog_14_method_87_code 4 (some .int) ∈ lw_good := q_t 1661 (by decide +kernel) rfl
theorem w_1662 : Cond.methodLink "CricketHayLaw" 119 ⟨"CricketHayModel", "hush", "(I)I"⟩ ∈ lw_good := q_t 1662 (by decide +kernel) rfl
theorem w_1663 : Cond.instanceMethod ⟨"CricketHayModel", "hush", "(I)I"⟩ ∈ lw_good := q_t 1663 (by decide +kernel) rfl
theorem w_1664 : Cond.selects "CricketHayModel" ⟨"CricketHayModel", "hush", "(I)I"⟩ ⟨"CricketHayModel", "hush", "(I)I"⟩ ∈ lw_good := q_t 1664 (by decide +kernel) rfl
theorem w_1665 : Cond.code ⟨"CricketHayModel", "hush", "(I)I"⟩ prog_14_method_88_code 3 (some .int) ∈ lw_good := q_t 1665 (by decide +kernel) rfl
theorem w_1666 : Cond.methodLink "CricketHayLaw" 127 ⟨"CricketHayModel", "rest", "(III)I"⟩ ∈ lw_good := q_t 1666 (by decide +kernel) rfl
theorem w_1667 : Cond.instanceMethod ⟨"CricketHayModel", "rest", "(III)I"⟩ ∈ lw_good := q_t 1667 (by decide +kernel) rfl
theorem w_1668 : Cond.selects "CricketHayModel" ⟨"CricketHayModel", "rest", "(III)I"⟩ ⟨"CricketHayModel", "rest", "(III)I"⟩ ∈ lw_good := q_t 1668 (by decide +kernel) rfl
theorem w_1669 : Cond.code ⟨"CricketHayModel", "rest", "(III)I"⟩ prog_14_method_91_code 7 (some .int) ∈ lw_good := q_t 1669 (by decide +kernel) rfl
theorem w_1678 : Cond.methodLink "CricketHayLaw" 131 ⟨"CricketHayModel", "odds", "(IIIII)I"⟩ ∈ lw_good := q_t 1678 (by decide +kernel) rfl
theorem w_1679 : Cond.instanceMethod ⟨"CricketHayModel", "odds", "(IIIII)I"⟩ ∈ lw_good := q_t 1679 (by decide +kernel) rfl
theorem w_1680 : Cond.selects "CricketHayModel" ⟨"CricketHayModel", "odds", "(IIIII)I"⟩ ⟨"CricketHayModel", "odds", "(IIIII)I"⟩ ∈ lw_good := q_t 1680 (by decide +kernel) rfl
theorem w_1681 : Cond.code ⟨"CricketHayModel", "odds", "(IIIII)I"⟩ prog_14_method_96_code 9 (some .int) ∈ lw_good := q_t 1681 (by decide +kernel) rfl
theorem w_1696 : Cond.methodLink "CricketHayLaw" 123 ⟨"CricketHayModel", "mean", "(IIII)I"⟩ ∈ lw_good := q_t 1696 (by decide +kernel) rfl
theorem w_1697 : Cond.instanceMethod ⟨"CricketHayModel", "mean", "(IIII)I"⟩ ∈ lw_good := q_t 1697 (by decide +kernel) rfl
theorem w_1698 : Cond.selects "CricketHayModel" ⟨"CricketHayModel", "mean", "(IIII)I"⟩ ⟨"CricketHayModel", "mean", "(IIII)I"⟩ ∈ lw_good := q_t 1698 (by decide +kernel) rfl
theorem w_1699 : Cond.code ⟨"CricketHayModel", "mean", "(IIII)I"⟩ prog_14_method_97_code 8 (some .int) ∈ lw_good := q_t 1699 (by decide +kernel) rfl
theorem w_1700 : Cond.methodLink "CricketHayLaw" 135 ⟨"CricketHayModel", "law", "(I)I"⟩ ∈ lw_good := q_t 1700 (by decide +kernel) rfl
theorem w_1701 : Cond.instanceMethod ⟨"CricketHayModel", "law", "(I)I"⟩ ∈ lw_good := q_t 1701 (by decide +kernel) rfl
theorem w_1702 : Cond.selects "CricketHayModel" ⟨"CricketHayModel", "law", "(I)I"⟩ ⟨"CricketHayModel", "law", "(I)I"⟩ ∈ lw_good := q_t 1702 (by decide +kernel) rfl
theorem w_1703 : Cond.code ⟨"CricketHayModel", "law", "(I)I"⟩ prog_14_method_99_code 5 (some .int) ∈ lw_good := q_t 1703 (by decide +kernel) rfl
theorem w_1708 : Cond.methodLink "CricketHayLaw" 139 ⟨"CricketHayModel", "song", "(I)I"⟩ ∈ lw_good := q_t 1708 (by decide +kernel) rfl
theorem w_1709 : Cond.instanceMethod ⟨"CricketHayModel", "song", "(I)I"⟩ ∈ lw_good := q_t 1709 (by decide +kernel) rfl
theorem w_1710 : Cond.selects "CricketHayModel" ⟨"CricketHayModel", "song", "(I)I"⟩ ⟨"CricketHayModel", "song", "(I)I"⟩ ∈ lw_good := q_t 1710 (by decide +kernel) rfl
theorem w_1711 : Cond.code ⟨"CricketHayModel", "song", "(I)I"⟩ prog_14_method_104_code 4 (some .int) ∈ lw_good := q_t 1711 (by decide +kernel) rfl
theorem w_1727 : Cond.methodLink "CricketHayLaw" 143 ⟨"CricketHayModel", "songs", "(I)I"⟩ ∈ lw_good := q_t 1727 (by decide +kernel) rfl
theorem w_1728 : Cond.instanceMethod ⟨"CricketHayModel", "songs", "(I)I"⟩ ∈ lw_good := q_t 1728 (by decide +kernel) rfl
theorem w_1729 : Cond.selects "CricketHayModel" ⟨"CricketHayModel", "songs", "(I)I"⟩ ⟨"CricketHayModel", "songs", "(I)I"⟩ ∈ lw_good := q_t 1729 (by decide +kernel) rfl
theorem w_1730 : Cond.code ⟨"CricketHayModel", "songs", "(I)I"⟩ prog_14_method_105_code 4 (some .int) ∈ lw_good := q_t 1730 (by decide +kernel) rfl
theorem w_1731 : Cond.methodLink "CricketHayLaw" 147 ⟨"CricketHayModel", "lies", "(I)I"⟩ ∈ lw_good := q_t 1731 (by decide +kernel) rfl
theorem w_1732 : Cond.instanceMethod ⟨"CricketHayModel", "lies", "(I)I"⟩ ∈ lw_good := q_t 1732 (by decide +kernel) rfl
theorem w_1733 : Cond.selects "CricketHayModel" ⟨"CricketHayModel", "lies", "(I)I"⟩ ⟨"CricketHayModel", "lies", "(I)I"⟩ ∈ lw_good := q_t 1733 (by decide +kernel) rfl
theorem w_1734 : Cond.code ⟨"CricketHayModel", "lies", "(I)I"⟩ prog_14_method_106_code 2 (some .int) ∈ lw_good := q_t 1734 (by decide +kernel) rfl
theorem w_1735 : Cond.methodLink "CricketHayLaw" 152 ⟨"CricketHayModel", "heard", "(IIZ)I"⟩ ∈ lw_good := q_t 1735 (by decide +kernel) rfl
theorem w_1736 : Cond.instanceMethod ⟨"CricketHayModel", "heard", "(IIZ)I"⟩ ∈ lw_good := q_t 1736 (by decide +kernel) rfl
theorem w_1737 : Cond.selects "CricketHayModel" ⟨"CricketHayModel", "heard", "(IIZ)I"⟩ ⟨"CricketHayModel", "heard", "(IIZ)I"⟩ ∈ lw_good := q_t 1737 (by decide +kernel) rfl
theorem w_1738 : Cond.code ⟨"CricketHayModel", "heard", "(IIZ)I"⟩ prog_14_method_107_code 4 (some .int) ∈ lw_good := q_t 1738 (by decide +kernel) rfl
theorem w_1739 : Cond.methodLink "CricketHayLaw" 157 ⟨"CricketHayModel", "untell", "(I)Z"⟩ ∈ lw_good := q_t 1739 (by decide +kernel) rfl
theorem w_1740 : Cond.instanceMethod ⟨"CricketHayModel", "untell", "(I)Z"⟩ ∈ lw_good := q_t 1740 (by decide +kernel) rfl
theorem w_1741 : Cond.selects "CricketHayModel" ⟨"CricketHayModel", "untell", "(I)Z"⟩ ⟨"CricketHayModel", "untell", "(I)Z"⟩ ∈ lw_good := q_t 1741 (by decide +kernel) rfl
theorem w_1742 : Cond.code ⟨"CricketHayModel", "untell", "(I)Z"⟩ prog_14_method_108_code 2 (some .boolean) ∈ lw_good := q_t 1742 (by decide +kernel) rfl
theorem w_1743 : Cond.methodLink "CricketHayLaw" 161 ⟨"CricketHayModel", "later", "(I)I"⟩ ∈ lw_good := q_t 1743 (by decide +kernel) rfl
theorem w_1744 : Cond.instanceMethod ⟨"CricketHayModel", "later", "(I)I"⟩ ∈ lw_good := q_t 1744 (by decide +kernel) rfl
theorem w_1745 : Cond.selects "CricketHayModel" ⟨"CricketHayModel", "later", "(I)I"⟩ ⟨"CricketHayModel", "later", "(I)I"⟩ ∈ lw_good := q_t 1745 (by decide +kernel) rfl
theorem w_1746 : Cond.code ⟨"CricketHayModel", "later", "(I)I"⟩ prog_14_method_109_code 2 (some .int) ∈ lw_good := q_t 1746 (by decide +kernel) rfl
theorem w_1748 : Cond.methodLink "CricketHayLaw" 165 ⟨"CricketHayModel", "fits", "(I)I"⟩ ∈ lw_good := q_t 1748 (by decide +kernel) rfl
theorem w_1749 : Cond.instanceMethod ⟨"CricketHayModel", "fits", "(I)I"⟩ ∈ lw_good := q_t 1749 (by decide +kernel) rfl
theorem w_1750 : Cond.selects "CricketHayModel" ⟨"CricketHayModel", "fits", "(I)I"⟩ ⟨"CricketHayModel", "fits", "(I)I"⟩ ∈ lw_good := q_t 1750 (by decide +kernel) rfl
theorem w_1751 : Cond.code ⟨"CricketHayModel", "fits", "(I)I"⟩ prog_14_method_112_code 2 (some .int) ∈ lw_good := q_t 1751 (by decide +kernel) rfl
theorem w_1760 : Cond.methodLink "CricketHayLaw" 169 ⟨"CricketHayModel", "sure", "(I)I"⟩ ∈ lw_good := q_t 1760 (by decide +kernel) rfl
theorem w_1761 : Cond.instanceMethod ⟨"CricketHayModel", "sure", "(I)I"⟩ ∈ lw_good := q_t 1761 (by decide +kernel) rfl
theorem w_1762 : Cond.selects "CricketHayModel" ⟨"CricketHayModel", "sure", "(I)I"⟩ ⟨"CricketHayModel", "sure", "(I)I"⟩ ∈ lw_good := q_t 1762 (by decide +kernel) rfl
theorem w_1763 : Cond.code ⟨"CricketHayModel", "sure", "(I)I"⟩ prog_14_method_113_code 5 (some .int) ∈ lw_good := q_t 1763 (by decide +kernel) rfl
theorem w_1764 : Cond.methodLink "CricketHayLaw" 173 ⟨"CricketHayModel", "ask", "(III)I"⟩ ∈ lw_good := q_t 1764 (by decide +kernel) rfl
theorem w_1765 : Cond.instanceMethod ⟨"CricketHayModel", "ask", "(III)I"⟩ ∈ lw_good := q_t 1765 (by decide +kernel) rfl
theorem w_1766 : Cond.selects "CricketHayModel" ⟨"CricketHayModel", "ask", "(III)I"⟩ ⟨"CricketHayModel", "ask", "(III)I"⟩ ∈ lw_good := q_t 1766 (by decide +kernel) rfl
theorem w_1767 : Cond.code ⟨"CricketHayModel", "ask", "(III)I"⟩ prog_14_method_115_code 10 (some .int) ∈ lw_good := q_t 1767 (by decide +kernel) rfl
theorem w_1772 : Cond.methodLink "CricketHayLaw" 177 ⟨"CricketHayModel", "image", "(I)I"⟩ ∈ lw_good := q_t 1772 (by decide +kernel) rfl
theorem w_1773 : Cond.instanceMethod ⟨"CricketHayModel", "image", "(I)I"⟩ ∈ lw_good := q_t 1773 (by decide +kernel) rfl
theorem w_1774 : Cond.selects "CricketHayModel" ⟨"CricketHayModel", "image", "(I)I"⟩ ⟨"CricketHayModel", "image", "(I)I"⟩ ∈ lw_good := q_t 1774 (by decide +kernel) rfl
theorem w_1775 : Cond.code ⟨"CricketHayModel", "image", "(I)I"⟩ prog_14_method_117_code 3 (some .int) ∈ lw_good := q_t 1775 (by decide +kernel) rfl
theorem w_1779 : Cond.methodLink "CricketHayLaw" 181 ⟨"CricketHayModel", "back", "(I)I"⟩ ∈ lw_good := q_t 1779 (by decide +kernel) rfl
theorem w_1780 : Cond.instanceMethod ⟨"CricketHayModel", "back", "(I)I"⟩ ∈ lw_good := q_t 1780 (by decide +kernel) rfl
theorem w_1781 : Cond.selects "CricketHayModel" ⟨"CricketHayModel", "back", "(I)I"⟩ ⟨"CricketHayModel", "back", "(I)I"⟩ ∈ lw_good := q_t 1781 (by decide +kernel) rfl
theorem w_1782 : Cond.code ⟨"CricketHayModel", "back", "(I)I"⟩ prog_14_method_118_code 3 (some .int) ∈ lw_good := q_t 1782 (by decide +kernel) rfl
theorem w_1783 : Cond.methodLink "CricketHayLaw" 185 ⟨"CricketHayModel", "about", "(I)I"⟩ ∈ lw_good := q_t 1783 (by decide +kernel) rfl
theorem w_1784 : Cond.instanceMethod ⟨"CricketHayModel", "about", "(I)I"⟩ ∈ lw_good := q_t 1784 (by decide +kernel) rfl
theorem w_1785 : Cond.selects "CricketHayModel" ⟨"CricketHayModel", "about", "(I)I"⟩ ⟨"CricketHayModel", "about", "(I)I"⟩ ∈ lw_good := q_t 1785 (by decide +kernel) rfl
theorem w_1786 : Cond.code ⟨"CricketHayModel", "about", "(I)I"⟩ prog_14_method_119_code 2 (some .int) ∈ lw_good := q_t 1786 (by decide +kernel) rfl
abbrev y_Law_law : MI := (x, code, 4, ret)
theorem d_Law_law_0 : decode y_Law_law.2.1 0 = .ok (.new 7, 3) := by decide +kernel
theorem d_Law_law_3 : decode y_Law_law.2.1 3 = .ok (.dup, 1) := by decide +kernel
theorem d_Law_law_4 : decode y_Law_law.2.1 4 = .ok (.invokespecial 9, 3) := by decide +kernel
theorem d_Law_law_7 : decode y_Law_law.2.1 7 = .ok (.astore_n 1, 1) := by decide +kernel
theorem d_Law_law_8 : decode y_Law_law.2.1 8 = .ok (.new 10, 3) := by decide +kernel
theorem d_Law_law_11 : decode y_Law_law.2.1 11 = .ok (.dup, 1) := by decide +kernel
theorem d_Law_law_12 : decode y_Law_law.2.1 12 = .ok (.invokespecial 12, 3) := by decide +kernel
theorem d_Law_law_15 : decode y_Law_law.2.1 15 = .ok (.astore_n 2, 1) := by decide +kernel
theorem d_Law_law_16 : decode y_Law_law.2.1 16 = .ok (.iconst 0, 1) := by decide +kernel
theorem d_Law_law_17 : decode y_Law_law.2.1 17 = .ok (.istore_n 3, 1) := by decide +kernel
theorem d_Law_law_18 : decode y_Law_law.2.1 18 = .ok (.iload_n 3, 1) := by decide +kernel
theorem d_Law_law_19 : decode y_Law_law.2.1 19 = .ok (.aload_n 0, 1) := by decide +kernel
theorem d_Law_law_20 : decode y_Law_law.2.1 20 = .ok (.arraylength, 1) := by decide +kernel
theorem d_Law_law_21 : decode y_Law_law.2.1 21 = .ok (.bipush 6, 2) := by decide +kernel
theorem d_Law_law_23 : decode y_Law_law.2.1 23 = .ok (.isub, 1) := by decide +kernel
theorem d_Law_law_24 : decode y_Law_law.2.1 24 = .ok (.if_icmp .gt 1403, 3) := by decide +kernel
theorem d_Law_law_27 : decode y_Law_law.2.1 27 = .ok (.aload_n 0, 1) := by decide +kernel
theorem d_Law_law_28 : decode y_Law_law.2.1 28 = .ok (.iload_n 3, 1) := by decide +kernel
theorem d_Law_law_29 : decode y_Law_law.2.1 29 = .ok (.iaload, 1) := by decide +kernel
theorem d_Law_law_30 : decode y_Law_law.2.1 30 = .ok (.bipush 63, 2) := by decide +kernel
theorem d_Law_law_32 : decode y_Law_law.2.1 32 = .ok (.iand, 1) := by decide +kernel
theorem d_Law_law_33 : decode y_Law_law.2.1 33 = .ok (.tableswitch 1388 0 40 #[179, 242, 265, 278, 301, 334, 347, 380, 403, 416, 439, 482, 515, 538, 551, 564, 577, 620, 663, 706, 759, 782, 805, 828, 851, 874, 927, 970, 1033, 1056, 1079, 1102, 1125, 1184, 1207, 1230, 1253, 1276, 1319, 1342, 1365], 179) := by decide +kernel
theorem d_Law_law_212 : decode y_Law_law.2.1 212 = .ok (.aload_n 1, 1) := by decide +kernel
theorem d_Law_law_213 : decode y_Law_law.2.1 213 = .ok (.aload_n 0, 1) := by decide +kernel
theorem d_Law_law_214 : decode y_Law_law.2.1 214 = .ok (.iload_n 3, 1) := by decide +kernel
theorem d_Law_law_215 : decode y_Law_law.2.1 215 = .ok (.iconst 1, 1) := by decide +kernel
theorem d_Law_law_216 : decode y_Law_law.2.1 216 = .ok (.iadd, 1) := by decide +kernel
theorem d_Law_law_217 : decode y_Law_law.2.1 217 = .ok (.iaload, 1) := by decide +kernel
theorem d_Law_law_218 : decode y_Law_law.2.1 218 = .ok (.aload_n 0, 1) := by decide +kernel
theorem d_Law_law_219 : decode y_Law_law.2.1 219 = .ok (.iload_n 3, 1) := by decide +kernel
theorem d_Law_law_220 : decode y_Law_law.2.1 220 = .ok (.iconst 2, 1) := by decide +kernel
theorem d_Law_law_221 : decode y_Law_law.2.1 221 = .ok (.iadd, 1) := by decide +kernel
theorem d_Law_law_222 : decode y_Law_law.2.1 222 = .ok (.iaload, 1) := by decide +kernel
theorem d_Law_law_223 : decode y_Law_law.2.1 223 = .ok (.aload_n 0, 1) := by decide +kernel
theorem d_Law_law_224 : decode y_Law_law.2.1 224 = .ok (.iload_n 3, 1) := by decide +kernel
theorem d_Law_law_225 : decode y_Law_law.2.1 225 = .ok (.iconst 3, 1) := by decide +kernel
theorem d_Law_law_226 : decode y_Law_law.2.1 226 = .ok (.iadd, 1) := by decide +kernel
theorem d_Law_law_227 : decode y_Law_law.2.1 227 = .ok (.iaload, 1) := by decide +kernel
theorem d_Law_law_228 : decode y_Law_law.2.1 228 = .ok (.aload_n 0, 1) := by decide +kernel
theorem d_Law_law_229 : decode y_Law_law.2.1 229 = .ok (.iload_n 3, 1) := by decide +kernel
theorem d_Law_law_230 : decode y_Law_law.2.1 230 = .ok (.iconst 4, 1) := by decide +kernel
theorem d_Law_law_231 : decode y_Law_law.2.1 231 = .ok (.iadd, 1) := by decide +kernel
theorem d_Law_law_232 : decode y_Law_law.2.1 232 = .ok (.iaload, 1) := by decide +kernel
theorem d_Law_law_233 : decode y_Law_law.2.1 233 = .ok (.aload_n 0, 1) := by decide +kernel
theorem d_Law_law_234 : decode y_Law_law.2.1 234 = .ok (.iload_n 3, 1) := by decide +kernel
theorem d_Law_law_235 : decode y_Law_law.2.1 235 = .ok (.iconst 5, 1) := by decide +kernel
theorem d_Law_law_236 : decode y_Law_law.2.1 236 = .ok (.iadd, 1) := by decide +kernel
theorem d_Law_law_237 : decode y_Law_law.2.1 237 = .ok (.iaload, 1) := by decide +kernel
theorem d_Law_law_238 : decode y_Law_law.2.1 238 = .ok (.invokevirtual 13, 3) := by decide +kernel
theorem d_Law_law_241 : decode y_Law_law.2.1 241 = .ok (.aload_n 2, 1) := by decide +kernel
theorem d_Law_law_242 : decode y_Law_law.2.1 242 = .ok (.aload_n 0, 1) := by decide +kernel
theorem d_Law_law_243 : decode y_Law_law.2.1 243 = .ok (.iload_n 3, 1) := by decide +kernel
theorem d_Law_law_244 : decode y_Law_law.2.1 244 = .ok (.iconst 1, 1) := by decide +kernel
theorem d_Law_law_245 : decode y_Law_law.2.1 245 = .ok (.iadd, 1) := by decide +kernel
theorem d_Law_law_246 : decode y_Law_law.2.1 246 = .ok (.iaload, 1) := by decide +kernel
theorem d_Law_law_247 : decode y_Law_law.2.1 247 = .ok (.aload_n 0, 1) := by decide +kernel
theorem d_Law_law_248 : decode y_Law_law.2.1 248 = .ok (.iload_n 3, 1) := by decide +kernel
theorem d_Law_law_249 : decode y_Law_law.2.1 249 = .ok (.iconst 2, 1) := by decide +kernel
theorem d_Law_law_250 : decode y_Law_law.2.1 250 = .ok (.iadd, 1) := by decide +kernel
theorem d_Law_law_251 : decode y_Law_law.2.1 251 = .ok (.iaload, 1) := by decide +kernel
theorem d_Law_law_252 : decode y_Law_law.2.1 252 = .ok (.aload_n 0, 1) := by decide +kernel
theorem d_Law_law_253 : decode y_Law_law.2.1 253 = .ok (.iload_n 3, 1) := by decide +kernel
theorem d_Law_law_254 : decode y_Law_law.2.1 254 = .ok (.iconst 3, 1) := by decide +kernel
theorem d_Law_law_255 : decode y_Law_law.2.1 255 = .ok (.iadd, 1) := by decide +kernel
theorem d_Law_law_256 : decode y_Law_law.2.1 256 = .ok (.iaload, 1) := by decide +kernel
theorem d_Law_law_257 : decode y_Law_law.2.1 257 = .ok (.aload_n 0, 1) := by decide +kernel
theorem d_Law_law_258 : decode y_Law_law.2.1 258 = .ok (.iload_n 3, 1) := by decide +kernel
theorem d_Law_law_259 : decode y_Law_law.2.1 259 = .ok (.iconst 4, 1) := by decide +kernel
theorem d_Law_law_260 : decode y_Law_law.2.1 260 = .ok (.iadd, 1) := by decide +kernel
theorem d_Law_law_261 : decode y_Law_law.2.1 261 = .ok (.iaload, 1) := by decide +kernel
theorem d_Law_law_262 : decode y_Law_law.2.1 262 = .ok (.aload_n 0, 1) := by decide +kernel
theorem d_Law_law_263 : decode y_Law_law.2.1 263 = .ok (.iload_n 3, 1) := by decide +kernel
theorem d_Law_law_264 : decode y_Law_law.2.1 264 = .ok (.iconst 5, 1) := by decide +kernel
theorem d_Law_law_265 : decode y_Law_law.2.1 265 = .ok (.iadd, 1) := by decide +kernel
theorem d_Law_law_266 : decode y_Law_law.2.1 266 = .ok (.iaload, 1) := by decide +kernel
theorem d_Law_law_267 : decode y_Law_law.2.1 267 = .ok (.invokevirtual 17, 3) := by decide +kernel
theorem d_Law_law_270 : decode y_Law_law.2.1 270 = .ok (.if_icmp .eq 1151, 3) := by decide +kernel
theorem d_Law_law_273 : decode y_Law_law.2.1 273 = .ok (.iconst 0, 1) := by decide +kernel
theorem d_Law_law_274 : decode y_Law_law.2.1 274 = .ok (.ireturn, 1) := by decide +kernel
theorem d_Law_law_275 : decode y_Law_law.2.1 275 = .ok (.aload_n 1, 1) := by decide +kernel
theorem d_Law_law_276 : decode y_Law_law.2.1 276 = .ok (.aload_n 0, 1) := by decide +kernel
theorem d_Law_law_277 : decode y_Law_law.2.1 277 = .ok (.iload_n 3, 1) := by decide +kernel
theorem d_Law_law_278 : decode y_Law_law.2.1 278 = .ok (.iconst 1, 1) := by decide +kernel
theorem d_Law_law_279 : decode y_Law_law.2.1 279 = .ok (.iadd, 1) := by decide +kernel
theorem d_Law_law_280 : decode y_Law_law.2.1 280 = .ok (.iaload, 1) := by decide +kernel
theorem d_Law_law_281 : decode y_Law_law.2.1 281 = .ok (.invokevirtual 18, 3) := by decide +kernel
theorem d_Law_law_284 : decode y_Law_law.2.1 284 = .ok (.aload_n 2, 1) := by decide +kernel
theorem d_Law_law_285 : decode y_Law_law.2.1 285 = .ok (.aload_n 0, 1) := by decide +kernel
theorem d_Law_law_286 : decode y_Law_law.2.1 286 = .ok (.iload_n 3, 1) := by decide +kernel
theorem d_Law_law_287 : decode y_Law_law.2.1 287 = .ok (.iconst 1, 1) := by decide +kernel
theorem d_Law_law_288 : decode y_Law_law.2.1 288 = .ok (.iadd, 1) := by decide +kernel
theorem d_Law_law_289 : decode y_Law_law.2.1 289 = .ok (.iaload, 1) := by decide +kernel
theorem d_Law_law_290 : decode y_Law_law.2.1 290 = .ok (.invokevirtual 22, 3) := by decide +kernel
theorem d_Law_law_293 : decode y_Law_law.2.1 293 = .ok (.if_icmp .eq 1128, 3) := by decide +kernel
theorem d_Law_law_296 : decode y_Law_law.2.1 296 = .ok (.iconst 0, 1) := by decide +kernel
theorem d_Law_law_297 : decode y_Law_law.2.1 297 = .ok (.ireturn, 1) := by decide +kernel
theorem d_Law_law_298 : decode y_Law_law.2.1 298 = .ok (.aload_n 1, 1) := by decide +kernel
theorem d_Law_law_299 : decode y_Law_law.2.1 299 = .ok (.invokevirtual 23, 3) := by decide +kernel
theorem d_Law_law_302 : decode y_Law_law.2.1 302 = .ok (.aload_n 2, 1) := by decide +kernel
theorem d_Law_law_303 : decode y_Law_law.2.1 303 = .ok (.invokevirtual 27, 3) := by decide +kernel
theorem d_Law_law_306 : decode y_Law_law.2.1 306 = .ok (.if_icmp .eq 1115, 3) := by decide +kernel
theorem d_Law_law_309 : decode y_Law_law.2.1 309 = .ok (.iconst 0, 1) := by decide +kernel
theorem d_Law_law_310 : decode y_Law_law.2.1 310 = .ok (.ireturn, 1) := by decide +kernel
theorem d_Law_law_311 : decode y_Law_law.2.1 311 = .ok (.aload_n 1, 1) := by decide +kernel
theorem d_Law_law_312 : decode y_Law_law.2.1 312 = .ok (.aload_n 0, 1) := by decide +kernel
theorem d_Law_law_313 : decode y_Law_law.2.1 313 = .ok (.iload_n 3, 1) := by decide +kernel
theorem d_Law_law_314 : decode y_Law_law.2.1 314 = .ok (.iconst 1, 1) := by decide +kernel
theorem d_Law_law_315 : decode y_Law_law.2.1 315 = .ok (.iadd, 1) := by decide +kernel
theorem d_Law_law_316 : decode y_Law_law.2.1 316 = .ok (.iaload, 1) := by decide +kernel
theorem d_Law_law_317 : decode y_Law_law.2.1 317 = .ok (.invokevirtual 28, 3) := by decide +kernel
theorem d_Law_law_320 : decode y_Law_law.2.1 320 = .ok (.aload_n 2, 1) := by decide +kernel
theorem d_Law_law_321 : decode y_Law_law.2.1 321 = .ok (.aload_n 0, 1) := by decide +kernel
theorem d_Law_law_322 : decode y_Law_law.2.1 322 = .ok (.iload_n 3, 1) := by decide +kernel
theorem d_Law_law_323 : decode y_Law_law.2.1 323 = .ok (.iconst 1, 1) := by decide +kernel
theorem d_Law_law_324 : decode y_Law_law.2.1 324 = .ok (.iadd, 1) := by decide +kernel
theorem d_Law_law_325 : decode y_Law_law.2.1 325 = .ok (.iaload, 1) := by decide +kernel
theorem d_Law_law_326 : decode y_Law_law.2.1 326 = .ok (.invokevirtual 31, 3) := by decide +kernel
theorem d_Law_law_329 : decode y_Law_law.2.1 329 = .ok (.if_icmp .eq 1092, 3) := by decide +kernel
theorem d_Law_law_332 : decode y_Law_law.2.1 332 = .ok (.iconst 0, 1) := by decide +kernel
theorem d_Law_law_333 : decode y_Law_law.2.1 333 = .ok (.ireturn, 1) := by decide +kernel
theorem d_Law_law_334 : decode y_Law_law.2.1 334 = .ok (.aload_n 1, 1) := by decide +kernel
theorem d_Law_law_335 : decode y_Law_law.2.1 335 = .ok (.aload_n 0, 1) := by decide +kernel
theorem d_Law_law_336 : decode y_Law_law.2.1 336 = .ok (.iload_n 3, 1) := by decide +kernel
theorem d_Law_law_337 : decode y_Law_law.2.1 337 = .ok (.iconst 1, 1) := by decide +kernel
theorem d_Law_law_338 : decode y_Law_law.2.1 338 = .ok (.iadd, 1) := by decide +kernel
theorem d_Law_law_339 : decode y_Law_law.2.1 339 = .ok (.iaload, 1) := by decide +kernel
theorem d_Law_law_340 : decode y_Law_law.2.1 340 = .ok (.aload_n 0, 1) := by decide +kernel
theorem d_Law_law_341 : decode y_Law_law.2.1 341 = .ok (.iload_n 3, 1) := by decide +kernel
theorem d_Law_law_342 : decode y_Law_law.2.1 342 = .ok (.iconst 2, 1) := by decide +kernel
theorem d_Law_law_343 : decode y_Law_law.2.1 343 = .ok (.iadd, 1) := by decide +kernel
theorem d_Law_law_344 : decode y_Law_law.2.1 344 = .ok (.iaload, 1) := by decide +kernel
theorem d_Law_law_345 : decode y_Law_law.2.1 345 = .ok (.invokevirtual 32, 3) := by decide +kernel
theorem d_Law_law_348 : decode y_Law_law.2.1 348 = .ok (.aload_n 2, 1) := by decide +kernel
theorem d_Law_law_349 : decode y_Law_law.2.1 349 = .ok (.aload_n 0, 1) := by decide +kernel
theorem d_Law_law_350 : decode y_Law_law.2.1 350 = .ok (.iload_n 3, 1) := by decide +kernel
theorem d_Law_law_351 : decode y_Law_law.2.1 351 = .ok (.iconst 1, 1) := by decide +kernel
theorem d_Law_law_352 : decode y_Law_law.2.1 352 = .ok (.iadd, 1) := by decide +kernel
theorem d_Law_law_353 : decode y_Law_law.2.1 353 = .ok (.iaload, 1) := by decide +kernel
theorem d_Law_law_354 : decode y_Law_law.2.1 354 = .ok (.aload_n 0, 1) := by decide +kernel
theorem d_Law_law_355 : decode y_Law_law.2.1 355 = .ok (.iload_n 3, 1) := by decide +kernel
theorem d_Law_law_356 : decode y_Law_law.2.1 356 = .ok (.iconst 2, 1) := by decide +kernel
theorem d_Law_law_357 : decode y_Law_law.2.1 357 = .ok (.iadd, 1) := by decide +kernel
theorem d_Law_law_358 : decode y_Law_law.2.1 358 = .ok (.iaload, 1) := by decide +kernel
theorem d_Law_law_359 : decode y_Law_law.2.1 359 = .ok (.invokevirtual 36, 3) := by decide +kernel
theorem d_Law_law_362 : decode y_Law_law.2.1 362 = .ok (.if_icmp .eq 1059, 3) := by decide +kernel
theorem d_Law_law_365 : decode y_Law_law.2.1 365 = .ok (.iconst 0, 1) := by decide +kernel
theorem d_Law_law_366 : decode y_Law_law.2.1 366 = .ok (.ireturn, 1) := by decide +kernel
theorem d_Law_law_367 : decode y_Law_law.2.1 367 = .ok (.aload_n 1, 1) := by decide +kernel
theorem d_Law_law_368 : decode y_Law_law.2.1 368 = .ok (.invokevirtual 37, 3) := by decide +kernel
theorem d_Law_law_371 : decode y_Law_law.2.1 371 = .ok (.aload_n 2, 1) := by decide +kernel
theorem d_Law_law_372 : decode y_Law_law.2.1 372 = .ok (.invokevirtual 40, 3) := by decide +kernel
theorem d_Law_law_375 : decode y_Law_law.2.1 375 = .ok (.if_icmp .eq 1046, 3) := by decide +kernel
theorem d_Law_law_378 : decode y_Law_law.2.1 378 = .ok (.iconst 0, 1) := by decide +kernel
theorem d_Law_law_379 : decode y_Law_law.2.1 379 = .ok (.ireturn, 1) := by decide +kernel
theorem d_Law_law_380 : decode y_Law_law.2.1 380 = .ok (.aload_n 1, 1) := by decide +kernel
theorem d_Law_law_381 : decode y_Law_law.2.1 381 = .ok (.aload_n 0, 1) := by decide +kernel
theorem d_Law_law_382 : decode y_Law_law.2.1 382 = .ok (.iload_n 3, 1) := by decide +kernel
theorem d_Law_law_383 : decode y_Law_law.2.1 383 = .ok (.iconst 1, 1) := by decide +kernel
theorem d_Law_law_384 : decode y_Law_law.2.1 384 = .ok (.iadd, 1) := by decide +kernel
theorem d_Law_law_385 : decode y_Law_law.2.1 385 = .ok (.iaload, 1) := by decide +kernel
theorem d_Law_law_386 : decode y_Law_law.2.1 386 = .ok (.aload_n 0, 1) := by decide +kernel
theorem d_Law_law_387 : decode y_Law_law.2.1 387 = .ok (.iload_n 3, 1) := by decide +kernel
theorem d_Law_law_388 : decode y_Law_law.2.1 388 = .ok (.iconst 2, 1) := by decide +kernel
theorem d_Law_law_389 : decode y_Law_law.2.1 389 = .ok (.iadd, 1) := by decide +kernel
theorem d_Law_law_390 : decode y_Law_law.2.1 390 = .ok (.iaload, 1) := by decide +kernel
theorem d_Law_law_391 : decode y_Law_law.2.1 391 = .ok (.invokevirtual 41, 3) := by decide +kernel
theorem d_Law_law_394 : decode y_Law_law.2.1 394 = .ok (.aload_n 2, 1) := by decide +kernel
theorem d_Law_law_395 : decode y_Law_law.2.1 395 = .ok (.aload_n 0, 1) := by decide +kernel
theorem d_Law_law_396 : decode y_Law_law.2.1 396 = .ok (.iload_n 3, 1) := by decide +kernel
theorem d_Law_law_397 : decode y_Law_law.2.1 397 = .ok (.iconst 1, 1) := by decide +kernel
theorem d_Law_law_398 : decode y_Law_law.2.1 398 = .ok (.iadd, 1) := by decide +kernel
theorem d_Law_law_399 : decode y_Law_law.2.1 399 = .ok (.iaload, 1) := by decide +kernel
theorem d_Law_law_400 : decode y_Law_law.2.1 400 = .ok (.aload_n 0, 1) := by decide +kernel
theorem d_Law_law_401 : decode y_Law_law.2.1 401 = .ok (.iload_n 3, 1) := by decide +kernel
theorem d_Law_law_402 : decode y_Law_law.2.1 402 = .ok (.iconst 2, 1) := by decide +kernel
theorem d_Law_law_403 : decode y_Law_law.2.1 403 = .ok (.iadd, 1) := by decide +kernel
theorem d_Law_law_404 : decode y_Law_law.2.1 404 = .ok (.iaload, 1) := by decide +kernel
theorem d_Law_law_405 : decode y_Law_law.2.1 405 = .ok (.invokevirtual 44, 3) := by decide +kernel
theorem d_Law_law_408 : decode y_Law_law.2.1 408 = .ok (.if_icmp .eq 1013, 3) := by decide +kernel
theorem d_Law_law_411 : decode y_Law_law.2.1 411 = .ok (.iconst 0, 1) := by decide +kernel
theorem d_Law_law_412 : decode y_Law_law.2.1 412 = .ok (.ireturn, 1) := by decide +kernel
theorem d_Law_law_413 : decode y_Law_law.2.1 413 = .ok (.aload_n 1, 1) := by decide +kernel
theorem d_Law_law_414 : decode y_Law_law.2.1 414 = .ok (.aload_n 0, 1) := by decide +kernel
theorem d_Law_law_415 : decode y_Law_law.2.1 415 = .ok (.iload_n 3, 1) := by decide +kernel
theorem d_Law_law_416 : decode y_Law_law.2.1 416 = .ok (.iconst 1, 1) := by decide +kernel
theorem d_Law_law_417 : decode y_Law_law.2.1 417 = .ok (.iadd, 1) := by decide +kernel
theorem d_Law_law_418 : decode y_Law_law.2.1 418 = .ok (.iaload, 1) := by decide +kernel
theorem d_Law_law_419 : decode y_Law_law.2.1 419 = .ok (.invokevirtual 45, 3) := by decide +kernel
theorem d_Law_law_422 : decode y_Law_law.2.1 422 = .ok (.aload_n 2, 1) := by decide +kernel
theorem d_Law_law_423 : decode y_Law_law.2.1 423 = .ok (.aload_n 0, 1) := by decide +kernel
theorem d_Law_law_424 : decode y_Law_law.2.1 424 = .ok (.iload_n 3, 1) := by decide +kernel
theorem d_Law_law_425 : decode y_Law_law.2.1 425 = .ok (.iconst 1, 1) := by decide +kernel
theorem d_Law_law_426 : decode y_Law_law.2.1 426 = .ok (.iadd, 1) := by decide +kernel
theorem d_Law_law_427 : decode y_Law_law.2.1 427 = .ok (.iaload, 1) := by decide +kernel
theorem d_Law_law_428 : decode y_Law_law.2.1 428 = .ok (.invokevirtual 48, 3) := by decide +kernel
theorem d_Law_law_431 : decode y_Law_law.2.1 431 = .ok (.if_icmp .eq 990, 3) := by decide +kernel
theorem d_Law_law_434 : decode y_Law_law.2.1 434 = .ok (.iconst 0, 1) := by decide +kernel
theorem d_Law_law_435 : decode y_Law_law.2.1 435 = .ok (.ireturn, 1) := by decide +kernel
theorem d_Law_law_436 : decode y_Law_law.2.1 436 = .ok (.aload_n 1, 1) := by decide +kernel
theorem d_Law_law_437 : decode y_Law_law.2.1 437 = .ok (.invokevirtual 49, 3) := by decide +kernel
theorem d_Law_law_440 : decode y_Law_law.2.1 440 = .ok (.aload_n 2, 1) := by decide +kernel
theorem d_Law_law_441 : decode y_Law_law.2.1 441 = .ok (.invokevirtual 52, 3) := by decide +kernel
theorem d_Law_law_444 : decode y_Law_law.2.1 444 = .ok (.if_icmp .eq 977, 3) := by decide +kernel
theorem d_Law_law_447 : decode y_Law_law.2.1 447 = .ok (.iconst 0, 1) := by decide +kernel
theorem d_Law_law_448 : decode y_Law_law.2.1 448 = .ok (.ireturn, 1) := by decide +kernel
theorem d_Law_law_449 : decode y_Law_law.2.1 449 = .ok (.aload_n 1, 1) := by decide +kernel
theorem d_Law_law_450 : decode y_Law_law.2.1 450 = .ok (.aload_n 0, 1) := by decide +kernel
theorem d_Law_law_451 : decode y_Law_law.2.1 451 = .ok (.iload_n 3, 1) := by decide +kernel
theorem d_Law_law_452 : decode y_Law_law.2.1 452 = .ok (.iconst 1, 1) := by decide +kernel
theorem d_Law_law_453 : decode y_Law_law.2.1 453 = .ok (.iadd, 1) := by decide +kernel
theorem d_Law_law_454 : decode y_Law_law.2.1 454 = .ok (.iaload, 1) := by decide +kernel
theorem d_Law_law_455 : decode y_Law_law.2.1 455 = .ok (.invokevirtual 53, 3) := by decide +kernel
theorem d_Law_law_458 : decode y_Law_law.2.1 458 = .ok (.aload_n 2, 1) := by decide +kernel
theorem d_Law_law_459 : decode y_Law_law.2.1 459 = .ok (.aload_n 0, 1) := by decide +kernel
theorem d_Law_law_460 : decode y_Law_law.2.1 460 = .ok (.iload_n 3, 1) := by decide +kernel
theorem d_Law_law_461 : decode y_Law_law.2.1 461 = .ok (.iconst 1, 1) := by decide +kernel
theorem d_Law_law_462 : decode y_Law_law.2.1 462 = .ok (.iadd, 1) := by decide +kernel
theorem d_Law_law_463 : decode y_Law_law.2.1 463 = .ok (.iaload, 1) := by decide +kernel
theorem d_Law_law_464 : decode y_Law_law.2.1 464 = .ok (.invokevirtual 56, 3) := by decide +kernel
theorem d_Law_law_467 : decode y_Law_law.2.1 467 = .ok (.if_icmp .eq 954, 3) := by decide +kernel
theorem d_Law_law_470 : decode y_Law_law.2.1 470 = .ok (.iconst 0, 1) := by decide +kernel
theorem d_Law_law_471 : decode y_Law_law.2.1 471 = .ok (.ireturn, 1) := by decide +kernel
theorem d_Law_law_472 : decode y_Law_law.2.1 472 = .ok (.aload_n 1, 1) := by decide +kernel
theorem d_Law_law_473 : decode y_Law_law.2.1 473 = .ok (.aload_n 0, 1) := by decide +kernel
theorem d_Law_law_474 : decode y_Law_law.2.1 474 = .ok (.iload_n 3, 1) := by decide +kernel
theorem d_Law_law_475 : decode y_Law_law.2.1 475 = .ok (.iconst 1, 1) := by decide +kernel
theorem d_Law_law_476 : decode y_Law_law.2.1 476 = .ok (.iadd, 1) := by decide +kernel
theorem d_Law_law_477 : decode y_Law_law.2.1 477 = .ok (.iaload, 1) := by decide +kernel
theorem d_Law_law_478 : decode y_Law_law.2.1 478 = .ok (.aload_n 0, 1) := by decide +kernel
theorem d_Law_law_479 : decode y_Law_law.2.1 479 = .ok (.iload_n 3, 1) := by decide +kernel
theorem d_Law_law_480 : decode y_Law_law.2.1 480 = .ok (.iconst 2, 1) := by decide +kernel
theorem d_Law_law_481 : decode y_Law_law.2.1 481 = .ok (.iadd, 1) := by decide +kernel
theorem d_Law_law_482 : decode y_Law_law.2.1 482 = .ok (.iaload, 1) := by decide +kernel
theorem d_Law_law_483 : decode y_Law_law.2.1 483 = .ok (.aload_n 0, 1) := by decide +kernel
theorem d_Law_law_484 : decode y_Law_law.2.1 484 = .ok (.iload_n 3, 1) := by decide +kernel
theorem d_Law_law_485 : decode y_Law_law.2.1 485 = .ok (.iconst 3, 1) := by decide +kernel
theorem d_Law_law_486 : decode y_Law_law.2.1 486 = .ok (.iadd, 1) := by decide +kernel
theorem d_Law_law_487 : decode y_Law_law.2.1 487 = .ok (.iaload, 1) := by decide +kernel
theorem d_Law_law_488 : decode y_Law_law.2.1 488 = .ok (.invokevirtual 57, 3) := by decide +kernel
theorem d_Law_law_491 : decode y_Law_law.2.1 491 = .ok (.aload_n 2, 1) := by decide +kernel
theorem d_Law_law_492 : decode y_Law_law.2.1 492 = .ok (.aload_n 0, 1) := by decide +kernel
theorem d_Law_law_493 : decode y_Law_law.2.1 493 = .ok (.iload_n 3, 1) := by decide +kernel
theorem d_Law_law_494 : decode y_Law_law.2.1 494 = .ok (.iconst 1, 1) := by decide +kernel
theorem d_Law_law_495 : decode y_Law_law.2.1 495 = .ok (.iadd, 1) := by decide +kernel
theorem d_Law_law_496 : decode y_Law_law.2.1 496 = .ok (.iaload, 1) := by decide +kernel
theorem d_Law_law_497 : decode y_Law_law.2.1 497 = .ok (.aload_n 0, 1) := by decide +kernel
theorem d_Law_law_498 : decode y_Law_law.2.1 498 = .ok (.iload_n 3, 1) := by decide +kernel
theorem d_Law_law_499 : decode y_Law_law.2.1 499 = .ok (.iconst 2, 1) := by decide +kernel
theorem d_Law_law_500 : decode y_Law_law.2.1 500 = .ok (.iadd, 1) := by decide +kernel
theorem d_Law_law_501 : decode y_Law_law.2.1 501 = .ok (.iaload, 1) := by decide +kernel
theorem d_Law_law_502 : decode y_Law_law.2.1 502 = .ok (.aload_n 0, 1) := by decide +kernel
theorem d_Law_law_503 : decode y_Law_law.2.1 503 = .ok (.iload_n 3, 1) := by decide +kernel
theorem d_Law_law_504 : decode y_Law_law.2.1 504 = .ok (.iconst 3, 1) := by decide +kernel
theorem d_Law_law_505 : decode y_Law_law.2.1 505 = .ok (.iadd, 1) := by decide +kernel
theorem d_Law_law_506 : decode y_Law_law.2.1 506 = .ok (.iaload, 1) := by decide +kernel
theorem d_Law_law_507 : decode y_Law_law.2.1 507 = .ok (.invokevirtual 61, 3) := by decide +kernel
theorem d_Law_law_510 : decode y_Law_law.2.1 510 = .ok (.if_icmp .eq 911, 3) := by decide +kernel
theorem d_Law_law_513 : decode y_Law_law.2.1 513 = .ok (.iconst 0, 1) := by decide +kernel
theorem d_Law_law_514 : decode y_Law_law.2.1 514 = .ok (.ireturn, 1) := by decide +kernel
theorem d_Law_law_515 : decode y_Law_law.2.1 515 = .ok (.aload_n 1, 1) := by decide +kernel
theorem d_Law_law_516 : decode y_Law_law.2.1 516 = .ok (.aload_n 0, 1) := by decide +kernel
theorem d_Law_law_517 : decode y_Law_law.2.1 517 = .ok (.iload_n 3, 1) := by decide +kernel
theorem d_Law_law_518 : decode y_Law_law.2.1 518 = .ok (.iconst 1, 1) := by decide +kernel
theorem d_Law_law_519 : decode y_Law_law.2.1 519 = .ok (.iadd, 1) := by decide +kernel
theorem d_Law_law_520 : decode y_Law_law.2.1 520 = .ok (.iaload, 1) := by decide +kernel
theorem d_Law_law_521 : decode y_Law_law.2.1 521 = .ok (.aload_n 0, 1) := by decide +kernel
theorem d_Law_law_522 : decode y_Law_law.2.1 522 = .ok (.iload_n 3, 1) := by decide +kernel
theorem d_Law_law_523 : decode y_Law_law.2.1 523 = .ok (.iconst 2, 1) := by decide +kernel
theorem d_Law_law_524 : decode y_Law_law.2.1 524 = .ok (.iadd, 1) := by decide +kernel
theorem d_Law_law_525 : decode y_Law_law.2.1 525 = .ok (.iaload, 1) := by decide +kernel
theorem d_Law_law_526 : decode y_Law_law.2.1 526 = .ok (.invokevirtual 62, 3) := by decide +kernel
theorem d_Law_law_529 : decode y_Law_law.2.1 529 = .ok (.aload_n 2, 1) := by decide +kernel
theorem d_Law_law_530 : decode y_Law_law.2.1 530 = .ok (.aload_n 0, 1) := by decide +kernel
theorem d_Law_law_531 : decode y_Law_law.2.1 531 = .ok (.iload_n 3, 1) := by decide +kernel
theorem d_Law_law_532 : decode y_Law_law.2.1 532 = .ok (.iconst 1, 1) := by decide +kernel
theorem d_Law_law_533 : decode y_Law_law.2.1 533 = .ok (.iadd, 1) := by decide +kernel
theorem d_Law_law_534 : decode y_Law_law.2.1 534 = .ok (.iaload, 1) := by decide +kernel
theorem d_Law_law_535 : decode y_Law_law.2.1 535 = .ok (.aload_n 0, 1) := by decide +kernel
theorem d_Law_law_536 : decode y_Law_law.2.1 536 = .ok (.iload_n 3, 1) := by decide +kernel
theorem d_Law_law_537 : decode y_Law_law.2.1 537 = .ok (.iconst 2, 1) := by decide +kernel
theorem d_Law_law_538 : decode y_Law_law.2.1 538 = .ok (.iadd, 1) := by decide +kernel
theorem d_Law_law_539 : decode y_Law_law.2.1 539 = .ok (.iaload, 1) := by decide +kernel
theorem d_Law_law_540 : decode y_Law_law.2.1 540 = .ok (.invokevirtual 65, 3) := by decide +kernel
theorem d_Law_law_543 : decode y_Law_law.2.1 543 = .ok (.if_icmp .eq 878, 3) := by decide +kernel
theorem d_Law_law_546 : decode y_Law_law.2.1 546 = .ok (.iconst 0, 1) := by decide +kernel
theorem d_Law_law_547 : decode y_Law_law.2.1 547 = .ok (.ireturn, 1) := by decide +kernel
theorem d_Law_law_548 : decode y_Law_law.2.1 548 = .ok (.aload_n 1, 1) := by decide +kernel
theorem d_Law_law_549 : decode y_Law_law.2.1 549 = .ok (.aload_n 0, 1) := by decide +kernel
theorem d_Law_law_550 : decode y_Law_law.2.1 550 = .ok (.iload_n 3, 1) := by decide +kernel
theorem d_Law_law_551 : decode y_Law_law.2.1 551 = .ok (.iconst 1, 1) := by decide +kernel
theorem d_Law_law_552 : decode y_Law_law.2.1 552 = .ok (.iadd, 1) := by decide +kernel
theorem d_Law_law_553 : decode y_Law_law.2.1 553 = .ok (.iaload, 1) := by decide +kernel
theorem d_Law_law_554 : decode y_Law_law.2.1 554 = .ok (.invokevirtual 66, 3) := by decide +kernel
theorem d_Law_law_557 : decode y_Law_law.2.1 557 = .ok (.aload_n 2, 1) := by decide +kernel
theorem d_Law_law_558 : decode y_Law_law.2.1 558 = .ok (.aload_n 0, 1) := by decide +kernel
theorem d_Law_law_559 : decode y_Law_law.2.1 559 = .ok (.iload_n 3, 1) := by decide +kernel
theorem d_Law_law_560 : decode y_Law_law.2.1 560 = .ok (.iconst 1, 1) := by decide +kernel
theorem d_Law_law_561 : decode y_Law_law.2.1 561 = .ok (.iadd, 1) := by decide +kernel
theorem d_Law_law_562 : decode y_Law_law.2.1 562 = .ok (.iaload, 1) := by decide +kernel
theorem d_Law_law_563 : decode y_Law_law.2.1 563 = .ok (.invokevirtual 69, 3) := by decide +kernel
theorem d_Law_law_566 : decode y_Law_law.2.1 566 = .ok (.if_icmp .eq 855, 3) := by decide +kernel
theorem d_Law_law_569 : decode y_Law_law.2.1 569 = .ok (.iconst 0, 1) := by decide +kernel
theorem d_Law_law_570 : decode y_Law_law.2.1 570 = .ok (.ireturn, 1) := by decide +kernel
theorem d_Law_law_571 : decode y_Law_law.2.1 571 = .ok (.aload_n 1, 1) := by decide +kernel
theorem d_Law_law_572 : decode y_Law_law.2.1 572 = .ok (.invokevirtual 70, 3) := by decide +kernel
theorem d_Law_law_575 : decode y_Law_law.2.1 575 = .ok (.aload_n 2, 1) := by decide +kernel
theorem d_Law_law_576 : decode y_Law_law.2.1 576 = .ok (.invokevirtual 73, 3) := by decide +kernel
theorem d_Law_law_579 : decode y_Law_law.2.1 579 = .ok (.if_icmp .eq 842, 3) := by decide +kernel
theorem d_Law_law_582 : decode y_Law_law.2.1 582 = .ok (.iconst 0, 1) := by decide +kernel
theorem d_Law_law_583 : decode y_Law_law.2.1 583 = .ok (.ireturn, 1) := by decide +kernel
theorem d_Law_law_584 : decode y_Law_law.2.1 584 = .ok (.aload_n 1, 1) := by decide +kernel
theorem d_Law_law_585 : decode y_Law_law.2.1 585 = .ok (.invokevirtual 74, 3) := by decide +kernel
theorem d_Law_law_588 : decode y_Law_law.2.1 588 = .ok (.aload_n 2, 1) := by decide +kernel
theorem d_Law_law_589 : decode y_Law_law.2.1 589 = .ok (.invokevirtual 78, 3) := by decide +kernel
theorem d_Law_law_592 : decode y_Law_law.2.1 592 = .ok (.if_icmp .eq 829, 3) := by decide +kernel
theorem d_Law_law_595 : decode y_Law_law.2.1 595 = .ok (.iconst 0, 1) := by decide +kernel
theorem d_Law_law_596 : decode y_Law_law.2.1 596 = .ok (.ireturn, 1) := by decide +kernel
theorem d_Law_law_597 : decode y_Law_law.2.1 597 = .ok (.aload_n 1, 1) := by decide +kernel
theorem d_Law_law_598 : decode y_Law_law.2.1 598 = .ok (.invokevirtual 79, 3) := by decide +kernel
theorem d_Law_law_601 : decode y_Law_law.2.1 601 = .ok (.aload_n 2, 1) := by decide +kernel
theorem d_Law_law_602 : decode y_Law_law.2.1 602 = .ok (.invokevirtual 82, 3) := by decide +kernel
theorem d_Law_law_605 : decode y_Law_law.2.1 605 = .ok (.if_icmp .eq 816, 3) := by decide +kernel
theorem d_Law_law_608 : decode y_Law_law.2.1 608 = .ok (.iconst 0, 1) := by decide +kernel
theorem d_Law_law_609 : decode y_Law_law.2.1 609 = .ok (.ireturn, 1) := by decide +kernel
theorem d_Law_law_610 : decode y_Law_law.2.1 610 = .ok (.aload_n 1, 1) := by decide +kernel
theorem d_Law_law_611 : decode y_Law_law.2.1 611 = .ok (.aload_n 0, 1) := by decide +kernel
theorem d_Law_law_612 : decode y_Law_law.2.1 612 = .ok (.iload_n 3, 1) := by decide +kernel
theorem d_Law_law_613 : decode y_Law_law.2.1 613 = .ok (.iconst 1, 1) := by decide +kernel
theorem d_Law_law_614 : decode y_Law_law.2.1 614 = .ok (.iadd, 1) := by decide +kernel
theorem d_Law_law_615 : decode y_Law_law.2.1 615 = .ok (.iaload, 1) := by decide +kernel
theorem d_Law_law_616 : decode y_Law_law.2.1 616 = .ok (.aload_n 0, 1) := by decide +kernel
theorem d_Law_law_617 : decode y_Law_law.2.1 617 = .ok (.iload_n 3, 1) := by decide +kernel
theorem d_Law_law_618 : decode y_Law_law.2.1 618 = .ok (.iconst 2, 1) := by decide +kernel
theorem d_Law_law_619 : decode y_Law_law.2.1 619 = .ok (.iadd, 1) := by decide +kernel
theorem d_Law_law_620 : decode y_Law_law.2.1 620 = .ok (.iaload, 1) := by decide +kernel
theorem d_Law_law_621 : decode y_Law_law.2.1 621 = .ok (.aload_n 0, 1) := by decide +kernel
theorem d_Law_law_622 : decode y_Law_law.2.1 622 = .ok (.iload_n 3, 1) := by decide +kernel
theorem d_Law_law_623 : decode y_Law_law.2.1 623 = .ok (.iconst 3, 1) := by decide +kernel
theorem d_Law_law_624 : decode y_Law_law.2.1 624 = .ok (.iadd, 1) := by decide +kernel
theorem d_Law_law_625 : decode y_Law_law.2.1 625 = .ok (.iaload, 1) := by decide +kernel
theorem d_Law_law_626 : decode y_Law_law.2.1 626 = .ok (.invokevirtual 83, 3) := by decide +kernel
theorem d_Law_law_629 : decode y_Law_law.2.1 629 = .ok (.aload_n 2, 1) := by decide +kernel
theorem d_Law_law_630 : decode y_Law_law.2.1 630 = .ok (.aload_n 0, 1) := by decide +kernel
theorem d_Law_law_631 : decode y_Law_law.2.1 631 = .ok (.iload_n 3, 1) := by decide +kernel
theorem d_Law_law_632 : decode y_Law_law.2.1 632 = .ok (.iconst 1, 1) := by decide +kernel
theorem d_Law_law_633 : decode y_Law_law.2.1 633 = .ok (.iadd, 1) := by decide +kernel
theorem d_Law_law_634 : decode y_Law_law.2.1 634 = .ok (.iaload, 1) := by decide +kernel
theorem d_Law_law_635 : decode y_Law_law.2.1 635 = .ok (.aload_n 0, 1) := by decide +kernel
theorem d_Law_law_636 : decode y_Law_law.2.1 636 = .ok (.iload_n 3, 1) := by decide +kernel
theorem d_Law_law_637 : decode y_Law_law.2.1 637 = .ok (.iconst 2, 1) := by decide +kernel
theorem d_Law_law_638 : decode y_Law_law.2.1 638 = .ok (.iadd, 1) := by decide +kernel
theorem d_Law_law_639 : decode y_Law_law.2.1 639 = .ok (.iaload, 1) := by decide +kernel
theorem d_Law_law_640 : decode y_Law_law.2.1 640 = .ok (.aload_n 0, 1) := by decide +kernel
theorem d_Law_law_641 : decode y_Law_law.2.1 641 = .ok (.iload_n 3, 1) := by decide +kernel
theorem d_Law_law_642 : decode y_Law_law.2.1 642 = .ok (.iconst 3, 1) := by decide +kernel
theorem d_Law_law_643 : decode y_Law_law.2.1 643 = .ok (.iadd, 1) := by decide +kernel
theorem d_Law_law_644 : decode y_Law_law.2.1 644 = .ok (.iaload, 1) := by decide +kernel
theorem d_Law_law_645 : decode y_Law_law.2.1 645 = .ok (.invokevirtual 86, 3) := by decide +kernel
theorem d_Law_law_648 : decode y_Law_law.2.1 648 = .ok (.if_icmp .eq 773, 3) := by decide +kernel
theorem d_Law_law_651 : decode y_Law_law.2.1 651 = .ok (.iconst 0, 1) := by decide +kernel
theorem d_Law_law_652 : decode y_Law_law.2.1 652 = .ok (.ireturn, 1) := by decide +kernel
theorem d_Law_law_653 : decode y_Law_law.2.1 653 = .ok (.aload_n 1, 1) := by decide +kernel
theorem d_Law_law_654 : decode y_Law_law.2.1 654 = .ok (.aload_n 0, 1) := by decide +kernel
theorem d_Law_law_655 : decode y_Law_law.2.1 655 = .ok (.iload_n 3, 1) := by decide +kernel
theorem d_Law_law_656 : decode y_Law_law.2.1 656 = .ok (.iconst 1, 1) := by decide +kernel
theorem d_Law_law_657 : decode y_Law_law.2.1 657 = .ok (.iadd, 1) := by decide +kernel
theorem d_Law_law_658 : decode y_Law_law.2.1 658 = .ok (.iaload, 1) := by decide +kernel
theorem d_Law_law_659 : decode y_Law_law.2.1 659 = .ok (.aload_n 0, 1) := by decide +kernel
theorem d_Law_law_660 : decode y_Law_law.2.1 660 = .ok (.iload_n 3, 1) := by decide +kernel
theorem d_Law_law_661 : decode y_Law_law.2.1 661 = .ok (.iconst 2, 1) := by decide +kernel
theorem d_Law_law_662 : decode y_Law_law.2.1 662 = .ok (.iadd, 1) := by decide +kernel
theorem d_Law_law_663 : decode y_Law_law.2.1 663 = .ok (.iaload, 1) := by decide +kernel
theorem d_Law_law_664 : decode y_Law_law.2.1 664 = .ok (.aload_n 0, 1) := by decide +kernel
theorem d_Law_law_665 : decode y_Law_law.2.1 665 = .ok (.iload_n 3, 1) := by decide +kernel
theorem d_Law_law_666 : decode y_Law_law.2.1 666 = .ok (.iconst 3, 1) := by decide +kernel
theorem d_Law_law_667 : decode y_Law_law.2.1 667 = .ok (.iadd, 1) := by decide +kernel
theorem d_Law_law_668 : decode y_Law_law.2.1 668 = .ok (.iaload, 1) := by decide +kernel
theorem d_Law_law_669 : decode y_Law_law.2.1 669 = .ok (.invokevirtual 87, 3) := by decide +kernel
theorem d_Law_law_672 : decode y_Law_law.2.1 672 = .ok (.aload_n 2, 1) := by decide +kernel
theorem d_Law_law_673 : decode y_Law_law.2.1 673 = .ok (.aload_n 0, 1) := by decide +kernel
theorem d_Law_law_674 : decode y_Law_law.2.1 674 = .ok (.iload_n 3, 1) := by decide +kernel
theorem d_Law_law_675 : decode y_Law_law.2.1 675 = .ok (.iconst 1, 1) := by decide +kernel
theorem d_Law_law_676 : decode y_Law_law.2.1 676 = .ok (.iadd, 1) := by decide +kernel
theorem d_Law_law_677 : decode y_Law_law.2.1 677 = .ok (.iaload, 1) := by decide +kernel
theorem d_Law_law_678 : decode y_Law_law.2.1 678 = .ok (.aload_n 0, 1) := by decide +kernel
theorem d_Law_law_679 : decode y_Law_law.2.1 679 = .ok (.iload_n 3, 1) := by decide +kernel
theorem d_Law_law_680 : decode y_Law_law.2.1 680 = .ok (.iconst 2, 1) := by decide +kernel
theorem d_Law_law_681 : decode y_Law_law.2.1 681 = .ok (.iadd, 1) := by decide +kernel
theorem d_Law_law_682 : decode y_Law_law.2.1 682 = .ok (.iaload, 1) := by decide +kernel
theorem d_Law_law_683 : decode y_Law_law.2.1 683 = .ok (.aload_n 0, 1) := by decide +kernel
theorem d_Law_law_684 : decode y_Law_law.2.1 684 = .ok (.iload_n 3, 1) := by decide +kernel
theorem d_Law_law_685 : decode y_Law_law.2.1 685 = .ok (.iconst 3, 1) := by decide +kernel
theorem d_Law_law_686 : decode y_Law_law.2.1 686 = .ok (.iadd, 1) := by decide +kernel
theorem d_Law_law_687 : decode y_Law_law.2.1 687 = .ok (.iaload, 1) := by decide +kernel
theorem d_Law_law_688 : decode y_Law_law.2.1 688 = .ok (.invokevirtual 90, 3) := by decide +kernel
theorem d_Law_law_691 : decode y_Law_law.2.1 691 = .ok (.if_icmp .eq 730, 3) := by decide +kernel
theorem d_Law_law_694 : decode y_Law_law.2.1 694 = .ok (.iconst 0, 1) := by decide +kernel
theorem d_Law_law_695 : decode y_Law_law.2.1 695 = .ok (.ireturn, 1) := by decide +kernel
theorem d_Law_law_696 : decode y_Law_law.2.1 696 = .ok (.aload_n 1, 1) := by decide +kernel
theorem d_Law_law_697 : decode y_Law_law.2.1 697 = .ok (.aload_n 0, 1) := by decide +kernel
theorem d_Law_law_698 : decode y_Law_law.2.1 698 = .ok (.iload_n 3, 1) := by decide +kernel
theorem d_Law_law_699 : decode y_Law_law.2.1 699 = .ok (.iconst 1, 1) := by decide +kernel
theorem d_Law_law_700 : decode y_Law_law.2.1 700 = .ok (.iadd, 1) := by decide +kernel
theorem d_Law_law_701 : decode y_Law_law.2.1 701 = .ok (.iaload, 1) := by decide +kernel
theorem d_Law_law_702 : decode y_Law_law.2.1 702 = .ok (.aload_n 0, 1) := by decide +kernel
theorem d_Law_law_703 : decode y_Law_law.2.1 703 = .ok (.iload_n 3, 1) := by decide +kernel
theorem d_Law_law_704 : decode y_Law_law.2.1 704 = .ok (.iconst 2, 1) := by decide +kernel
theorem d_Law_law_705 : decode y_Law_law.2.1 705 = .ok (.iadd, 1) := by decide +kernel
theorem d_Law_law_706 : decode y_Law_law.2.1 706 = .ok (.iaload, 1) := by decide +kernel
theorem d_Law_law_707 : decode y_Law_law.2.1 707 = .ok (.aload_n 0, 1) := by decide +kernel
theorem d_Law_law_708 : decode y_Law_law.2.1 708 = .ok (.iload_n 3, 1) := by decide +kernel
theorem d_Law_law_709 : decode y_Law_law.2.1 709 = .ok (.iconst 3, 1) := by decide +kernel
theorem d_Law_law_710 : decode y_Law_law.2.1 710 = .ok (.iadd, 1) := by decide +kernel
theorem d_Law_law_711 : decode y_Law_law.2.1 711 = .ok (.iaload, 1) := by decide +kernel
theorem d_Law_law_712 : decode y_Law_law.2.1 712 = .ok (.invokevirtual 91, 3) := by decide +kernel
theorem d_Law_law_715 : decode y_Law_law.2.1 715 = .ok (.aload_n 2, 1) := by decide +kernel
theorem d_Law_law_716 : decode y_Law_law.2.1 716 = .ok (.aload_n 0, 1) := by decide +kernel
theorem d_Law_law_717 : decode y_Law_law.2.1 717 = .ok (.iload_n 3, 1) := by decide +kernel
theorem d_Law_law_718 : decode y_Law_law.2.1 718 = .ok (.iconst 1, 1) := by decide +kernel
theorem d_Law_law_719 : decode y_Law_law.2.1 719 = .ok (.iadd, 1) := by decide +kernel
theorem d_Law_law_720 : decode y_Law_law.2.1 720 = .ok (.iaload, 1) := by decide +kernel
theorem d_Law_law_721 : decode y_Law_law.2.1 721 = .ok (.aload_n 0, 1) := by decide +kernel
theorem d_Law_law_722 : decode y_Law_law.2.1 722 = .ok (.iload_n 3, 1) := by decide +kernel
theorem d_Law_law_723 : decode y_Law_law.2.1 723 = .ok (.iconst 2, 1) := by decide +kernel
theorem d_Law_law_724 : decode y_Law_law.2.1 724 = .ok (.iadd, 1) := by decide +kernel
theorem d_Law_law_725 : decode y_Law_law.2.1 725 = .ok (.iaload, 1) := by decide +kernel
theorem d_Law_law_726 : decode y_Law_law.2.1 726 = .ok (.aload_n 0, 1) := by decide +kernel
theorem d_Law_law_727 : decode y_Law_law.2.1 727 = .ok (.iload_n 3, 1) := by decide +kernel
theorem d_Law_law_728 : decode y_Law_law.2.1 728 = .ok (.iconst 3, 1) := by decide +kernel
theorem d_Law_law_729 : decode y_Law_law.2.1 729 = .ok (.iadd, 1) := by decide +kernel
theorem d_Law_law_730 : decode y_Law_law.2.1 730 = .ok (.iaload, 1) := by decide +kernel
theorem d_Law_law_731 : decode y_Law_law.2.1 731 = .ok (.invokevirtual 94, 3) := by decide +kernel
theorem d_Law_law_734 : decode y_Law_law.2.1 734 = .ok (.if_icmp .eq 687, 3) := by decide +kernel
theorem d_Law_law_737 : decode y_Law_law.2.1 737 = .ok (.iconst 0, 1) := by decide +kernel
theorem d_Law_law_738 : decode y_Law_law.2.1 738 = .ok (.ireturn, 1) := by decide +kernel
theorem d_Law_law_739 : decode y_Law_law.2.1 739 = .ok (.aload_n 1, 1) := by decide +kernel
theorem d_Law_law_740 : decode y_Law_law.2.1 740 = .ok (.aload_n 0, 1) := by decide +kernel
theorem d_Law_law_741 : decode y_Law_law.2.1 741 = .ok (.iload_n 3, 1) := by decide +kernel
theorem d_Law_law_742 : decode y_Law_law.2.1 742 = .ok (.iconst 1, 1) := by decide +kernel
theorem d_Law_law_743 : decode y_Law_law.2.1 743 = .ok (.iadd, 1) := by decide +kernel
theorem d_Law_law_744 : decode y_Law_law.2.1 744 = .ok (.iaload, 1) := by decide +kernel
theorem d_Law_law_745 : decode y_Law_law.2.1 745 = .ok (.aload_n 0, 1) := by decide +kernel
theorem d_Law_law_746 : decode y_Law_law.2.1 746 = .ok (.iload_n 3, 1) := by decide +kernel
theorem d_Law_law_747 : decode y_Law_law.2.1 747 = .ok (.iconst 2, 1) := by decide +kernel
theorem d_Law_law_748 : decode y_Law_law.2.1 748 = .ok (.iadd, 1) := by decide +kernel
theorem d_Law_law_749 : decode y_Law_law.2.1 749 = .ok (.iaload, 1) := by decide +kernel
theorem d_Law_law_750 : decode y_Law_law.2.1 750 = .ok (.aload_n 0, 1) := by decide +kernel
theorem d_Law_law_751 : decode y_Law_law.2.1 751 = .ok (.iload_n 3, 1) := by decide +kernel
theorem d_Law_law_752 : decode y_Law_law.2.1 752 = .ok (.iconst 3, 1) := by decide +kernel
theorem d_Law_law_753 : decode y_Law_law.2.1 753 = .ok (.iadd, 1) := by decide +kernel
theorem d_Law_law_754 : decode y_Law_law.2.1 754 = .ok (.iaload, 1) := by decide +kernel
theorem d_Law_law_755 : decode y_Law_law.2.1 755 = .ok (.aload_n 0, 1) := by decide +kernel
theorem d_Law_law_756 : decode y_Law_law.2.1 756 = .ok (.iload_n 3, 1) := by decide +kernel
theorem d_Law_law_757 : decode y_Law_law.2.1 757 = .ok (.iconst 4, 1) := by decide +kernel
theorem d_Law_law_758 : decode y_Law_law.2.1 758 = .ok (.iadd, 1) := by decide +kernel
theorem d_Law_law_759 : decode y_Law_law.2.1 759 = .ok (.iaload, 1) := by decide +kernel
theorem d_Law_law_760 : decode y_Law_law.2.1 760 = .ok (.invokevirtual 95, 3) := by decide +kernel
theorem d_Law_law_763 : decode y_Law_law.2.1 763 = .ok (.aload_n 2, 1) := by decide +kernel
theorem d_Law_law_764 : decode y_Law_law.2.1 764 = .ok (.aload_n 0, 1) := by decide +kernel
theorem d_Law_law_765 : decode y_Law_law.2.1 765 = .ok (.iload_n 3, 1) := by decide +kernel
theorem d_Law_law_766 : decode y_Law_law.2.1 766 = .ok (.iconst 1, 1) := by decide +kernel
theorem d_Law_law_767 : decode y_Law_law.2.1 767 = .ok (.iadd, 1) := by decide +kernel
theorem d_Law_law_768 : decode y_Law_law.2.1 768 = .ok (.iaload, 1) := by decide +kernel
theorem d_Law_law_769 : decode y_Law_law.2.1 769 = .ok (.aload_n 0, 1) := by decide +kernel
theorem d_Law_law_770 : decode y_Law_law.2.1 770 = .ok (.iload_n 3, 1) := by decide +kernel
theorem d_Law_law_771 : decode y_Law_law.2.1 771 = .ok (.iconst 2, 1) := by decide +kernel
theorem d_Law_law_772 : decode y_Law_law.2.1 772 = .ok (.iadd, 1) := by decide +kernel
theorem d_Law_law_773 : decode y_Law_law.2.1 773 = .ok (.iaload, 1) := by decide +kernel
theorem d_Law_law_774 : decode y_Law_law.2.1 774 = .ok (.aload_n 0, 1) := by decide +kernel
theorem d_Law_law_775 : decode y_Law_law.2.1 775 = .ok (.iload_n 3, 1) := by decide +kernel
theorem d_Law_law_776 : decode y_Law_law.2.1 776 = .ok (.iconst 3, 1) := by decide +kernel
theorem d_Law_law_777 : decode y_Law_law.2.1 777 = .ok (.iadd, 1) := by decide +kernel
theorem d_Law_law_778 : decode y_Law_law.2.1 778 = .ok (.iaload, 1) := by decide +kernel
theorem d_Law_law_779 : decode y_Law_law.2.1 779 = .ok (.aload_n 0, 1) := by decide +kernel
theorem d_Law_law_780 : decode y_Law_law.2.1 780 = .ok (.iload_n 3, 1) := by decide +kernel
theorem d_Law_law_781 : decode y_Law_law.2.1 781 = .ok (.iconst 4, 1) := by decide +kernel
theorem d_Law_law_782 : decode y_Law_law.2.1 782 = .ok (.iadd, 1) := by decide +kernel
theorem d_Law_law_783 : decode y_Law_law.2.1 783 = .ok (.iaload, 1) := by decide +kernel
theorem d_Law_law_784 : decode y_Law_law.2.1 784 = .ok (.invokevirtual 99, 3) := by decide +kernel
theorem d_Law_law_787 : decode y_Law_law.2.1 787 = .ok (.if_icmp .eq 634, 3) := by decide +kernel
theorem d_Law_law_790 : decode y_Law_law.2.1 790 = .ok (.iconst 0, 1) := by decide +kernel
theorem d_Law_law_791 : decode y_Law_law.2.1 791 = .ok (.ireturn, 1) := by decide +kernel
theorem d_Law_law_792 : decode y_Law_law.2.1 792 = .ok (.aload_n 1, 1) := by decide +kernel
theorem d_Law_law_793 : decode y_Law_law.2.1 793 = .ok (.aload_n 0, 1) := by decide +kernel
theorem d_Law_law_794 : decode y_Law_law.2.1 794 = .ok (.iload_n 3, 1) := by decide +kernel
theorem d_Law_law_795 : decode y_Law_law.2.1 795 = .ok (.iconst 1, 1) := by decide +kernel
theorem d_Law_law_796 : decode y_Law_law.2.1 796 = .ok (.iadd, 1) := by decide +kernel
theorem d_Law_law_797 : decode y_Law_law.2.1 797 = .ok (.iaload, 1) := by decide +kernel
theorem d_Law_law_798 : decode y_Law_law.2.1 798 = .ok (.invokevirtual 100, 3) := by decide +kernel
theorem d_Law_law_801 : decode y_Law_law.2.1 801 = .ok (.aload_n 2, 1) := by decide +kernel
theorem d_Law_law_802 : decode y_Law_law.2.1 802 = .ok (.aload_n 0, 1) := by decide +kernel
theorem d_Law_law_803 : decode y_Law_law.2.1 803 = .ok (.iload_n 3, 1) := by decide +kernel
theorem d_Law_law_804 : decode y_Law_law.2.1 804 = .ok (.iconst 1, 1) := by decide +kernel
theorem d_Law_law_805 : decode y_Law_law.2.1 805 = .ok (.iadd, 1) := by decide +kernel
theorem d_Law_law_806 : decode y_Law_law.2.1 806 = .ok (.iaload, 1) := by decide +kernel
theorem d_Law_law_807 : decode y_Law_law.2.1 807 = .ok (.invokevirtual 103, 3) := by decide +kernel
theorem d_Law_law_810 : decode y_Law_law.2.1 810 = .ok (.if_icmp .eq 611, 3) := by decide +kernel
theorem d_Law_law_813 : decode y_Law_law.2.1 813 = .ok (.iconst 0, 1) := by decide +kernel
theorem d_Law_law_814 : decode y_Law_law.2.1 814 = .ok (.ireturn, 1) := by decide +kernel
theorem d_Law_law_815 : decode y_Law_law.2.1 815 = .ok (.aload_n 1, 1) := by decide +kernel
theorem d_Law_law_816 : decode y_Law_law.2.1 816 = .ok (.aload_n 0, 1) := by decide +kernel
theorem d_Law_law_817 : decode y_Law_law.2.1 817 = .ok (.iload_n 3, 1) := by decide +kernel
theorem d_Law_law_818 : decode y_Law_law.2.1 818 = .ok (.iconst 1, 1) := by decide +kernel
theorem d_Law_law_819 : decode y_Law_law.2.1 819 = .ok (.iadd, 1) := by decide +kernel
theorem d_Law_law_820 : decode y_Law_law.2.1 820 = .ok (.iaload, 1) := by decide +kernel
theorem d_Law_law_821 : decode y_Law_law.2.1 821 = .ok (.invokevirtual 104, 3) := by decide +kernel
theorem d_Law_law_824 : decode y_Law_law.2.1 824 = .ok (.aload_n 2, 1) := by decide +kernel
theorem d_Law_law_825 : decode y_Law_law.2.1 825 = .ok (.aload_n 0, 1) := by decide +kernel
theorem d_Law_law_826 : decode y_Law_law.2.1 826 = .ok (.iload_n 3, 1) := by decide +kernel
theorem d_Law_law_827 : decode y_Law_law.2.1 827 = .ok (.iconst 1, 1) := by decide +kernel
theorem d_Law_law_828 : decode y_Law_law.2.1 828 = .ok (.iadd, 1) := by decide +kernel
theorem d_Law_law_829 : decode y_Law_law.2.1 829 = .ok (.iaload, 1) := by decide +kernel
theorem d_Law_law_830 : decode y_Law_law.2.1 830 = .ok (.invokevirtual 107, 3) := by decide +kernel
theorem d_Law_law_833 : decode y_Law_law.2.1 833 = .ok (.if_icmp .eq 588, 3) := by decide +kernel
theorem d_Law_law_836 : decode y_Law_law.2.1 836 = .ok (.iconst 0, 1) := by decide +kernel
theorem d_Law_law_837 : decode y_Law_law.2.1 837 = .ok (.ireturn, 1) := by decide +kernel
theorem d_Law_law_838 : decode y_Law_law.2.1 838 = .ok (.aload_n 1, 1) := by decide +kernel
theorem d_Law_law_839 : decode y_Law_law.2.1 839 = .ok (.aload_n 0, 1) := by decide +kernel
theorem d_Law_law_840 : decode y_Law_law.2.1 840 = .ok (.iload_n 3, 1) := by decide +kernel
theorem d_Law_law_841 : decode y_Law_law.2.1 841 = .ok (.iconst 1, 1) := by decide +kernel
theorem d_Law_law_842 : decode y_Law_law.2.1 842 = .ok (.iadd, 1) := by decide +kernel
theorem d_Law_law_843 : decode y_Law_law.2.1 843 = .ok (.iaload, 1) := by decide +kernel
theorem d_Law_law_844 : decode y_Law_law.2.1 844 = .ok (.invokevirtual 108, 3) := by decide +kernel
theorem d_Law_law_847 : decode y_Law_law.2.1 847 = .ok (.aload_n 2, 1) := by decide +kernel
theorem d_Law_law_848 : decode y_Law_law.2.1 848 = .ok (.aload_n 0, 1) := by decide +kernel
theorem d_Law_law_849 : decode y_Law_law.2.1 849 = .ok (.iload_n 3, 1) := by decide +kernel
theorem d_Law_law_850 : decode y_Law_law.2.1 850 = .ok (.iconst 1, 1) := by decide +kernel
theorem d_Law_law_851 : decode y_Law_law.2.1 851 = .ok (.iadd, 1) := by decide +kernel
theorem d_Law_law_852 : decode y_Law_law.2.1 852 = .ok (.iaload, 1) := by decide +kernel
theorem d_Law_law_853 : decode y_Law_law.2.1 853 = .ok (.invokevirtual 111, 3) := by decide +kernel
theorem d_Law_law_856 : decode y_Law_law.2.1 856 = .ok (.if_icmp .eq 565, 3) := by decide +kernel
theorem d_Law_law_859 : decode y_Law_law.2.1 859 = .ok (.iconst 0, 1) := by decide +kernel
theorem d_Law_law_860 : decode y_Law_law.2.1 860 = .ok (.ireturn, 1) := by decide +kernel
theorem d_Law_law_861 : decode y_Law_law.2.1 861 = .ok (.aload_n 1, 1) := by decide +kernel
theorem d_Law_law_862 : decode y_Law_law.2.1 862 = .ok (.aload_n 0, 1) := by decide +kernel
theorem d_Law_law_863 : decode y_Law_law.2.1 863 = .ok (.iload_n 3, 1) := by decide +kernel
theorem d_Law_law_864 : decode y_Law_law.2.1 864 = .ok (.iconst 1, 1) := by decide +kernel
theorem d_Law_law_865 : decode y_Law_law.2.1 865 = .ok (.iadd, 1) := by decide +kernel
theorem d_Law_law_866 : decode y_Law_law.2.1 866 = .ok (.iaload, 1) := by decide +kernel
theorem d_Law_law_867 : decode y_Law_law.2.1 867 = .ok (.invokevirtual 112, 3) := by decide +kernel
theorem d_Law_law_870 : decode y_Law_law.2.1 870 = .ok (.aload_n 2, 1) := by decide +kernel
theorem d_Law_law_871 : decode y_Law_law.2.1 871 = .ok (.aload_n 0, 1) := by decide +kernel
theorem d_Law_law_872 : decode y_Law_law.2.1 872 = .ok (.iload_n 3, 1) := by decide +kernel
theorem d_Law_law_873 : decode y_Law_law.2.1 873 = .ok (.iconst 1, 1) := by decide +kernel
theorem d_Law_law_874 : decode y_Law_law.2.1 874 = .ok (.iadd, 1) := by decide +kernel
theorem d_Law_law_875 : decode y_Law_law.2.1 875 = .ok (.iaload, 1) := by decide +kernel
theorem d_Law_law_876 : decode y_Law_law.2.1 876 = .ok (.invokevirtual 115, 3) := by decide +kernel
theorem d_Law_law_879 : decode y_Law_law.2.1 879 = .ok (.if_icmp .eq 542, 3) := by decide +kernel
theorem d_Law_law_882 : decode y_Law_law.2.1 882 = .ok (.iconst 0, 1) := by decide +kernel
theorem d_Law_law_883 : decode y_Law_law.2.1 883 = .ok (.ireturn, 1) := by decide +kernel
theorem d_Law_law_884 : decode y_Law_law.2.1 884 = .ok (.aload_n 1, 1) := by decide +kernel
theorem d_Law_law_885 : decode y_Law_law.2.1 885 = .ok (.aload_n 0, 1) := by decide +kernel
theorem d_Law_law_886 : decode y_Law_law.2.1 886 = .ok (.iload_n 3, 1) := by decide +kernel
theorem d_Law_law_887 : decode y_Law_law.2.1 887 = .ok (.iconst 1, 1) := by decide +kernel
theorem d_Law_law_888 : decode y_Law_law.2.1 888 = .ok (.iadd, 1) := by decide +kernel
theorem d_Law_law_889 : decode y_Law_law.2.1 889 = .ok (.iaload, 1) := by decide +kernel
theorem d_Law_law_890 : decode y_Law_law.2.1 890 = .ok (.invokevirtual 116, 3) := by decide +kernel
theorem d_Law_law_893 : decode y_Law_law.2.1 893 = .ok (.aload_n 2, 1) := by decide +kernel
theorem d_Law_law_894 : decode y_Law_law.2.1 894 = .ok (.aload_n 0, 1) := by decide +kernel
theorem d_Law_law_895 : decode y_Law_law.2.1 895 = .ok (.iload_n 3, 1) := by decide +kernel
theorem d_Law_law_896 : decode y_Law_law.2.1 896 = .ok (.iconst 1, 1) := by decide +kernel
theorem d_Law_law_897 : decode y_Law_law.2.1 897 = .ok (.iadd, 1) := by decide +kernel
theorem d_Law_law_898 : decode y_Law_law.2.1 898 = .ok (.iaload, 1) := by decide +kernel
theorem d_Law_law_899 : decode y_Law_law.2.1 899 = .ok (.invokevirtual 119, 3) := by decide +kernel
theorem d_Law_law_902 : decode y_Law_law.2.1 902 = .ok (.if_icmp .eq 519, 3) := by decide +kernel
theorem d_Law_law_905 : decode y_Law_law.2.1 905 = .ok (.iconst 0, 1) := by decide +kernel
theorem d_Law_law_906 : decode y_Law_law.2.1 906 = .ok (.ireturn, 1) := by decide +kernel
theorem d_Law_law_907 : decode y_Law_law.2.1 907 = .ok (.aload_n 1, 1) := by decide +kernel
theorem d_Law_law_908 : decode y_Law_law.2.1 908 = .ok (.aload_n 0, 1) := by decide +kernel
theorem d_Law_law_909 : decode y_Law_law.2.1 909 = .ok (.iload_n 3, 1) := by decide +kernel
theorem d_Law_law_910 : decode y_Law_law.2.1 910 = .ok (.iconst 1, 1) := by decide +kernel
theorem d_Law_law_911 : decode y_Law_law.2.1 911 = .ok (.iadd, 1) := by decide +kernel
theorem d_Law_law_912 : decode y_Law_law.2.1 912 = .ok (.iaload, 1) := by decide +kernel
theorem d_Law_law_913 : decode y_Law_law.2.1 913 = .ok (.aload_n 0, 1) := by decide +kernel
theorem d_Law_law_914 : decode y_Law_law.2.1 914 = .ok (.iload_n 3, 1) := by decide +kernel
theorem d_Law_law_915 : decode y_Law_law.2.1 915 = .ok (.iconst 2, 1) := by decide +kernel
theorem d_Law_law_916 : decode y_Law_law.2.1 916 = .ok (.iadd, 1) := by decide +kernel
theorem d_Law_law_917 : decode y_Law_law.2.1 917 = .ok (.iaload, 1) := by decide +kernel
theorem d_Law_law_918 : decode y_Law_law.2.1 918 = .ok (.aload_n 0, 1) := by decide +kernel
theorem d_Law_law_919 : decode y_Law_law.2.1 919 = .ok (.iload_n 3, 1) := by decide +kernel
theorem d_Law_law_920 : decode y_Law_law.2.1 920 = .ok (.iconst 3, 1) := by decide +kernel
theorem d_Law_law_921 : decode y_Law_law.2.1 921 = .ok (.iadd, 1) := by decide +kernel
theorem d_Law_law_922 : decode y_Law_law.2.1 922 = .ok (.iaload, 1) := by decide +kernel
theorem d_Law_law_923 : decode y_Law_law.2.1 923 = .ok (.aload_n 0, 1) := by decide +kernel
theorem d_Law_law_924 : decode y_Law_law.2.1 924 = .ok (.iload_n 3, 1) := by decide +kernel
theorem d_Law_law_925 : decode y_Law_law.2.1 925 = .ok (.iconst 4, 1) := by decide +kernel
theorem d_Law_law_926 : decode y_Law_law.2.1 926 = .ok (.iadd, 1) := by decide +kernel
theorem d_Law_law_927 : decode y_Law_law.2.1 927 = .ok (.iaload, 1) := by decide +kernel
theorem d_Law_law_928 : decode y_Law_law.2.1 928 = .ok (.invokevirtual 120, 3) := by decide +kernel
theorem d_Law_law_931 : decode y_Law_law.2.1 931 = .ok (.aload_n 2, 1) := by decide +kernel
theorem d_Law_law_932 : decode y_Law_law.2.1 932 = .ok (.aload_n 0, 1) := by decide +kernel
theorem d_Law_law_933 : decode y_Law_law.2.1 933 = .ok (.iload_n 3, 1) := by decide +kernel
theorem d_Law_law_934 : decode y_Law_law.2.1 934 = .ok (.iconst 1, 1) := by decide +kernel
theorem d_Law_law_935 : decode y_Law_law.2.1 935 = .ok (.iadd, 1) := by decide +kernel
theorem d_Law_law_936 : decode y_Law_law.2.1 936 = .ok (.iaload, 1) := by decide +kernel
theorem d_Law_law_937 : decode y_Law_law.2.1 937 = .ok (.aload_n 0, 1) := by decide +kernel
theorem d_Law_law_938 : decode y_Law_law.2.1 938 = .ok (.iload_n 3, 1) := by decide +kernel
theorem d_Law_law_939 : decode y_Law_law.2.1 939 = .ok (.iconst 2, 1) := by decide +kernel
theorem d_Law_law_940 : decode y_Law_law.2.1 940 = .ok (.iadd, 1) := by decide +kernel
theorem d_Law_law_941 : decode y_Law_law.2.1 941 = .ok (.iaload, 1) := by decide +kernel
theorem d_Law_law_942 : decode y_Law_law.2.1 942 = .ok (.aload_n 0, 1) := by decide +kernel
theorem d_Law_law_943 : decode y_Law_law.2.1 943 = .ok (.iload_n 3, 1) := by decide +kernel
theorem d_Law_law_944 : decode y_Law_law.2.1 944 = .ok (.iconst 3, 1) := by decide +kernel
theorem d_Law_law_945 : decode y_Law_law.2.1 945 = .ok (.iadd, 1) := by decide +kernel
theorem d_Law_law_946 : decode y_Law_law.2.1 946 = .ok (.iaload, 1) := by decide +kernel
theorem d_Law_law_947 : decode y_Law_law.2.1 947 = .ok (.aload_n 0, 1) := by decide +kernel
theorem d_Law_law_948 : decode y_Law_law.2.1 948 = .ok (.iload_n 3, 1) := by decide +kernel
theorem d_Law_law_949 : decode y_Law_law.2.1 949 = .ok (.iconst 4, 1) := by decide +kernel
theorem d_Law_law_950 : decode y_Law_law.2.1 950 = .ok (.iadd, 1) := by decide +kernel
theorem d_Law_law_951 : decode y_Law_law.2.1 951 = .ok (.iaload, 1) := by decide +kernel
theorem d_Law_law_952 : decode y_Law_law.2.1 952 = .ok (.invokevirtual 123, 3) := by decide +kernel
theorem d_Law_law_955 : decode y_Law_law.2.1 955 = .ok (.if_icmp .eq 466, 3) := by decide +kernel
theorem d_Law_law_958 : decode y_Law_law.2.1 958 = .ok (.iconst 0, 1) := by decide +kernel
theorem d_Law_law_959 : decode y_Law_law.2.1 959 = .ok (.ireturn, 1) := by decide +kernel
theorem d_Law_law_960 : decode y_Law_law.2.1 960 = .ok (.aload_n 1, 1) := by decide +kernel
theorem d_Law_law_961 : decode y_Law_law.2.1 961 = .ok (.aload_n 0, 1) := by decide +kernel
theorem d_Law_law_962 : decode y_Law_law.2.1 962 = .ok (.iload_n 3, 1) := by decide +kernel
theorem d_Law_law_963 : decode y_Law_law.2.1 963 = .ok (.iconst 1, 1) := by decide +kernel
theorem d_Law_law_964 : decode y_Law_law.2.1 964 = .ok (.iadd, 1) := by decide +kernel
theorem d_Law_law_965 : decode y_Law_law.2.1 965 = .ok (.iaload, 1) := by decide +kernel
theorem d_Law_law_966 : decode y_Law_law.2.1 966 = .ok (.aload_n 0, 1) := by decide +kernel
theorem d_Law_law_967 : decode y_Law_law.2.1 967 = .ok (.iload_n 3, 1) := by decide +kernel
theorem d_Law_law_968 : decode y_Law_law.2.1 968 = .ok (.iconst 2, 1) := by decide +kernel
theorem d_Law_law_969 : decode y_Law_law.2.1 969 = .ok (.iadd, 1) := by decide +kernel
theorem d_Law_law_970 : decode y_Law_law.2.1 970 = .ok (.iaload, 1) := by decide +kernel
theorem d_Law_law_971 : decode y_Law_law.2.1 971 = .ok (.aload_n 0, 1) := by decide +kernel
theorem d_Law_law_972 : decode y_Law_law.2.1 972 = .ok (.iload_n 3, 1) := by decide +kernel
theorem d_Law_law_973 : decode y_Law_law.2.1 973 = .ok (.iconst 3, 1) := by decide +kernel
theorem d_Law_law_974 : decode y_Law_law.2.1 974 = .ok (.iadd, 1) := by decide +kernel
theorem d_Law_law_975 : decode y_Law_law.2.1 975 = .ok (.iaload, 1) := by decide +kernel
theorem d_Law_law_976 : decode y_Law_law.2.1 976 = .ok (.invokevirtual 124, 3) := by decide +kernel
theorem d_Law_law_979 : decode y_Law_law.2.1 979 = .ok (.aload_n 2, 1) := by decide +kernel
theorem d_Law_law_980 : decode y_Law_law.2.1 980 = .ok (.aload_n 0, 1) := by decide +kernel
theorem d_Law_law_981 : decode y_Law_law.2.1 981 = .ok (.iload_n 3, 1) := by decide +kernel
theorem d_Law_law_982 : decode y_Law_law.2.1 982 = .ok (.iconst 1, 1) := by decide +kernel
theorem d_Law_law_983 : decode y_Law_law.2.1 983 = .ok (.iadd, 1) := by decide +kernel
theorem d_Law_law_984 : decode y_Law_law.2.1 984 = .ok (.iaload, 1) := by decide +kernel
theorem d_Law_law_985 : decode y_Law_law.2.1 985 = .ok (.aload_n 0, 1) := by decide +kernel
theorem d_Law_law_986 : decode y_Law_law.2.1 986 = .ok (.iload_n 3, 1) := by decide +kernel
theorem d_Law_law_987 : decode y_Law_law.2.1 987 = .ok (.iconst 2, 1) := by decide +kernel
theorem d_Law_law_988 : decode y_Law_law.2.1 988 = .ok (.iadd, 1) := by decide +kernel
theorem d_Law_law_989 : decode y_Law_law.2.1 989 = .ok (.iaload, 1) := by decide +kernel
theorem d_Law_law_990 : decode y_Law_law.2.1 990 = .ok (.aload_n 0, 1) := by decide +kernel
theorem d_Law_law_991 : decode y_Law_law.2.1 991 = .ok (.iload_n 3, 1) := by decide +kernel
theorem d_Law_law_992 : decode y_Law_law.2.1 992 = .ok (.iconst 3, 1) := by decide +kernel
theorem d_Law_law_993 : decode y_Law_law.2.1 993 = .ok (.iadd, 1) := by decide +kernel
theorem d_Law_law_994 : decode y_Law_law.2.1 994 = .ok (.iaload, 1) := by decide +kernel
theorem d_Law_law_995 : decode y_Law_law.2.1 995 = .ok (.invokevirtual 127, 3) := by decide +kernel
theorem d_Law_law_998 : decode y_Law_law.2.1 998 = .ok (.if_icmp .eq 423, 3) := by decide +kernel
theorem d_Law_law_1001 : decode y_Law_law.2.1 1001 = .ok (.iconst 0, 1) := by decide +kernel
theorem d_Law_law_1002 : decode y_Law_law.2.1 1002 = .ok (.ireturn, 1) := by decide +kernel
theorem d_Law_law_1003 : decode y_Law_law.2.1 1003 = .ok (.aload_n 1, 1) := by decide +kernel
theorem d_Law_law_1004 : decode y_Law_law.2.1 1004 = .ok (.aload_n 0, 1) := by decide +kernel
theorem d_Law_law_1005 : decode y_Law_law.2.1 1005 = .ok (.iload_n 3, 1) := by decide +kernel
theorem d_Law_law_1006 : decode y_Law_law.2.1 1006 = .ok (.iconst 1, 1) := by decide +kernel
theorem d_Law_law_1007 : decode y_Law_law.2.1 1007 = .ok (.iadd, 1) := by decide +kernel
theorem d_Law_law_1008 : decode y_Law_law.2.1 1008 = .ok (.iaload, 1) := by decide +kernel
theorem d_Law_law_1009 : decode y_Law_law.2.1 1009 = .ok (.aload_n 0, 1) := by decide +kernel
theorem d_Law_law_1010 : decode y_Law_law.2.1 1010 = .ok (.iload_n 3, 1) := by decide +kernel
theorem d_Law_law_1011 : decode y_Law_law.2.1 1011 = .ok (.iconst 2, 1) := by decide +kernel
theorem d_Law_law_1012 : decode y_Law_law.2.1 1012 = .ok (.iadd, 1) := by decide +kernel
theorem d_Law_law_1013 : decode y_Law_law.2.1 1013 = .ok (.iaload, 1) := by decide +kernel
theorem d_Law_law_1014 : decode y_Law_law.2.1 1014 = .ok (.aload_n 0, 1) := by decide +kernel
theorem d_Law_law_1015 : decode y_Law_law.2.1 1015 = .ok (.iload_n 3, 1) := by decide +kernel
theorem d_Law_law_1016 : decode y_Law_law.2.1 1016 = .ok (.iconst 3, 1) := by decide +kernel
theorem d_Law_law_1017 : decode y_Law_law.2.1 1017 = .ok (.iadd, 1) := by decide +kernel
theorem d_Law_law_1018 : decode y_Law_law.2.1 1018 = .ok (.iaload, 1) := by decide +kernel
theorem d_Law_law_1019 : decode y_Law_law.2.1 1019 = .ok (.aload_n 0, 1) := by decide +kernel
theorem d_Law_law_1020 : decode y_Law_law.2.1 1020 = .ok (.iload_n 3, 1) := by decide +kernel
theorem d_Law_law_1021 : decode y_Law_law.2.1 1021 = .ok (.iconst 4, 1) := by decide +kernel
theorem d_Law_law_1022 : decode y_Law_law.2.1 1022 = .ok (.iadd, 1) := by decide +kernel
theorem d_Law_law_1023 : decode y_Law_law.2.1 1023 = .ok (.iaload, 1) := by decide +kernel
theorem d_Law_law_1024 : decode y_Law_law.2.1 1024 = .ok (.aload_n 0, 1) := by decide +kernel
theorem d_Law_law_1025 : decode y_Law_law.2.1 1025 = .ok (.iload_n 3, 1) := by decide +kernel
theorem d_Law_law_1026 : decode y_Law_law.2.1 1026 = .ok (.iconst 5, 1) := by decide +kernel
theorem d_Law_law_1027 : decode y_Law_law.2.1 1027 = .ok (.iadd, 1) := by decide +kernel
theorem d_Law_law_1028 : decode y_Law_law.2.1 1028 = .ok (.iaload, 1) := by decide +kernel
theorem d_Law_law_1029 : decode y_Law_law.2.1 1029 = .ok (.invokevirtual 128, 3) := by decide +kernel
theorem d_Law_law_1032 : decode y_Law_law.2.1 1032 = .ok (.aload_n 2, 1) := by decide +kernel
theorem d_Law_law_1033 : decode y_Law_law.2.1 1033 = .ok (.aload_n 0, 1) := by decide +kernel
theorem d_Law_law_1034 : decode y_Law_law.2.1 1034 = .ok (.iload_n 3, 1) := by decide +kernel
theorem d_Law_law_1035 : decode y_Law_law.2.1 1035 = .ok (.iconst 1, 1) := by decide +kernel
theorem d_Law_law_1036 : decode y_Law_law.2.1 1036 = .ok (.iadd, 1) := by decide +kernel
theorem d_Law_law_1037 : decode y_Law_law.2.1 1037 = .ok (.iaload, 1) := by decide +kernel
theorem d_Law_law_1038 : decode y_Law_law.2.1 1038 = .ok (.aload_n 0, 1) := by decide +kernel
theorem d_Law_law_1039 : decode y_Law_law.2.1 1039 = .ok (.iload_n 3, 1) := by decide +kernel
theorem d_Law_law_1040 : decode y_Law_law.2.1 1040 = .ok (.iconst 2, 1) := by decide +kernel
theorem d_Law_law_1041 : decode y_Law_law.2.1 1041 = .ok (.iadd, 1) := by decide +kernel
theorem d_Law_law_1042 : decode y_Law_law.2.1 1042 = .ok (.iaload, 1) := by decide +kernel
theorem d_Law_law_1043 : decode y_Law_law.2.1 1043 = .ok (.aload_n 0, 1) := by decide +kernel
theorem d_Law_law_1044 : decode y_Law_law.2.1 1044 = .ok (.iload_n 3, 1) := by decide +kernel
theorem d_Law_law_1045 : decode y_Law_law.2.1 1045 = .ok (.iconst 3, 1) := by decide +kernel
theorem d_Law_law_1046 : decode y_Law_law.2.1 1046 = .ok (.iadd, 1) := by decide +kernel
theorem d_Law_law_1047 : decode y_Law_law.2.1 1047 = .ok (.iaload, 1) := by decide +kernel
theorem d_Law_law_1048 : decode y_Law_law.2.1 1048 = .ok (.aload_n 0, 1) := by decide +kernel
theorem d_Law_law_1049 : decode y_Law_law.2.1 1049 = .ok (.iload_n 3, 1) := by decide +kernel
theorem d_Law_law_1050 : decode y_Law_law.2.1 1050 = .ok (.iconst 4, 1) := by decide +kernel
theorem d_Law_law_1051 : decode y_Law_law.2.1 1051 = .ok (.iadd, 1) := by decide +kernel
theorem d_Law_law_1052 : decode y_Law_law.2.1 1052 = .ok (.iaload, 1) := by decide +kernel
theorem d_Law_law_1053 : decode y_Law_law.2.1 1053 = .ok (.aload_n 0, 1) := by decide +kernel
theorem d_Law_law_1054 : decode y_Law_law.2.1 1054 = .ok (.iload_n 3, 1) := by decide +kernel
theorem d_Law_law_1055 : decode y_Law_law.2.1 1055 = .ok (.iconst 5, 1) := by decide +kernel
theorem d_Law_law_1056 : decode y_Law_law.2.1 1056 = .ok (.iadd, 1) := by decide +kernel
theorem d_Law_law_1057 : decode y_Law_law.2.1 1057 = .ok (.iaload, 1) := by decide +kernel
theorem d_Law_law_1058 : decode y_Law_law.2.1 1058 = .ok (.invokevirtual 131, 3) := by decide +kernel
theorem d_Law_law_1061 : decode y_Law_law.2.1 1061 = .ok (.if_icmp .eq 360, 3) := by decide +kernel
theorem d_Law_law_1064 : decode y_Law_law.2.1 1064 = .ok (.iconst 0, 1) := by decide +kernel
theorem d_Law_law_1065 : decode y_Law_law.2.1 1065 = .ok (.ireturn, 1) := by decide +kernel
theorem d_Law_law_1066 : decode y_Law_law.2.1 1066 = .ok (.aload_n 1, 1) := by decide +kernel
theorem d_Law_law_1067 : decode y_Law_law.2.1 1067 = .ok (.aload_n 0, 1) := by decide +kernel
theorem d_Law_law_1068 : decode y_Law_law.2.1 1068 = .ok (.iload_n 3, 1) := by decide +kernel
theorem d_Law_law_1069 : decode y_Law_law.2.1 1069 = .ok (.iconst 1, 1) := by decide +kernel
theorem d_Law_law_1070 : decode y_Law_law.2.1 1070 = .ok (.iadd, 1) := by decide +kernel
theorem d_Law_law_1071 : decode y_Law_law.2.1 1071 = .ok (.iaload, 1) := by decide +kernel
theorem d_Law_law_1072 : decode y_Law_law.2.1 1072 = .ok (.invokevirtual 132, 3) := by decide +kernel
theorem d_Law_law_1075 : decode y_Law_law.2.1 1075 = .ok (.aload_n 2, 1) := by decide +kernel
theorem d_Law_law_1076 : decode y_Law_law.2.1 1076 = .ok (.aload_n 0, 1) := by decide +kernel
theorem d_Law_law_1077 : decode y_Law_law.2.1 1077 = .ok (.iload_n 3, 1) := by decide +kernel
theorem d_Law_law_1078 : decode y_Law_law.2.1 1078 = .ok (.iconst 1, 1) := by decide +kernel
theorem d_Law_law_1079 : decode y_Law_law.2.1 1079 = .ok (.iadd, 1) := by decide +kernel
theorem d_Law_law_1080 : decode y_Law_law.2.1 1080 = .ok (.iaload, 1) := by decide +kernel
theorem d_Law_law_1081 : decode y_Law_law.2.1 1081 = .ok (.invokevirtual 135, 3) := by decide +kernel
theorem d_Law_law_1084 : decode y_Law_law.2.1 1084 = .ok (.if_icmp .eq 337, 3) := by decide +kernel
theorem d_Law_law_1087 : decode y_Law_law.2.1 1087 = .ok (.iconst 0, 1) := by decide +kernel
theorem d_Law_law_1088 : decode y_Law_law.2.1 1088 = .ok (.ireturn, 1) := by decide +kernel
theorem d_Law_law_1089 : decode y_Law_law.2.1 1089 = .ok (.aload_n 1, 1) := by decide +kernel
theorem d_Law_law_1090 : decode y_Law_law.2.1 1090 = .ok (.aload_n 0, 1) := by decide +kernel
theorem d_Law_law_1091 : decode y_Law_law.2.1 1091 = .ok (.iload_n 3, 1) := by decide +kernel
theorem d_Law_law_1092 : decode y_Law_law.2.1 1092 = .ok (.iconst 1, 1) := by decide +kernel
theorem d_Law_law_1093 : decode y_Law_law.2.1 1093 = .ok (.iadd, 1) := by decide +kernel
theorem d_Law_law_1094 : decode y_Law_law.2.1 1094 = .ok (.iaload, 1) := by decide +kernel
theorem d_Law_law_1095 : decode y_Law_law.2.1 1095 = .ok (.invokevirtual 136, 3) := by decide +kernel
theorem d_Law_law_1098 : decode y_Law_law.2.1 1098 = .ok (.aload_n 2, 1) := by decide +kernel
theorem d_Law_law_1099 : decode y_Law_law.2.1 1099 = .ok (.aload_n 0, 1) := by decide +kernel
theorem d_Law_law_1100 : decode y_Law_law.2.1 1100 = .ok (.iload_n 3, 1) := by decide +kernel
theorem d_Law_law_1101 : decode y_Law_law.2.1 1101 = .ok (.iconst 1, 1) := by decide +kernel
theorem d_Law_law_1102 : decode y_Law_law.2.1 1102 = .ok (.iadd, 1) := by decide +kernel
theorem d_Law_law_1103 : decode y_Law_law.2.1 1103 = .ok (.iaload, 1) := by decide +kernel
theorem d_Law_law_1104 : decode y_Law_law.2.1 1104 = .ok (.invokevirtual 139, 3) := by decide +kernel
theorem d_Law_law_1107 : decode y_Law_law.2.1 1107 = .ok (.if_icmp .eq 314, 3) := by decide +kernel
theorem d_Law_law_1110 : decode y_Law_law.2.1 1110 = .ok (.iconst 0, 1) := by decide +kernel
theorem d_Law_law_1111 : decode y_Law_law.2.1 1111 = .ok (.ireturn, 1) := by decide +kernel
theorem d_Law_law_1112 : decode y_Law_law.2.1 1112 = .ok (.aload_n 1, 1) := by decide +kernel
theorem d_Law_law_1113 : decode y_Law_law.2.1 1113 = .ok (.aload_n 0, 1) := by decide +kernel
theorem d_Law_law_1114 : decode y_Law_law.2.1 1114 = .ok (.iload_n 3, 1) := by decide +kernel
theorem d_Law_law_1115 : decode y_Law_law.2.1 1115 = .ok (.iconst 1, 1) := by decide +kernel
theorem d_Law_law_1116 : decode y_Law_law.2.1 1116 = .ok (.iadd, 1) := by decide +kernel
theorem d_Law_law_1117 : decode y_Law_law.2.1 1117 = .ok (.iaload, 1) := by decide +kernel
theorem d_Law_law_1118 : decode y_Law_law.2.1 1118 = .ok (.invokevirtual 140, 3) := by decide +kernel
theorem d_Law_law_1121 : decode y_Law_law.2.1 1121 = .ok (.aload_n 2, 1) := by decide +kernel
theorem d_Law_law_1122 : decode y_Law_law.2.1 1122 = .ok (.aload_n 0, 1) := by decide +kernel
theorem d_Law_law_1123 : decode y_Law_law.2.1 1123 = .ok (.iload_n 3, 1) := by decide +kernel
theorem d_Law_law_1124 : decode y_Law_law.2.1 1124 = .ok (.iconst 1, 1) := by decide +kernel
theorem d_Law_law_1125 : decode y_Law_law.2.1 1125 = .ok (.iadd, 1) := by decide +kernel
theorem d_Law_law_1126 : decode y_Law_law.2.1 1126 = .ok (.iaload, 1) := by decide +kernel
theorem d_Law_law_1127 : decode y_Law_law.2.1 1127 = .ok (.invokevirtual 143, 3) := by decide +kernel
theorem d_Law_law_1130 : decode y_Law_law.2.1 1130 = .ok (.if_icmp .eq 291, 3) := by decide +kernel
theorem d_Law_law_1133 : decode y_Law_law.2.1 1133 = .ok (.iconst 0, 1) := by decide +kernel
theorem d_Law_law_1134 : decode y_Law_law.2.1 1134 = .ok (.ireturn, 1) := by decide +kernel
theorem d_Law_law_1135 : decode y_Law_law.2.1 1135 = .ok (.aload_n 1, 1) := by decide +kernel
theorem d_Law_law_1136 : decode y_Law_law.2.1 1136 = .ok (.aload_n 0, 1) := by decide +kernel
theorem d_Law_law_1137 : decode y_Law_law.2.1 1137 = .ok (.iload_n 3, 1) := by decide +kernel
theorem d_Law_law_1138 : decode y_Law_law.2.1 1138 = .ok (.iconst 1, 1) := by decide +kernel
theorem d_Law_law_1139 : decode y_Law_law.2.1 1139 = .ok (.iadd, 1) := by decide +kernel
theorem d_Law_law_1140 : decode y_Law_law.2.1 1140 = .ok (.iaload, 1) := by decide +kernel
theorem d_Law_law_1141 : decode y_Law_law.2.1 1141 = .ok (.invokevirtual 144, 3) := by decide +kernel
theorem d_Law_law_1144 : decode y_Law_law.2.1 1144 = .ok (.aload_n 2, 1) := by decide +kernel
theorem d_Law_law_1145 : decode y_Law_law.2.1 1145 = .ok (.aload_n 0, 1) := by decide +kernel
theorem d_Law_law_1146 : decode y_Law_law.2.1 1146 = .ok (.iload_n 3, 1) := by decide +kernel
theorem d_Law_law_1147 : decode y_Law_law.2.1 1147 = .ok (.iconst 1, 1) := by decide +kernel
theorem d_Law_law_1148 : decode y_Law_law.2.1 1148 = .ok (.iadd, 1) := by decide +kernel
theorem d_Law_law_1149 : decode y_Law_law.2.1 1149 = .ok (.iaload, 1) := by decide +kernel
theorem d_Law_law_1150 : decode y_Law_law.2.1 1150 = .ok (.invokevirtual 147, 3) := by decide +kernel
theorem d_Law_law_1153 : decode y_Law_law.2.1 1153 = .ok (.if_icmp .eq 268, 3) := by decide +kernel
theorem d_Law_law_1156 : decode y_Law_law.2.1 1156 = .ok (.iconst 0, 1) := by decide +kernel
theorem d_Law_law_1157 : decode y_Law_law.2.1 1157 = .ok (.ireturn, 1) := by decide +kernel
theorem d_Law_law_1158 : decode y_Law_law.2.1 1158 = .ok (.aload_n 1, 1) := by decide +kernel
theorem d_Law_law_1159 : decode y_Law_law.2.1 1159 = .ok (.aload_n 0, 1) := by decide +kernel
theorem d_Law_law_1160 : decode y_Law_law.2.1 1160 = .ok (.iload_n 3, 1) := by decide +kernel
theorem d_Law_law_1161 : decode y_Law_law.2.1 1161 = .ok (.iconst 1, 1) := by decide +kernel
theorem d_Law_law_1162 : decode y_Law_law.2.1 1162 = .ok (.iadd, 1) := by decide +kernel
theorem d_Law_law_1163 : decode y_Law_law.2.1 1163 = .ok (.iaload, 1) := by decide +kernel
theorem d_Law_law_1164 : decode y_Law_law.2.1 1164 = .ok (.aload_n 0, 1) := by decide +kernel
theorem d_Law_law_1165 : decode y_Law_law.2.1 1165 = .ok (.iload_n 3, 1) := by decide +kernel
theorem d_Law_law_1166 : decode y_Law_law.2.1 1166 = .ok (.iconst 2, 1) := by decide +kernel
theorem d_Law_law_1167 : decode y_Law_law.2.1 1167 = .ok (.iadd, 1) := by decide +kernel
theorem d_Law_law_1168 : decode y_Law_law.2.1 1168 = .ok (.iaload, 1) := by decide +kernel
theorem d_Law_law_1169 : decode y_Law_law.2.1 1169 = .ok (.aload_n 0, 1) := by decide +kernel
theorem d_Law_law_1170 : decode y_Law_law.2.1 1170 = .ok (.iload_n 3, 1) := by decide +kernel
theorem d_Law_law_1171 : decode y_Law_law.2.1 1171 = .ok (.iconst 3, 1) := by decide +kernel
theorem d_Law_law_1172 : decode y_Law_law.2.1 1172 = .ok (.iadd, 1) := by decide +kernel
theorem d_Law_law_1173 : decode y_Law_law.2.1 1173 = .ok (.iaload, 1) := by decide +kernel
theorem d_Law_law_1174 : decode y_Law_law.2.1 1174 = .ok (.ifCond .eq 7, 3) := by decide +kernel
theorem d_Law_law_1177 : decode y_Law_law.2.1 1177 = .ok (.iconst 1, 1) := by decide +kernel
theorem d_Law_law_1178 : decode y_Law_law.2.1 1178 = .ok (.goto 4, 3) := by decide +kernel
theorem d_Law_law_1181 : decode y_Law_law.2.1 1181 = .ok (.iconst 0, 1) := by decide +kernel
theorem d_Law_law_1182 : decode y_Law_law.2.1 1182 = .ok (.invokevirtual 148, 3) := by decide +kernel
theorem d_Law_law_1185 : decode y_Law_law.2.1 1185 = .ok (.aload_n 2, 1) := by decide +kernel
theorem d_Law_law_1186 : decode y_Law_law.2.1 1186 = .ok (.aload_n 0, 1) := by decide +kernel
theorem d_Law_law_1187 : decode y_Law_law.2.1 1187 = .ok (.iload_n 3, 1) := by decide +kernel
theorem d_Law_law_1188 : decode y_Law_law.2.1 1188 = .ok (.iconst 1, 1) := by decide +kernel
theorem d_Law_law_1189 : decode y_Law_law.2.1 1189 = .ok (.iadd, 1) := by decide +kernel
theorem d_Law_law_1190 : decode y_Law_law.2.1 1190 = .ok (.iaload, 1) := by decide +kernel
theorem d_Law_law_1191 : decode y_Law_law.2.1 1191 = .ok (.aload_n 0, 1) := by decide +kernel
theorem d_Law_law_1192 : decode y_Law_law.2.1 1192 = .ok (.iload_n 3, 1) := by decide +kernel
theorem d_Law_law_1193 : decode y_Law_law.2.1 1193 = .ok (.iconst 2, 1) := by decide +kernel
theorem d_Law_law_1194 : decode y_Law_law.2.1 1194 = .ok (.iadd, 1) := by decide +kernel
theorem d_Law_law_1195 : decode y_Law_law.2.1 1195 = .ok (.iaload, 1) := by decide +kernel
theorem d_Law_law_1196 : decode y_Law_law.2.1 1196 = .ok (.aload_n 0, 1) := by decide +kernel
theorem d_Law_law_1197 : decode y_Law_law.2.1 1197 = .ok (.iload_n 3, 1) := by decide +kernel
theorem d_Law_law_1198 : decode y_Law_law.2.1 1198 = .ok (.iconst 3, 1) := by decide +kernel
theorem d_Law_law_1199 : decode y_Law_law.2.1 1199 = .ok (.iadd, 1) := by decide +kernel
theorem d_Law_law_1200 : decode y_Law_law.2.1 1200 = .ok (.iaload, 1) := by decide +kernel
theorem d_Law_law_1201 : decode y_Law_law.2.1 1201 = .ok (.ifCond .eq 7, 3) := by decide +kernel
theorem d_Law_law_1204 : decode y_Law_law.2.1 1204 = .ok (.iconst 1, 1) := by decide +kernel
theorem d_Law_law_1205 : decode y_Law_law.2.1 1205 = .ok (.goto 4, 3) := by decide +kernel
theorem d_Law_law_1208 : decode y_Law_law.2.1 1208 = .ok (.iconst 0, 1) := by decide +kernel
theorem d_Law_law_1209 : decode y_Law_law.2.1 1209 = .ok (.invokevirtual 152, 3) := by decide +kernel
theorem d_Law_law_1212 : decode y_Law_law.2.1 1212 = .ok (.if_icmp .eq 209, 3) := by decide +kernel
theorem d_Law_law_1215 : decode y_Law_law.2.1 1215 = .ok (.iconst 0, 1) := by decide +kernel
theorem d_Law_law_1216 : decode y_Law_law.2.1 1216 = .ok (.ireturn, 1) := by decide +kernel
theorem d_Law_law_1217 : decode y_Law_law.2.1 1217 = .ok (.aload_n 1, 1) := by decide +kernel
theorem d_Law_law_1218 : decode y_Law_law.2.1 1218 = .ok (.aload_n 0, 1) := by decide +kernel
theorem d_Law_law_1219 : decode y_Law_law.2.1 1219 = .ok (.iload_n 3, 1) := by decide +kernel
theorem d_Law_law_1220 : decode y_Law_law.2.1 1220 = .ok (.iconst 1, 1) := by decide +kernel
theorem d_Law_law_1221 : decode y_Law_law.2.1 1221 = .ok (.iadd, 1) := by decide +kernel
theorem d_Law_law_1222 : decode y_Law_law.2.1 1222 = .ok (.iaload, 1) := by decide +kernel
theorem d_Law_law_1223 : decode y_Law_law.2.1 1223 = .ok (.invokevirtual 153, 3) := by decide +kernel
theorem d_Law_law_1226 : decode y_Law_law.2.1 1226 = .ok (.aload_n 2, 1) := by decide +kernel
theorem d_Law_law_1227 : decode y_Law_law.2.1 1227 = .ok (.aload_n 0, 1) := by decide +kernel
theorem d_Law_law_1228 : decode y_Law_law.2.1 1228 = .ok (.iload_n 3, 1) := by decide +kernel
theorem d_Law_law_1229 : decode y_Law_law.2.1 1229 = .ok (.iconst 1, 1) := by decide +kernel
theorem d_Law_law_1230 : decode y_Law_law.2.1 1230 = .ok (.iadd, 1) := by decide +kernel
theorem d_Law_law_1231 : decode y_Law_law.2.1 1231 = .ok (.iaload, 1) := by decide +kernel
theorem d_Law_law_1232 : decode y_Law_law.2.1 1232 = .ok (.invokevirtual 157, 3) := by decide +kernel
theorem d_Law_law_1235 : decode y_Law_law.2.1 1235 = .ok (.if_icmp .eq 186, 3) := by decide +kernel
theorem d_Law_law_1238 : decode y_Law_law.2.1 1238 = .ok (.iconst 0, 1) := by decide +kernel
theorem d_Law_law_1239 : decode y_Law_law.2.1 1239 = .ok (.ireturn, 1) := by decide +kernel
theorem d_Law_law_1240 : decode y_Law_law.2.1 1240 = .ok (.aload_n 1, 1) := by decide +kernel
theorem d_Law_law_1241 : decode y_Law_law.2.1 1241 = .ok (.aload_n 0, 1) := by decide +kernel
theorem d_Law_law_1242 : decode y_Law_law.2.1 1242 = .ok (.iload_n 3, 1) := by decide +kernel
theorem d_Law_law_1243 : decode y_Law_law.2.1 1243 = .ok (.iconst 1, 1) := by decide +kernel
theorem d_Law_law_1244 : decode y_Law_law.2.1 1244 = .ok (.iadd, 1) := by decide +kernel
theorem d_Law_law_1245 : decode y_Law_law.2.1 1245 = .ok (.iaload, 1) := by decide +kernel
theorem d_Law_law_1246 : decode y_Law_law.2.1 1246 = .ok (.invokevirtual 158, 3) := by decide +kernel
theorem d_Law_law_1249 : decode y_Law_law.2.1 1249 = .ok (.aload_n 2, 1) := by decide +kernel
theorem d_Law_law_1250 : decode y_Law_law.2.1 1250 = .ok (.aload_n 0, 1) := by decide +kernel
theorem d_Law_law_1251 : decode y_Law_law.2.1 1251 = .ok (.iload_n 3, 1) := by decide +kernel
theorem d_Law_law_1252 : decode y_Law_law.2.1 1252 = .ok (.iconst 1, 1) := by decide +kernel
theorem d_Law_law_1253 : decode y_Law_law.2.1 1253 = .ok (.iadd, 1) := by decide +kernel
theorem d_Law_law_1254 : decode y_Law_law.2.1 1254 = .ok (.iaload, 1) := by decide +kernel
theorem d_Law_law_1255 : decode y_Law_law.2.1 1255 = .ok (.invokevirtual 161, 3) := by decide +kernel
theorem d_Law_law_1258 : decode y_Law_law.2.1 1258 = .ok (.if_icmp .eq 163, 3) := by decide +kernel
theorem d_Law_law_1261 : decode y_Law_law.2.1 1261 = .ok (.iconst 0, 1) := by decide +kernel
theorem d_Law_law_1262 : decode y_Law_law.2.1 1262 = .ok (.ireturn, 1) := by decide +kernel
theorem d_Law_law_1263 : decode y_Law_law.2.1 1263 = .ok (.aload_n 1, 1) := by decide +kernel
theorem d_Law_law_1264 : decode y_Law_law.2.1 1264 = .ok (.aload_n 0, 1) := by decide +kernel
theorem d_Law_law_1265 : decode y_Law_law.2.1 1265 = .ok (.iload_n 3, 1) := by decide +kernel
theorem d_Law_law_1266 : decode y_Law_law.2.1 1266 = .ok (.iconst 1, 1) := by decide +kernel
theorem d_Law_law_1267 : decode y_Law_law.2.1 1267 = .ok (.iadd, 1) := by decide +kernel
theorem d_Law_law_1268 : decode y_Law_law.2.1 1268 = .ok (.iaload, 1) := by decide +kernel
theorem d_Law_law_1269 : decode y_Law_law.2.1 1269 = .ok (.invokevirtual 162, 3) := by decide +kernel
theorem d_Law_law_1272 : decode y_Law_law.2.1 1272 = .ok (.aload_n 2, 1) := by decide +kernel
theorem d_Law_law_1273 : decode y_Law_law.2.1 1273 = .ok (.aload_n 0, 1) := by decide +kernel
theorem d_Law_law_1274 : decode y_Law_law.2.1 1274 = .ok (.iload_n 3, 1) := by decide +kernel
theorem d_Law_law_1275 : decode y_Law_law.2.1 1275 = .ok (.iconst 1, 1) := by decide +kernel
theorem d_Law_law_1276 : decode y_Law_law.2.1 1276 = .ok (.iadd, 1) := by decide +kernel
theorem d_Law_law_1277 : decode y_Law_law.2.1 1277 = .ok (.iaload, 1) := by decide +kernel
theorem d_Law_law_1278 : decode y_Law_law.2.1 1278 = .ok (.invokevirtual 165, 3) := by decide +kernel
theorem d_Law_law_1281 : decode y_Law_law.2.1 1281 = .ok (.if_icmp .eq 140, 3) := by decide +kernel
theorem d_Law_law_1284 : decode y_Law_law.2.1 1284 = .ok (.iconst 0, 1) := by decide +kernel
theorem d_Law_law_1285 : decode y_Law_law.2.1 1285 = .ok (.ireturn, 1) := by decide +kernel
theorem d_Law_law_1286 : decode y_Law_law.2.1 1286 = .ok (.aload_n 1, 1) := by decide +kernel
theorem d_Law_law_1287 : decode y_Law_law.2.1 1287 = .ok (.aload_n 0, 1) := by decide +kernel
theorem d_Law_law_1288 : decode y_Law_law.2.1 1288 = .ok (.iload_n 3, 1) := by decide +kernel
theorem d_Law_law_1289 : decode y_Law_law.2.1 1289 = .ok (.iconst 1, 1) := by decide +kernel
theorem d_Law_law_1290 : decode y_Law_law.2.1 1290 = .ok (.iadd, 1) := by decide +kernel
theorem d_Law_law_1291 : decode y_Law_law.2.1 1291 = .ok (.iaload, 1) := by decide +kernel
theorem d_Law_law_1292 : decode y_Law_law.2.1 1292 = .ok (.invokevirtual 166, 3) := by decide +kernel
theorem d_Law_law_1295 : decode y_Law_law.2.1 1295 = .ok (.aload_n 2, 1) := by decide +kernel
theorem d_Law_law_1296 : decode y_Law_law.2.1 1296 = .ok (.aload_n 0, 1) := by decide +kernel
theorem d_Law_law_1297 : decode y_Law_law.2.1 1297 = .ok (.iload_n 3, 1) := by decide +kernel
theorem d_Law_law_1298 : decode y_Law_law.2.1 1298 = .ok (.iconst 1, 1) := by decide +kernel
theorem d_Law_law_1299 : decode y_Law_law.2.1 1299 = .ok (.iadd, 1) := by decide +kernel
theorem d_Law_law_1300 : decode y_Law_law.2.1 1300 = .ok (.iaload, 1) := by decide +kernel
theorem d_Law_law_1301 : decode y_Law_law.2.1 1301 = .ok (.invokevirtual 169, 3) := by decide +kernel
theorem d_Law_law_1304 : decode y_Law_law.2.1 1304 = .ok (.if_icmp .eq 117, 3) := by decide +kernel
theorem d_Law_law_1307 : decode y_Law_law.2.1 1307 = .ok (.iconst 0, 1) := by decide +kernel
theorem d_Law_law_1308 : decode y_Law_law.2.1 1308 = .ok (.ireturn, 1) := by decide +kernel
theorem d_Law_law_1309 : decode y_Law_law.2.1 1309 = .ok (.aload_n 1, 1) := by decide +kernel
theorem d_Law_law_1310 : decode y_Law_law.2.1 1310 = .ok (.aload_n 0, 1) := by decide +kernel
theorem d_Law_law_1311 : decode y_Law_law.2.1 1311 = .ok (.iload_n 3, 1) := by decide +kernel
theorem d_Law_law_1312 : decode y_Law_law.2.1 1312 = .ok (.iconst 1, 1) := by decide +kernel
theorem d_Law_law_1313 : decode y_Law_law.2.1 1313 = .ok (.iadd, 1) := by decide +kernel
theorem d_Law_law_1314 : decode y_Law_law.2.1 1314 = .ok (.iaload, 1) := by decide +kernel
theorem d_Law_law_1315 : decode y_Law_law.2.1 1315 = .ok (.aload_n 0, 1) := by decide +kernel
theorem d_Law_law_1316 : decode y_Law_law.2.1 1316 = .ok (.iload_n 3, 1) := by decide +kernel
theorem d_Law_law_1317 : decode y_Law_law.2.1 1317 = .ok (.iconst 2, 1) := by decide +kernel
theorem d_Law_law_1318 : decode y_Law_law.2.1 1318 = .ok (.iadd, 1) := by decide +kernel
theorem d_Law_law_1319 : decode y_Law_law.2.1 1319 = .ok (.iaload, 1) := by decide +kernel
theorem d_Law_law_1320 : decode y_Law_law.2.1 1320 = .ok (.aload_n 0, 1) := by decide +kernel
theorem d_Law_law_1321 : decode y_Law_law.2.1 1321 = .ok (.iload_n 3, 1) := by decide +kernel
theorem d_Law_law_1322 : decode y_Law_law.2.1 1322 = .ok (.iconst 3, 1) := by decide +kernel
theorem d_Law_law_1323 : decode y_Law_law.2.1 1323 = .ok (.iadd, 1) := by decide +kernel
theorem d_Law_law_1324 : decode y_Law_law.2.1 1324 = .ok (.iaload, 1) := by decide +kernel
theorem d_Law_law_1325 : decode y_Law_law.2.1 1325 = .ok (.invokevirtual 170, 3) := by decide +kernel
theorem d_Law_law_1328 : decode y_Law_law.2.1 1328 = .ok (.aload_n 2, 1) := by decide +kernel
theorem d_Law_law_1329 : decode y_Law_law.2.1 1329 = .ok (.aload_n 0, 1) := by decide +kernel
theorem d_Law_law_1330 : decode y_Law_law.2.1 1330 = .ok (.iload_n 3, 1) := by decide +kernel
theorem d_Law_law_1331 : decode y_Law_law.2.1 1331 = .ok (.iconst 1, 1) := by decide +kernel
theorem d_Law_law_1332 : decode y_Law_law.2.1 1332 = .ok (.iadd, 1) := by decide +kernel
theorem d_Law_law_1333 : decode y_Law_law.2.1 1333 = .ok (.iaload, 1) := by decide +kernel
theorem d_Law_law_1334 : decode y_Law_law.2.1 1334 = .ok (.aload_n 0, 1) := by decide +kernel
theorem d_Law_law_1335 : decode y_Law_law.2.1 1335 = .ok (.iload_n 3, 1) := by decide +kernel
theorem d_Law_law_1336 : decode y_Law_law.2.1 1336 = .ok (.iconst 2, 1) := by decide +kernel
theorem d_Law_law_1337 : decode y_Law_law.2.1 1337 = .ok (.iadd, 1) := by decide +kernel
theorem d_Law_law_1338 : decode y_Law_law.2.1 1338 = .ok (.iaload, 1) := by decide +kernel
theorem d_Law_law_1339 : decode y_Law_law.2.1 1339 = .ok (.aload_n 0, 1) := by decide +kernel
theorem d_Law_law_1340 : decode y_Law_law.2.1 1340 = .ok (.iload_n 3, 1) := by decide +kernel
theorem d_Law_law_1341 : decode y_Law_law.2.1 1341 = .ok (.iconst 3, 1) := by decide +kernel
theorem d_Law_law_1342 : decode y_Law_law.2.1 1342 = .ok (.iadd, 1) := by decide +kernel
theorem d_Law_law_1343 : decode y_Law_law.2.1 1343 = .ok (.iaload, 1) := by decide +kernel
theorem d_Law_law_1344 : decode y_Law_law.2.1 1344 = .ok (.invokevirtual 173, 3) := by decide +kernel
theorem d_Law_law_1347 : decode y_Law_law.2.1 1347 = .ok (.if_icmp .eq 74, 3) := by decide +kernel
theorem d_Law_law_1350 : decode y_Law_law.2.1 1350 = .ok (.iconst 0, 1) := by decide +kernel
theorem d_Law_law_1351 : decode y_Law_law.2.1 1351 = .ok (.ireturn, 1) := by decide +kernel
theorem d_Law_law_1352 : decode y_Law_law.2.1 1352 = .ok (.aload_n 1, 1) := by decide +kernel
theorem d_Law_law_1353 : decode y_Law_law.2.1 1353 = .ok (.aload_n 0, 1) := by decide +kernel
theorem d_Law_law_1354 : decode y_Law_law.2.1 1354 = .ok (.iload_n 3, 1) := by decide +kernel
theorem d_Law_law_1355 : decode y_Law_law.2.1 1355 = .ok (.iconst 1, 1) := by decide +kernel
theorem d_Law_law_1356 : decode y_Law_law.2.1 1356 = .ok (.iadd, 1) := by decide +kernel
theorem d_Law_law_1357 : decode y_Law_law.2.1 1357 = .ok (.iaload, 1) := by decide +kernel
theorem d_Law_law_1358 : decode y_Law_law.2.1 1358 = .ok (.invokevirtual 174, 3) := by decide +kernel
theorem d_Law_law_1361 : decode y_Law_law.2.1 1361 = .ok (.aload_n 2, 1) := by decide +kernel
theorem d_Law_law_1362 : decode y_Law_law.2.1 1362 = .ok (.aload_n 0, 1) := by decide +kernel
theorem d_Law_law_1363 : decode y_Law_law.2.1 1363 = .ok (.iload_n 3, 1) := by decide +kernel
theorem d_Law_law_1364 : decode y_Law_law.2.1 1364 = .ok (.iconst 1, 1) := by decide +kernel
theorem d_Law_law_1365 : decode y_Law_law.2.1 1365 = .ok (.iadd, 1) := by decide +kernel
theorem d_Law_law_1366 : decode y_Law_law.2.1 1366 = .ok (.iaload, 1) := by decide +kernel
theorem d_Law_law_1367 : decode y_Law_law.2.1 1367 = .ok (.invokevirtual 177, 3) := by decide +kernel
theorem d_Law_law_1370 : decode y_Law_law.2.1 1370 = .ok (.if_icmp .eq 51, 3) := by decide +kernel
theorem d_Law_law_1373 : decode y_Law_law.2.1 1373 = .ok (.iconst 0, 1) := by decide +kernel
theorem d_Law_law_1374 : decode y_Law_law.2.1 1374 = .ok (.ireturn, 1) := by decide +kernel
theorem d_Law_law_1375 : decode y_Law_law.2.1 1375 = .ok (.aload_n 1, 1) := by decide +kernel
theorem d_Law_law_1376 : decode y_Law_law.2.1 1376 = .ok (.aload_n 0, 1) := by decide +kernel
theorem d_Law_law_1377 : decode y_Law_law.2.1 1377 = .ok (.iload_n 3, 1) := by decide +kernel
theorem d_Law_law_1378 : decode y_Law_law.2.1 1378 = .ok (.iconst 1, 1) := by decide +kernel
theorem d_Law_law_1379 : decode y_Law_law.2.1 1379 = .ok (.iadd, 1) := by decide +kernel
theorem d_Law_law_1380 : decode y_Law_law.2.1 1380 = .ok (.iaload, 1) := by decide +kernel
theorem d_Law_law_1381 : decode y_Law_law.2.1 1381 = .ok (.invokevirtual 178, 3) := by decide +kernel
theorem d_Law_law_1384 : decode y_Law_law.2.1 1384 = .ok (.aload_n 2, 1) := by decide +kernel
theorem d_Law_law_1385 : decode y_Law_law.2.1 1385 = .ok (.aload_n 0, 1) := by decide +kernel
theorem d_Law_law_1386 : decode y_Law_law.2.1 1386 = .ok (.iload_n 3, 1) := by decide +kernel
theorem d_Law_law_1387 : decode y_Law_law.2.1 1387 = .ok (.iconst 1, 1) := by decide +kernel
theorem d_Law_law_1388 : decode y_Law_law.2.1 1388 = .ok (.iadd, 1) := by decide +kernel
theorem d_Law_law_1389 : decode y_Law_law.2.1 1389 = .ok (.iaload, 1) := by decide +kernel
theorem d_Law_law_1390 : decode y_Law_law.2.1 1390 = .ok (.invokevirtual 181, 3) := by decide +kernel
theorem d_Law_law_1393 : decode y_Law_law.2.1 1393 = .ok (.if_icmp .eq 28, 3) := by decide +kernel
theorem d_Law_law_1396 : decode y_Law_law.2.1 1396 = .ok (.iconst 0, 1) := by decide +kernel
theorem d_Law_law_1397 : decode y_Law_law.2.1 1397 = .ok (.ireturn, 1) := by decide +kernel
theorem d_Law_law_1398 : decode y_Law_law.2.1 1398 = .ok (.aload_n 1, 1) := by decide +kernel
theorem d_Law_law_1399 : decode y_Law_law.2.1 1399 = .ok (.aload_n 0, 1) := by decide +kernel
theorem d_Law_law_1400 : decode y_Law_law.2.1 1400 = .ok (.iload_n 3, 1) := by decide +kernel
theorem d_Law_law_1401 : decode y_Law_law.2.1 1401 = .ok (.iconst 1, 1) := by decide +kernel
theorem d_Law_law_1402 : decode y_Law_law.2.1 1402 = .ok (.iadd, 1) := by decide +kernel
theorem d_Law_law_1403 : decode y_Law_law.2.1 1403 = .ok (.iaload, 1) := by decide +kernel
theorem d_Law_law_1404 : decode y_Law_law.2.1 1404 = .ok (.invokevirtual 182, 3) := by decide +kernel
theorem d_Law_law_1407 : decode y_Law_law.2.1 1407 = .ok (.aload_n 2, 1) := by decide +kernel
theorem d_Law_law_1408 : decode y_Law_law.2.1 1408 = .ok (.aload_n 0, 1) := by decide +kernel
theorem d_Law_law_1409 : decode y_Law_law.2.1 1409 = .ok (.iload_n 3, 1) := by decide +kernel
theorem d_Law_law_1410 : decode y_Law_law.2.1 1410 = .ok (.iconst 1, 1) := by decide +kernel
theorem d_Law_law_1411 : decode y_Law_law.2.1 1411 = .ok (.iadd, 1) := by decide +kernel
theorem d_Law_law_1412 : decode y_Law_law.2.1 1412 = .ok (.iaload, 1) := by decide +kernel
theorem d_Law_law_1413 : decode y_Law_law.2.1 1413 = .ok (.invokevirtual 185, 3) := by decide +kernel
theorem d_Law_law_1416 : decode y_Law_law.2.1 1416 = .ok (.if_icmp .eq 5, 3) := by decide +kernel
theorem d_Law_law_1419 : decode y_Law_law.2.1 1419 = .ok (.iconst 0, 1) := by decide +kernel
theorem d_Law_law_1420 : decode y_Law_law.2.1 1420 = .ok (.ireturn, 1) := by decide +kernel
theorem d_Law_law_1421 : decode y_Law_law.2.1 1421 = .ok (.iinc 3 6, 3) := by decide +kernel
theorem d_Law_law_1424 : decode y_Law_law.2.1 1424 = .ok (.goto (-1406), 3) := by decide +kernel
theorem d_Law_law_1427 : decode y_Law_law.2.1 1427 = .ok (.iconst 1, 1) := by decide +kernel
theorem d_Law_law_1428 : decode y_Law_law.2.1 1428 = .ok (.ireturn, 1) := by decide +kernel

def zLaw (G : AE) : AZ := fun r _ below args s => fun t => r = some (.int 1) → args = #[Value.ref (eX G).1] → s.heap.size ≤ eB G → lw_Z below args s t
section LW
variable {G : AE} {S : AH → Prop} {kn : Nat × Nat} {pc : Nat} {lv : List (Option Value)} {h : AH}
theorem r_lret0 (hd : decode y_Law_law.2.1 pc = .ok (.ireturn, 1)) : AR G S y_Law_law room_1 (zLaw G) φI kn pc lv [.int 0] h (some (0, h)) := by
  intro a hX hS p e s m args below meth c H ls locs C hR0 hSv hl
  cases hX
  exact fun T hT X => ⟨_, Steps.refl _, fun h1 => by cases h1⟩
theorem r_lret1 (hd : decode y_Law_law.2.1 pc = .ok (.ireturn, 1)) (h1 : kn.1 ≤ 600000) (h2 : kn.2 ≤ 7302250) : AR G S y_Law_law room_1 (zLaw G) φI kn pc lv [.int 1] h (some (1, h)) := by
  intro a hX hS p e s m args below meth c H ls locs C hR0 hSv hl
  cases hX
  obtain ⟨hx, hb, hml, hrt, hown, hts, hlocks, hK0, hxw, hbs, hnm⟩ := id C
  by_cases hq : args = #[Value.ref (eX G).1] ∧ s.heap.size ≤ eB G
  · obtain ⟨rfl, hs⟩ := hq
    have hw : W p (eL G) e room_1 s m #[Value.ref (eX G).1] below meth c H locs kn.1 kn.2 (lw_Z below #[Value.ref (eX G).1] s) (F0 m pc ls [.int 1]) := by
      refine va_forget (fun q hq => Nat.le_trans hs (hSv.2.2 q hq)) ?_
      exact W.widen h1 h2 (lw_ret hx hb hrt hlocks hd)
    intro T hT X
    obtain ⟨t, a1, b1⟩ := hw T hT X
    exact ⟨t, a1, fun _ _ _ => b1⟩
  · exact fun T hT X => ⟨_, Steps.refl _, fun _ e1 e2 => absurd ⟨e1, e2⟩ hq⟩
theorem r_slen {α : Type} {φ : α → Option Value × AH} {y : MI} {R : Room} {Z : AZ} {st : List Value} {X : Option α} {L : Nat} (hL : (eX G).2.1 = L) (hd : decode y.2.1 pc = .ok (.arraylength, 1)) (K : AR G S y R Z φ kn (pc + 1) lv (.int (nI L) :: st) h X) : AR G S y R Z φ kn pc lv (.float 1 :: st) h X := by
  intro a hX hS p e s m args below meth c H ls locs C hR0 hSv hl
  obtain ⟨hx, hb, hml, hrt, hown, hts, hlocks, hK0, hxw, hbs, hnm⟩ := id C
  subst hL
  exact va_slen hx hb hxw.2.2.2.2.1.2 (Nat.lt_of_lt_of_le hxw.2.2.2.2.1.1 hbs) (Nat.not_le.mpr hxw.2.2.2.2.1.1) hSv hd (K a hX hS p e s m args below meth c H ls locs C hR0 hSv hl)
theorem r_sld {α : Type} {φ : α → Option Value × AH} {y : MI} {R : Room} {Z : AZ} {st : List Value} {X : Option α} {L : Nat} {xs : Nat → Int32} {i : Int32} (hL : (eX G).2.1 = L) (hxs : (eX G).2.2 = xs) (hin : vp_in i L) (hd : decode y.2.1 pc = .ok (.iaload, 1)) (K : AR G S y R Z φ kn (pc + 1) lv (.int (xs (ix i)) :: st) h X) : AR G S y R Z φ kn pc lv (.int i :: .float 1 :: st) h X := by
  intro a hX hS p e s m args below meth c H ls locs C hR0 hSv hl
  obtain ⟨hx, hb, hml, hrt, hown, hts, hlocks, hK0, hxw, hbs, hnm⟩ := id C
  subst hL
  subst hxs
  exact va_sld hx hb hxw.2.2.2.2.1.2 (Nat.lt_of_lt_of_le hxw.2.2.2.2.1.1 hbs) (Nat.not_le.mpr hxw.2.2.2.2.1.1) hSv hin hd (K a hX hS p e s m args below meth c H ls locs C hR0 hSv hl)
end LW
def f_Law_law_b1209 (L : Nat) (xs : Nat → Int32)  (k18 : Int32 → AH → Option (Int32 × AH)) (x3 : Int32) (v0 : Int32) (v2 : Int32) (v3 : Int32) (v4 : Int32) (h : AH) : Option (Int32 × AH) :=
  bI (f_M_heard v2 v3 v4 h) fun rq1 hq2 =>
  if v0 = rq1 then
    lt (x3 + (6 : Int32)) fun xq3 =>
    k18 xq3 hq2
  else
    some ((0 : Int32), hq2)
set_option maxHeartbeats 2000000 in
theorem o_Law_law_b1209 {G : AE} (hn : NN ≤ NN) {L : Nat} {xs : Nat → Int32} (hL : (eX G).2.1 = L) (hxs : (eX G).2.2 = xs)   {k18 : Int32 → AH → Option (Int32 × AH)} (hk18 : ∀ (x3 : Int32) (h : AH), AR G (Std NN) y_Law_law room_1 (zLaw G) φI (421, 19096) 18 [some (.float 1), some (.ref 0), some (.ref 383), some (.int x3)] [] h (k18 x3 h)) : ∀ (x3 : Int32) (v0 : Int32) (v2 : Int32) (v3 : Int32) (v4 : Int32) (h : AH), AR G (Std NN) y_Law_law room_1 (zLaw G) φI (421, 19096) 1209 [some (.float 1), some (.ref 0), some (.ref 383), some (.int x3)] [.int v4, .int v3, .int v2, .ref 383, .int v0] h (f_Law_law_b1209 L xs k18 x3 v0 v2 v3 v4 h) := by
  intro x3 v0 v2 v3 v4 h
  rw [f_Law_law_b1209]
  refine r_cVi (pc := 1209) (T := F_12) (N := 73) (st := [.int v0]) (ok_M_heard hn v2 v3 v4 h) (fun s => Std.k s (lc hn rfl) kq_383) rfl w_1738 w_13 w_1735 w_1736 w_1737 hy_M_heard ⟨Nat.le_of_ble_eq_true rfl, Nat.le_of_ble_eq_true rfl⟩ ⟨Nat.le_of_ble_eq_true rfl, Nat.le_of_ble_eq_true rfl⟩ rfl (Nat.le_of_ble_eq_true rfl) d_Law_law_1209 (fun rq1 hq2 => ?_)
  refine r_icmp_eq (pc := 1212) (tgt := 1421) d_Law_law_1212 (by rfl) ?_ ?_
  · refine r_ltE (fun xq3 exq3 => ?_)
    refine r_iinc (pc := 1421) (v := xq3) (lv1 := [some (.float 1), some (.ref 0), some (.ref 383), some (.int xq3)]) d_Law_law_1421 rfl exq3.symm (Nat.le_of_ble_eq_true rfl) rfl ?_
    refine r_goto (pc := 1424) (tgt := 18) d_Law_law_1424 (by rfl) ?_
    exact r_wk (hk18 xq3 hq2) ⟨rfl, ⟨rfl, ⟨rfl, ⟨rfl, trivial⟩⟩⟩⟩
  · refine r_iconst (pc := 1215) (v := 0) d_Law_law_1215 (by rfl) ?_
    exact r_lret0 d_Law_law_1216
def f_Law_law_b1182 (L : Nat) (xs : Nat → Int32)  (k18 : Int32 → AH → Option (Int32 × AH)) (x3 : Int32) (v1 : Int32) (v2 : Int32) (v3 : Int32) (h : AH) : Option (Int32 × AH) :=
  bI (f_H_heard v1 v2 v3 h) fun rq1 hq2 =>
  gx (x3 + (1 : Int32)) L <|
  gx (x3 + (2 : Int32)) L <|
  gx (x3 + (3 : Int32)) L <|
  if (xs (ix (x3 + (3 : Int32)))) = 0 then
    f_Law_law_b1209 L xs k18 x3 rq1 (xs (ix (x3 + (1 : Int32)))) (xs (ix (x3 + (2 : Int32)))) (0 : Int32) hq2
  else
    f_Law_law_b1209 L xs k18 x3 rq1 (xs (ix (x3 + (1 : Int32)))) (xs (ix (x3 + (2 : Int32)))) (1 : Int32) hq2
set_option maxHeartbeats 2000000 in
theorem o_Law_law_b1182 {G : AE} (hn : NN ≤ NN) {L : Nat} {xs : Nat → Int32} (hL : (eX G).2.1 = L) (hxs : (eX G).2.2 = xs)   {k18 : Int32 → AH → Option (Int32 × AH)} (hk18 : ∀ (x3 : Int32) (h : AH), AR G (Std NN) y_Law_law room_1 (zLaw G) φI (421, 19096) 18 [some (.float 1), some (.ref 0), some (.ref 383), some (.int x3)] [] h (k18 x3 h)) : ∀ (x3 : Int32) (v1 : Int32) (v2 : Int32) (v3 : Int32) (h : AH), AR G (Std NN) y_Law_law room_1 (zLaw G) φI (421, 19096) 1182 [some (.float 1), some (.ref 0), some (.ref 383), some (.int x3)] [.int v3, .int v2, .int v1, .ref 0] h (f_Law_law_b1182 L xs k18 x3 v1 v2 v3 h) := by
  intro x3 v1 v2 v3 h
  rw [f_Law_law_b1182]
  refine r_cVi (pc := 1182) (T := F_11) (N := 13) (st := []) (ok_H_heard hn v1 v2 v3 h) (fun s => Std.k s (lc hn rfl) kq_0) rfl w_1002 w_1 w_999 w_1000 w_1001 hy_H_heard ⟨Nat.le_of_ble_eq_true rfl, Nat.le_of_ble_eq_true rfl⟩ ⟨Nat.le_of_ble_eq_true rfl, Nat.le_of_ble_eq_true rfl⟩ rfl (Nat.le_of_ble_eq_true rfl) d_Law_law_1182 (fun rq1 hq2 => ?_)
  refine r_aload_n (pc := 1185) (i := 2) d_Law_law_1185 rfl rfl ?_
  refine r_aloadF_n (pc := 1186) (i := 0) (cv_1 G) d_Law_law_1186 rfl rfl ?_
  refine r_iload_n (pc := 1187) (i := 3) d_Law_law_1187 rfl rfl ?_
  refine r_iconst (pc := 1188) (v := 1) d_Law_law_1188 (by rfl) ?_
  refine r_iadd (pc := 1189) d_Law_law_1189 ?_
  refine r_gx (fun zq3 => ?_)
  refine r_sld (pc := 1190) hL hxs zq3 d_Law_law_1190 ?_
  refine r_aloadF_n (pc := 1191) (i := 0) (cv_1 G) d_Law_law_1191 rfl rfl ?_
  refine r_iload_n (pc := 1192) (i := 3) d_Law_law_1192 rfl rfl ?_
  refine r_iconst (pc := 1193) (v := 2) d_Law_law_1193 (by rfl) ?_
  refine r_iadd (pc := 1194) d_Law_law_1194 ?_
  refine r_gx (fun zq4 => ?_)
  refine r_sld (pc := 1195) hL hxs zq4 d_Law_law_1195 ?_
  refine r_aloadF_n (pc := 1196) (i := 0) (cv_1 G) d_Law_law_1196 rfl rfl ?_
  refine r_iload_n (pc := 1197) (i := 3) d_Law_law_1197 rfl rfl ?_
  refine r_iconst (pc := 1198) (v := 3) d_Law_law_1198 (by rfl) ?_
  refine r_iadd (pc := 1199) d_Law_law_1199 ?_
  refine r_gx (fun zq5 => ?_)
  refine r_sld (pc := 1200) hL hxs zq5 d_Law_law_1200 ?_
  refine r_if_eq (pc := 1201) (tgt := 1208) d_Law_law_1201 (by rfl) ?_ ?_
  · refine r_iconst (pc := 1208) (v := 0) d_Law_law_1208 (by rfl) ?_
    exact r_wk (o_Law_law_b1209 hn hL hxs hk18 x3 rq1 (xs (ix (x3 + (1 : Int32)))) (xs (ix (x3 + (2 : Int32)))) (0 : Int32) hq2) ⟨rfl, ⟨rfl, ⟨rfl, ⟨rfl, trivial⟩⟩⟩⟩
  · refine r_iconst (pc := 1204) (v := 1) d_Law_law_1204 (by rfl) ?_
    refine r_goto (pc := 1205) (tgt := 1209) d_Law_law_1205 (by rfl) ?_
    exact r_wk (o_Law_law_b1209 hn hL hxs hk18 x3 rq1 (xs (ix (x3 + (1 : Int32)))) (xs (ix (x3 + (2 : Int32)))) (1 : Int32) hq2) ⟨rfl, ⟨rfl, ⟨rfl, ⟨rfl, trivial⟩⟩⟩⟩
def f_Law_law_l18 (L : Nat) (xs : Nat → Int32)   : Nat → Int32 → AH → Option (Int32 × AH)
  | 0, _, _ => none
  | n + 1, x3, h =>
    if ((nI L) - (6 : Int32)) < x3 then
      some ((1 : Int32), h)
    else
      gx x3 L <|
      if ((xs (ix x3)) &&& (63 : Int32)) = (0 : Int32) then
        gx (x3 + (1 : Int32)) L <|
        gx (x3 + (2 : Int32)) L <|
        gx (x3 + (3 : Int32)) L <|
        gx (x3 + (4 : Int32)) L <|
        gx (x3 + (5 : Int32)) L <|
        bI (f_H_feed (xs (ix (x3 + (1 : Int32)))) (xs (ix (x3 + (2 : Int32)))) (xs (ix (x3 + (3 : Int32)))) (xs (ix (x3 + (4 : Int32)))) (xs (ix (x3 + (5 : Int32)))) h) fun rq8 hq9 =>
        gx (x3 + (1 : Int32)) L <|
        gx (x3 + (2 : Int32)) L <|
        gx (x3 + (3 : Int32)) L <|
        gx (x3 + (4 : Int32)) L <|
        gx (x3 + (5 : Int32)) L <|
        bI (f_M_feed (xs (ix (x3 + (1 : Int32)))) (xs (ix (x3 + (2 : Int32)))) (xs (ix (x3 + (3 : Int32)))) (xs (ix (x3 + (4 : Int32)))) (xs (ix (x3 + (5 : Int32)))) hq9) fun rq15 hq16 =>
        if rq8 = rq15 then
          lt (x3 + (6 : Int32)) fun xq17 =>
          f_Law_law_l18 L xs n xq17 hq16
        else
          some ((0 : Int32), hq16)
      else
      if ((xs (ix x3)) &&& (63 : Int32)) = (1 : Int32) then
        gx (x3 + (1 : Int32)) L <|
        bI (f_H_end (xs (ix (x3 + (1 : Int32)))) h) fun rq20 hq21 =>
        gx (x3 + (1 : Int32)) L <|
        bI (f_M_end (xs (ix (x3 + (1 : Int32)))) hq21) fun rq23 hq24 =>
        if rq20 = rq23 then
          lt (x3 + (6 : Int32)) fun xq25 =>
          f_Law_law_l18 L xs n xq25 hq24
        else
          some ((0 : Int32), hq24)
      else
      if ((xs (ix x3)) &&& (63 : Int32)) = (2 : Int32) then
        bI (f_H_market h) fun rq27 hq28 =>
        bI (f_M_market hq28) fun rq29 hq30 =>
        if rq27 = rq29 then
          lt (x3 + (6 : Int32)) fun xq31 =>
          f_Law_law_l18 L xs n xq31 hq30
        else
          some ((0 : Int32), hq30)
      else
      if ((xs (ix x3)) &&& (63 : Int32)) = (3 : Int32) then
        gx (x3 + (1 : Int32)) L <|
        bI (f_H_fault (xs (ix (x3 + (1 : Int32)))) h) fun rq34 hq35 =>
        gx (x3 + (1 : Int32)) L <|
        bI (f_M_fault (xs (ix (x3 + (1 : Int32)))) hq35) fun rq37 hq38 =>
        if rq34 = rq37 then
          lt (x3 + (6 : Int32)) fun xq39 =>
          f_Law_law_l18 L xs n xq39 hq38
        else
          some ((0 : Int32), hq38)
      else
      if ((xs (ix x3)) &&& (63 : Int32)) = (4 : Int32) then
        gx (x3 + (1 : Int32)) L <|
        gx (x3 + (2 : Int32)) L <|
        bI (f_H_dealer (xs (ix (x3 + (1 : Int32)))) (xs (ix (x3 + (2 : Int32)))) h) fun rq43 hq44 =>
        gx (x3 + (1 : Int32)) L <|
        gx (x3 + (2 : Int32)) L <|
        bI (f_M_dealer (xs (ix (x3 + (1 : Int32)))) (xs (ix (x3 + (2 : Int32)))) hq44) fun rq47 hq48 =>
        if rq43 = rq47 then
          lt (x3 + (6 : Int32)) fun xq49 =>
          f_Law_law_l18 L xs n xq49 hq48
        else
          some ((0 : Int32), hq48)
      else
      if ((xs (ix x3)) &&& (63 : Int32)) = (5 : Int32) then
        bI (f_H_heat h) fun rq51 hq52 =>
        bI (f_M_heat hq52) fun rq53 hq54 =>
        if rq51 = rq53 then
          lt (x3 + (6 : Int32)) fun xq55 =>
          f_Law_law_l18 L xs n xq55 hq54
        else
          some ((0 : Int32), hq54)
      else
      if ((xs (ix x3)) &&& (63 : Int32)) = (6 : Int32) then
        gx (x3 + (1 : Int32)) L <|
        gx (x3 + (2 : Int32)) L <|
        bI (f_H_price (xs (ix (x3 + (1 : Int32)))) (xs (ix (x3 + (2 : Int32)))) h) fun rq59 hq60 =>
        gx (x3 + (1 : Int32)) L <|
        gx (x3 + (2 : Int32)) L <|
        bI (f_M_price (xs (ix (x3 + (1 : Int32)))) (xs (ix (x3 + (2 : Int32)))) hq60) fun rq63 hq64 =>
        if rq59 = rq63 then
          lt (x3 + (6 : Int32)) fun xq65 =>
          f_Law_law_l18 L xs n xq65 hq64
        else
          some ((0 : Int32), hq64)
      else
      if ((xs (ix x3)) &&& (63 : Int32)) = (7 : Int32) then
        gx (x3 + (1 : Int32)) L <|
        bI (f_H_cheapest (xs (ix (x3 + (1 : Int32)))) h) fun rq68 hq69 =>
        gx (x3 + (1 : Int32)) L <|
        bI (f_M_cheapest (xs (ix (x3 + (1 : Int32)))) hq69) fun rq71 hq72 =>
        if rq68 = rq71 then
          lt (x3 + (6 : Int32)) fun xq73 =>
          f_Law_law_l18 L xs n xq73 hq72
        else
          some ((0 : Int32), hq72)
      else
      if ((xs (ix x3)) &&& (63 : Int32)) = (8 : Int32) then
        bI (f_H_chorus h) fun rq75 hq76 =>
        bI (f_M_chorus hq76) fun rq77 hq78 =>
        if rq75 = rq77 then
          lt (x3 + (6 : Int32)) fun xq79 =>
          f_Law_law_l18 L xs n xq79 hq78
        else
          some ((0 : Int32), hq78)
      else
      if ((xs (ix x3)) &&& (63 : Int32)) = (9 : Int32) then
        gx (x3 + (1 : Int32)) L <|
        bI (f_H_lasts (xs (ix (x3 + (1 : Int32)))) h) fun rq82 hq83 =>
        gx (x3 + (1 : Int32)) L <|
        bI (f_M_lasts (xs (ix (x3 + (1 : Int32)))) hq83) fun rq85 hq86 =>
        if rq82 = rq85 then
          lt (x3 + (6 : Int32)) fun xq87 =>
          f_Law_law_l18 L xs n xq87 hq86
        else
          some ((0 : Int32), hq86)
      else
      if ((xs (ix x3)) &&& (63 : Int32)) = (10 : Int32) then
        gx (x3 + (1 : Int32)) L <|
        gx (x3 + (2 : Int32)) L <|
        gx (x3 + (3 : Int32)) L <|
        bI (f_H_buy (xs (ix (x3 + (1 : Int32)))) (xs (ix (x3 + (2 : Int32)))) (xs (ix (x3 + (3 : Int32)))) h) fun rq92 hq93 =>
        gx (x3 + (1 : Int32)) L <|
        gx (x3 + (2 : Int32)) L <|
        gx (x3 + (3 : Int32)) L <|
        bI (f_M_buy (xs (ix (x3 + (1 : Int32)))) (xs (ix (x3 + (2 : Int32)))) (xs (ix (x3 + (3 : Int32)))) hq93) fun rq97 hq98 =>
        if rq92 = rq97 then
          lt (x3 + (6 : Int32)) fun xq99 =>
          f_Law_law_l18 L xs n xq99 hq98
        else
          some ((0 : Int32), hq98)
      else
      if ((xs (ix x3)) &&& (63 : Int32)) = (11 : Int32) then
        gx (x3 + (1 : Int32)) L <|
        gx (x3 + (2 : Int32)) L <|
        bI (f_H_breathe (xs (ix (x3 + (1 : Int32)))) (xs (ix (x3 + (2 : Int32)))) h) fun rq103 hq104 =>
        gx (x3 + (1 : Int32)) L <|
        gx (x3 + (2 : Int32)) L <|
        bI (f_M_breathe (xs (ix (x3 + (1 : Int32)))) (xs (ix (x3 + (2 : Int32)))) hq104) fun rq107 hq108 =>
        if rq103 = rq107 then
          lt (x3 + (6 : Int32)) fun xq109 =>
          f_Law_law_l18 L xs n xq109 hq108
        else
          some ((0 : Int32), hq108)
      else
      if ((xs (ix x3)) &&& (63 : Int32)) = (12 : Int32) then
        gx (x3 + (1 : Int32)) L <|
        bI (f_H_free (xs (ix (x3 + (1 : Int32)))) h) fun rq112 hq113 =>
        gx (x3 + (1 : Int32)) L <|
        bI (f_M_free (xs (ix (x3 + (1 : Int32)))) hq113) fun rq115 hq116 =>
        if rq112 = rq115 then
          lt (x3 + (6 : Int32)) fun xq117 =>
          f_Law_law_l18 L xs n xq117 hq116
        else
          some ((0 : Int32), hq116)
      else
      if ((xs (ix x3)) &&& (63 : Int32)) = (13 : Int32) then
        bI (f_H_hour h) fun rq119 hq120 =>
        bI (f_M_hour hq120) fun rq121 hq122 =>
        if rq119 = rq121 then
          lt (x3 + (6 : Int32)) fun xq123 =>
          f_Law_law_l18 L xs n xq123 hq122
        else
          some ((0 : Int32), hq122)
      else
      if ((xs (ix x3)) &&& (63 : Int32)) = (14 : Int32) then
        bI (f_H_undo h) fun rq125 hq126 =>
        bI (f_M_undo hq126) fun rq127 hq128 =>
        if rq125 = rq127 then
          lt (x3 + (6 : Int32)) fun xq129 =>
          f_Law_law_l18 L xs n xq129 hq128
        else
          some ((0 : Int32), hq128)
      else
      if ((xs (ix x3)) &&& (63 : Int32)) = (15 : Int32) then
        bI (f_H_redo h) fun rq131 hq132 =>
        bI (f_M_redo hq132) fun rq133 hq134 =>
        if rq131 = rq133 then
          lt (x3 + (6 : Int32)) fun xq135 =>
          f_Law_law_l18 L xs n xq135 hq134
        else
          some ((0 : Int32), hq134)
      else
      if ((xs (ix x3)) &&& (63 : Int32)) = (16 : Int32) then
        gx (x3 + (1 : Int32)) L <|
        gx (x3 + (2 : Int32)) L <|
        gx (x3 + (3 : Int32)) L <|
        bI (f_H_will (xs (ix (x3 + (1 : Int32)))) (xs (ix (x3 + (2 : Int32)))) (xs (ix (x3 + (3 : Int32)))) h) fun rq140 hq141 =>
        gx (x3 + (1 : Int32)) L <|
        gx (x3 + (2 : Int32)) L <|
        gx (x3 + (3 : Int32)) L <|
        bI (f_M_will (xs (ix (x3 + (1 : Int32)))) (xs (ix (x3 + (2 : Int32)))) (xs (ix (x3 + (3 : Int32)))) hq141) fun rq145 hq146 =>
        if rq140 = rq145 then
          lt (x3 + (6 : Int32)) fun xq147 =>
          f_Law_law_l18 L xs n xq147 hq146
        else
          some ((0 : Int32), hq146)
      else
      if ((xs (ix x3)) &&& (63 : Int32)) = (17 : Int32) then
        gx (x3 + (1 : Int32)) L <|
        gx (x3 + (2 : Int32)) L <|
        gx (x3 + (3 : Int32)) L <|
        bI (f_H_low (xs (ix (x3 + (1 : Int32)))) (xs (ix (x3 + (2 : Int32)))) (xs (ix (x3 + (3 : Int32)))) h) fun rq152 hq153 =>
        gx (x3 + (1 : Int32)) L <|
        gx (x3 + (2 : Int32)) L <|
        gx (x3 + (3 : Int32)) L <|
        bI (f_M_low (xs (ix (x3 + (1 : Int32)))) (xs (ix (x3 + (2 : Int32)))) (xs (ix (x3 + (3 : Int32)))) hq153) fun rq157 hq158 =>
        if rq152 = rq157 then
          lt (x3 + (6 : Int32)) fun xq159 =>
          f_Law_law_l18 L xs n xq159 hq158
        else
          some ((0 : Int32), hq158)
      else
      if ((xs (ix x3)) &&& (63 : Int32)) = (18 : Int32) then
        gx (x3 + (1 : Int32)) L <|
        gx (x3 + (2 : Int32)) L <|
        gx (x3 + (3 : Int32)) L <|
        bI (f_H_high (xs (ix (x3 + (1 : Int32)))) (xs (ix (x3 + (2 : Int32)))) (xs (ix (x3 + (3 : Int32)))) h) fun rq164 hq165 =>
        gx (x3 + (1 : Int32)) L <|
        gx (x3 + (2 : Int32)) L <|
        gx (x3 + (3 : Int32)) L <|
        bI (f_M_high (xs (ix (x3 + (1 : Int32)))) (xs (ix (x3 + (2 : Int32)))) (xs (ix (x3 + (3 : Int32)))) hq165) fun rq169 hq170 =>
        if rq164 = rq169 then
          lt (x3 + (6 : Int32)) fun xq171 =>
          f_Law_law_l18 L xs n xq171 hq170
        else
          some ((0 : Int32), hq170)
      else
      if ((xs (ix x3)) &&& (63 : Int32)) = (19 : Int32) then
        gx (x3 + (1 : Int32)) L <|
        gx (x3 + (2 : Int32)) L <|
        gx (x3 + (3 : Int32)) L <|
        gx (x3 + (4 : Int32)) L <|
        bI (f_H_plan (xs (ix (x3 + (1 : Int32)))) (xs (ix (x3 + (2 : Int32)))) (xs (ix (x3 + (3 : Int32)))) (xs (ix (x3 + (4 : Int32)))) h) fun rq177 hq178 =>
        gx (x3 + (1 : Int32)) L <|
        gx (x3 + (2 : Int32)) L <|
        gx (x3 + (3 : Int32)) L <|
        gx (x3 + (4 : Int32)) L <|
        bI (f_M_plan (xs (ix (x3 + (1 : Int32)))) (xs (ix (x3 + (2 : Int32)))) (xs (ix (x3 + (3 : Int32)))) (xs (ix (x3 + (4 : Int32)))) hq178) fun rq183 hq184 =>
        if rq177 = rq183 then
          lt (x3 + (6 : Int32)) fun xq185 =>
          f_Law_law_l18 L xs n xq185 hq184
        else
          some ((0 : Int32), hq184)
      else
      if ((xs (ix x3)) &&& (63 : Int32)) = (20 : Int32) then
        gx (x3 + (1 : Int32)) L <|
        bI (f_H_gain (xs (ix (x3 + (1 : Int32)))) h) fun rq188 hq189 =>
        gx (x3 + (1 : Int32)) L <|
        bI (f_M_gain (xs (ix (x3 + (1 : Int32)))) hq189) fun rq191 hq192 =>
        if rq188 = rq191 then
          lt (x3 + (6 : Int32)) fun xq193 =>
          f_Law_law_l18 L xs n xq193 hq192
        else
          some ((0 : Int32), hq192)
      else
      if ((xs (ix x3)) &&& (63 : Int32)) = (21 : Int32) then
        gx (x3 + (1 : Int32)) L <|
        bI (f_H_clear (xs (ix (x3 + (1 : Int32)))) h) fun rq196 hq197 =>
        gx (x3 + (1 : Int32)) L <|
        bI (f_M_clear (xs (ix (x3 + (1 : Int32)))) hq197) fun rq199 hq200 =>
        if rq196 = rq199 then
          lt (x3 + (6 : Int32)) fun xq201 =>
          f_Law_law_l18 L xs n xq201 hq200
        else
          some ((0 : Int32), hq200)
      else
      if ((xs (ix x3)) &&& (63 : Int32)) = (22 : Int32) then
        gx (x3 + (1 : Int32)) L <|
        bI (f_H_spoils (xs (ix (x3 + (1 : Int32)))) h) fun rq204 hq205 =>
        gx (x3 + (1 : Int32)) L <|
        bI (f_M_spoils (xs (ix (x3 + (1 : Int32)))) hq205) fun rq207 hq208 =>
        if rq204 = rq207 then
          lt (x3 + (6 : Int32)) fun xq209 =>
          f_Law_law_l18 L xs n xq209 hq208
        else
          some ((0 : Int32), hq208)
      else
      if ((xs (ix x3)) &&& (63 : Int32)) = (23 : Int32) then
        gx (x3 + (1 : Int32)) L <|
        bI (f_H_starve (xs (ix (x3 + (1 : Int32)))) h) fun rq212 hq213 =>
        gx (x3 + (1 : Int32)) L <|
        bI (f_M_starve (xs (ix (x3 + (1 : Int32)))) hq213) fun rq215 hq216 =>
        if rq212 = rq215 then
          lt (x3 + (6 : Int32)) fun xq217 =>
          f_Law_law_l18 L xs n xq217 hq216
        else
          some ((0 : Int32), hq216)
      else
      if ((xs (ix x3)) &&& (63 : Int32)) = (24 : Int32) then
        gx (x3 + (1 : Int32)) L <|
        bI (f_H_hush (xs (ix (x3 + (1 : Int32)))) h) fun rq220 hq221 =>
        gx (x3 + (1 : Int32)) L <|
        bI (f_M_hush (xs (ix (x3 + (1 : Int32)))) hq221) fun rq223 hq224 =>
        if rq220 = rq223 then
          lt (x3 + (6 : Int32)) fun xq225 =>
          f_Law_law_l18 L xs n xq225 hq224
        else
          some ((0 : Int32), hq224)
      else
      if ((xs (ix x3)) &&& (63 : Int32)) = (25 : Int32) then
        gx (x3 + (1 : Int32)) L <|
        gx (x3 + (2 : Int32)) L <|
        gx (x3 + (3 : Int32)) L <|
        gx (x3 + (4 : Int32)) L <|
        bI (f_H_mean (xs (ix (x3 + (1 : Int32)))) (xs (ix (x3 + (2 : Int32)))) (xs (ix (x3 + (3 : Int32)))) (xs (ix (x3 + (4 : Int32)))) h) fun rq231 hq232 =>
        gx (x3 + (1 : Int32)) L <|
        gx (x3 + (2 : Int32)) L <|
        gx (x3 + (3 : Int32)) L <|
        gx (x3 + (4 : Int32)) L <|
        bI (f_M_mean (xs (ix (x3 + (1 : Int32)))) (xs (ix (x3 + (2 : Int32)))) (xs (ix (x3 + (3 : Int32)))) (xs (ix (x3 + (4 : Int32)))) hq232) fun rq237 hq238 =>
        if rq231 = rq237 then
          lt (x3 + (6 : Int32)) fun xq239 =>
          f_Law_law_l18 L xs n xq239 hq238
        else
          some ((0 : Int32), hq238)
      else
      if ((xs (ix x3)) &&& (63 : Int32)) = (26 : Int32) then
        gx (x3 + (1 : Int32)) L <|
        gx (x3 + (2 : Int32)) L <|
        gx (x3 + (3 : Int32)) L <|
        bI (f_H_rest (xs (ix (x3 + (1 : Int32)))) (xs (ix (x3 + (2 : Int32)))) (xs (ix (x3 + (3 : Int32)))) h) fun rq244 hq245 =>
        gx (x3 + (1 : Int32)) L <|
        gx (x3 + (2 : Int32)) L <|
        gx (x3 + (3 : Int32)) L <|
        bI (f_M_rest (xs (ix (x3 + (1 : Int32)))) (xs (ix (x3 + (2 : Int32)))) (xs (ix (x3 + (3 : Int32)))) hq245) fun rq249 hq250 =>
        if rq244 = rq249 then
          lt (x3 + (6 : Int32)) fun xq251 =>
          f_Law_law_l18 L xs n xq251 hq250
        else
          some ((0 : Int32), hq250)
      else
      if ((xs (ix x3)) &&& (63 : Int32)) = (27 : Int32) then
        gx (x3 + (1 : Int32)) L <|
        gx (x3 + (2 : Int32)) L <|
        gx (x3 + (3 : Int32)) L <|
        gx (x3 + (4 : Int32)) L <|
        gx (x3 + (5 : Int32)) L <|
        bI (f_H_odds (xs (ix (x3 + (1 : Int32)))) (xs (ix (x3 + (2 : Int32)))) (xs (ix (x3 + (3 : Int32)))) (xs (ix (x3 + (4 : Int32)))) (xs (ix (x3 + (5 : Int32)))) h) fun rq258 hq259 =>
        gx (x3 + (1 : Int32)) L <|
        gx (x3 + (2 : Int32)) L <|
        gx (x3 + (3 : Int32)) L <|
        gx (x3 + (4 : Int32)) L <|
        gx (x3 + (5 : Int32)) L <|
        bI (f_M_odds (xs (ix (x3 + (1 : Int32)))) (xs (ix (x3 + (2 : Int32)))) (xs (ix (x3 + (3 : Int32)))) (xs (ix (x3 + (4 : Int32)))) (xs (ix (x3 + (5 : Int32)))) hq259) fun rq265 hq266 =>
        if rq258 = rq265 then
          lt (x3 + (6 : Int32)) fun xq267 =>
          f_Law_law_l18 L xs n xq267 hq266
        else
          some ((0 : Int32), hq266)
      else
      if ((xs (ix x3)) &&& (63 : Int32)) = (28 : Int32) then
        gx (x3 + (1 : Int32)) L <|
        bI (f_H_law (xs (ix (x3 + (1 : Int32)))) h) fun rq270 hq271 =>
        gx (x3 + (1 : Int32)) L <|
        bI (f_M_law (xs (ix (x3 + (1 : Int32)))) hq271) fun rq273 hq274 =>
        if rq270 = rq273 then
          lt (x3 + (6 : Int32)) fun xq275 =>
          f_Law_law_l18 L xs n xq275 hq274
        else
          some ((0 : Int32), hq274)
      else
      if ((xs (ix x3)) &&& (63 : Int32)) = (29 : Int32) then
        gx (x3 + (1 : Int32)) L <|
        bI (f_H_song (xs (ix (x3 + (1 : Int32)))) h) fun rq278 hq279 =>
        gx (x3 + (1 : Int32)) L <|
        bI (f_M_song (xs (ix (x3 + (1 : Int32)))) hq279) fun rq281 hq282 =>
        if rq278 = rq281 then
          lt (x3 + (6 : Int32)) fun xq283 =>
          f_Law_law_l18 L xs n xq283 hq282
        else
          some ((0 : Int32), hq282)
      else
      if ((xs (ix x3)) &&& (63 : Int32)) = (30 : Int32) then
        gx (x3 + (1 : Int32)) L <|
        bI (f_H_songs (xs (ix (x3 + (1 : Int32)))) h) fun rq286 hq287 =>
        gx (x3 + (1 : Int32)) L <|
        bI (f_M_songs (xs (ix (x3 + (1 : Int32)))) hq287) fun rq289 hq290 =>
        if rq286 = rq289 then
          lt (x3 + (6 : Int32)) fun xq291 =>
          f_Law_law_l18 L xs n xq291 hq290
        else
          some ((0 : Int32), hq290)
      else
      if ((xs (ix x3)) &&& (63 : Int32)) = (31 : Int32) then
        gx (x3 + (1 : Int32)) L <|
        bI (f_H_lies (xs (ix (x3 + (1 : Int32)))) h) fun rq294 hq295 =>
        gx (x3 + (1 : Int32)) L <|
        bI (f_M_lies (xs (ix (x3 + (1 : Int32)))) hq295) fun rq297 hq298 =>
        if rq294 = rq297 then
          lt (x3 + (6 : Int32)) fun xq299 =>
          f_Law_law_l18 L xs n xq299 hq298
        else
          some ((0 : Int32), hq298)
      else
      if ((xs (ix x3)) &&& (63 : Int32)) = (32 : Int32) then
        gx (x3 + (1 : Int32)) L <|
        gx (x3 + (2 : Int32)) L <|
        gx (x3 + (3 : Int32)) L <|
        if (xs (ix (x3 + (3 : Int32)))) = 0 then
          f_Law_law_b1182 L xs (f_Law_law_l18 L xs n) x3 (xs (ix (x3 + (1 : Int32)))) (xs (ix (x3 + (2 : Int32)))) (0 : Int32) h
        else
          f_Law_law_b1182 L xs (f_Law_law_l18 L xs n) x3 (xs (ix (x3 + (1 : Int32)))) (xs (ix (x3 + (2 : Int32)))) (1 : Int32) h
      else
      if ((xs (ix x3)) &&& (63 : Int32)) = (33 : Int32) then
        gx (x3 + (1 : Int32)) L <|
        bI (f_H_untell (xs (ix (x3 + (1 : Int32)))) h) fun rq306 hq307 =>
        gx (x3 + (1 : Int32)) L <|
        bI (f_M_untell (xs (ix (x3 + (1 : Int32)))) hq307) fun rq309 hq310 =>
        if rq306 = rq309 then
          lt (x3 + (6 : Int32)) fun xq311 =>
          f_Law_law_l18 L xs n xq311 hq310
        else
          some ((0 : Int32), hq310)
      else
      if ((xs (ix x3)) &&& (63 : Int32)) = (34 : Int32) then
        gx (x3 + (1 : Int32)) L <|
        bI (f_H_later (xs (ix (x3 + (1 : Int32)))) h) fun rq314 hq315 =>
        gx (x3 + (1 : Int32)) L <|
        bI (f_M_later (xs (ix (x3 + (1 : Int32)))) hq315) fun rq317 hq318 =>
        if rq314 = rq317 then
          lt (x3 + (6 : Int32)) fun xq319 =>
          f_Law_law_l18 L xs n xq319 hq318
        else
          some ((0 : Int32), hq318)
      else
      if ((xs (ix x3)) &&& (63 : Int32)) = (35 : Int32) then
        gx (x3 + (1 : Int32)) L <|
        bI (f_H_fits (xs (ix (x3 + (1 : Int32)))) h) fun rq322 hq323 =>
        gx (x3 + (1 : Int32)) L <|
        bI (f_M_fits (xs (ix (x3 + (1 : Int32)))) hq323) fun rq325 hq326 =>
        if rq322 = rq325 then
          lt (x3 + (6 : Int32)) fun xq327 =>
          f_Law_law_l18 L xs n xq327 hq326
        else
          some ((0 : Int32), hq326)
      else
      if ((xs (ix x3)) &&& (63 : Int32)) = (36 : Int32) then
        gx (x3 + (1 : Int32)) L <|
        bI (f_H_sure (xs (ix (x3 + (1 : Int32)))) h) fun rq330 hq331 =>
        gx (x3 + (1 : Int32)) L <|
        bI (f_M_sure (xs (ix (x3 + (1 : Int32)))) hq331) fun rq333 hq334 =>
        if rq330 = rq333 then
          lt (x3 + (6 : Int32)) fun xq335 =>
          f_Law_law_l18 L xs n xq335 hq334
        else
          some ((0 : Int32), hq334)
      else
      if ((xs (ix x3)) &&& (63 : Int32)) = (37 : Int32) then
        gx (x3 + (1 : Int32)) L <|
        gx (x3 + (2 : Int32)) L <|
        gx (x3 + (3 : Int32)) L <|
        bI (f_H_ask (xs (ix (x3 + (1 : Int32)))) (xs (ix (x3 + (2 : Int32)))) (xs (ix (x3 + (3 : Int32)))) h) fun rq340 hq341 =>
        gx (x3 + (1 : Int32)) L <|
        gx (x3 + (2 : Int32)) L <|
        gx (x3 + (3 : Int32)) L <|
        bI (f_M_ask (xs (ix (x3 + (1 : Int32)))) (xs (ix (x3 + (2 : Int32)))) (xs (ix (x3 + (3 : Int32)))) hq341) fun rq345 hq346 =>
        if rq340 = rq345 then
          lt (x3 + (6 : Int32)) fun xq347 =>
          f_Law_law_l18 L xs n xq347 hq346
        else
          some ((0 : Int32), hq346)
      else
      if ((xs (ix x3)) &&& (63 : Int32)) = (38 : Int32) then
        gx (x3 + (1 : Int32)) L <|
        bI (f_H_image (xs (ix (x3 + (1 : Int32)))) h) fun rq350 hq351 =>
        gx (x3 + (1 : Int32)) L <|
        bI (f_M_image (xs (ix (x3 + (1 : Int32)))) hq351) fun rq353 hq354 =>
        if rq350 = rq353 then
          lt (x3 + (6 : Int32)) fun xq355 =>
          f_Law_law_l18 L xs n xq355 hq354
        else
          some ((0 : Int32), hq354)
      else
      if ((xs (ix x3)) &&& (63 : Int32)) = (39 : Int32) then
        gx (x3 + (1 : Int32)) L <|
        bI (f_H_back (xs (ix (x3 + (1 : Int32)))) h) fun rq358 hq359 =>
        gx (x3 + (1 : Int32)) L <|
        bI (f_M_back (xs (ix (x3 + (1 : Int32)))) hq359) fun rq361 hq362 =>
        if rq358 = rq361 then
          lt (x3 + (6 : Int32)) fun xq363 =>
          f_Law_law_l18 L xs n xq363 hq362
        else
          some ((0 : Int32), hq362)
      else
      if ((xs (ix x3)) &&& (63 : Int32)) = (40 : Int32) then
        gx (x3 + (1 : Int32)) L <|
        bI (f_H_about (xs (ix (x3 + (1 : Int32)))) h) fun rq366 hq367 =>
        gx (x3 + (1 : Int32)) L <|
        bI (f_M_about (xs (ix (x3 + (1 : Int32)))) hq367) fun rq369 hq370 =>
        if rq366 = rq369 then
          lt (x3 + (6 : Int32)) fun xq371 =>
          f_Law_law_l18 L xs n xq371 hq370
        else
          some ((0 : Int32), hq370)
      else
        lt (x3 + (6 : Int32)) fun xq372 =>
        f_Law_law_l18 L xs n xq372 h
set_option maxHeartbeats 2000000 in
theorem o_Law_law_l18 {G : AE} (hn : NN ≤ NN) {L : Nat} {xs : Nat → Int32} (hL : (eX G).2.1 = L) (hxs : (eX G).2.2 = xs)    : ∀ (n0 : Nat) (x3 : Int32) (h : AH), AR G (Std NN) y_Law_law room_1 (zLaw G) φI (421, 19096) 18 [some (.float 1), some (.ref 0), some (.ref 383), some (.int x3)] [] h (f_Law_law_l18 L xs n0 x3 h) := by
  intro n0
  induction n0 with
  | zero => intros; exact r_none
  | succ n0 ih =>
    intro x3 h
    rw [f_Law_law_l18]
    refine r_iload_n (pc := 18) (i := 3) d_Law_law_18 rfl rfl ?_
    refine r_aloadF_n (pc := 19) (i := 0) (cv_1 G) d_Law_law_19 rfl rfl ?_
    refine r_slen (pc := 20) hL d_Law_law_20 ?_
    refine r_bipush (pc := 21) (v := 6) d_Law_law_21 (by rfl) ?_
    refine r_isub (pc := 23) d_Law_law_23 ?_
    refine r_icmp_gt (pc := 24) (tgt := 1427) d_Law_law_24 (by rfl) ?_ ?_
    · refine r_iconst (pc := 1427) (v := 1) d_Law_law_1427 (by rfl) ?_
      exact r_lret1 (pc := 1428) d_Law_law_1428 (by exact Nat.le_of_ble_eq_true rfl) (by exact Nat.le_of_ble_eq_true rfl)
    · refine r_aloadF_n (pc := 27) (i := 0) (cv_1 G) d_Law_law_27 rfl rfl ?_
      refine r_iload_n (pc := 28) (i := 3) d_Law_law_28 rfl rfl ?_
      refine r_gx (fun zq1 => ?_)
      refine r_sld (pc := 29) hL hxs zq1 d_Law_law_29 ?_
      refine r_bipush (pc := 30) (v := 63) d_Law_law_30 (by rfl) ?_
      refine r_iand (pc := 32) d_Law_law_32 ?_
      refine r_split (fun cq2 => ?_) (fun cq2 => ?_)
      · refine r_tableIn (pc := 33) (tgt := 212) d_Law_law_33 (by rw [cq2]; decide) (by rw [cq2]; decide) (by rw [cq2] <;> rfl) (by rfl) ?_
        refine r_aload_n (pc := 212) (i := 1) d_Law_law_212 rfl rfl ?_
        refine r_aloadF_n (pc := 213) (i := 0) (cv_1 G) d_Law_law_213 rfl rfl ?_
        refine r_iload_n (pc := 214) (i := 3) d_Law_law_214 rfl rfl ?_
        refine r_iconst (pc := 215) (v := 1) d_Law_law_215 (by rfl) ?_
        refine r_iadd (pc := 216) d_Law_law_216 ?_
        refine r_gx (fun zq3 => ?_)
        refine r_sld (pc := 217) hL hxs zq3 d_Law_law_217 ?_
        refine r_aloadF_n (pc := 218) (i := 0) (cv_1 G) d_Law_law_218 rfl rfl ?_
        refine r_iload_n (pc := 219) (i := 3) d_Law_law_219 rfl rfl ?_
        refine r_iconst (pc := 220) (v := 2) d_Law_law_220 (by rfl) ?_
        refine r_iadd (pc := 221) d_Law_law_221 ?_
        refine r_gx (fun zq4 => ?_)
        refine r_sld (pc := 222) hL hxs zq4 d_Law_law_222 ?_
        refine r_aloadF_n (pc := 223) (i := 0) (cv_1 G) d_Law_law_223 rfl rfl ?_
        refine r_iload_n (pc := 224) (i := 3) d_Law_law_224 rfl rfl ?_
        refine r_iconst (pc := 225) (v := 3) d_Law_law_225 (by rfl) ?_
        refine r_iadd (pc := 226) d_Law_law_226 ?_
        refine r_gx (fun zq5 => ?_)
        refine r_sld (pc := 227) hL hxs zq5 d_Law_law_227 ?_
        refine r_aloadF_n (pc := 228) (i := 0) (cv_1 G) d_Law_law_228 rfl rfl ?_
        refine r_iload_n (pc := 229) (i := 3) d_Law_law_229 rfl rfl ?_
        refine r_iconst (pc := 230) (v := 4) d_Law_law_230 (by rfl) ?_
        refine r_iadd (pc := 231) d_Law_law_231 ?_
        refine r_gx (fun zq6 => ?_)
        refine r_sld (pc := 232) hL hxs zq6 d_Law_law_232 ?_
        refine r_aloadF_n (pc := 233) (i := 0) (cv_1 G) d_Law_law_233 rfl rfl ?_
        refine r_iload_n (pc := 234) (i := 3) d_Law_law_234 rfl rfl ?_
        refine r_iconst (pc := 235) (v := 5) d_Law_law_235 (by rfl) ?_
        refine r_iadd (pc := 236) d_Law_law_236 ?_
        refine r_gx (fun zq7 => ?_)
        refine r_sld (pc := 237) hL hxs zq7 d_Law_law_237 ?_
        refine r_cVi (pc := 238) (T := F_11) (N := 13) (st := []) (ok_H_feed hn (xs (ix (x3 + (1 : Int32)))) (xs (ix (x3 + (2 : Int32)))) (xs (ix (x3 + (3 : Int32)))) (xs (ix (x3 + (4 : Int32)))) (xs (ix (x3 + (5 : Int32)))) h) (fun s => Std.k s (lc hn rfl) kq_0) rfl w_465 w_1 w_462 w_463 w_464 hy_H_feed ⟨Nat.le_of_ble_eq_true rfl, Nat.le_of_ble_eq_true rfl⟩ ⟨Nat.le_of_ble_eq_true rfl, Nat.le_of_ble_eq_true rfl⟩ rfl (Nat.le_of_ble_eq_true rfl) d_Law_law_238 (fun rq8 hq9 => ?_)
        refine r_aload_n (pc := 241) (i := 2) d_Law_law_241 rfl rfl ?_
        refine r_aloadF_n (pc := 242) (i := 0) (cv_1 G) d_Law_law_242 rfl rfl ?_
        refine r_iload_n (pc := 243) (i := 3) d_Law_law_243 rfl rfl ?_
        refine r_iconst (pc := 244) (v := 1) d_Law_law_244 (by rfl) ?_
        refine r_iadd (pc := 245) d_Law_law_245 ?_
        refine r_gx (fun zq10 => ?_)
        refine r_sld (pc := 246) hL hxs zq10 d_Law_law_246 ?_
        refine r_aloadF_n (pc := 247) (i := 0) (cv_1 G) d_Law_law_247 rfl rfl ?_
        refine r_iload_n (pc := 248) (i := 3) d_Law_law_248 rfl rfl ?_
        refine r_iconst (pc := 249) (v := 2) d_Law_law_249 (by rfl) ?_
        refine r_iadd (pc := 250) d_Law_law_250 ?_
        refine r_gx (fun zq11 => ?_)
        refine r_sld (pc := 251) hL hxs zq11 d_Law_law_251 ?_
        refine r_aloadF_n (pc := 252) (i := 0) (cv_1 G) d_Law_law_252 rfl rfl ?_
        refine r_iload_n (pc := 253) (i := 3) d_Law_law_253 rfl rfl ?_
        refine r_iconst (pc := 254) (v := 3) d_Law_law_254 (by rfl) ?_
        refine r_iadd (pc := 255) d_Law_law_255 ?_
        refine r_gx (fun zq12 => ?_)
        refine r_sld (pc := 256) hL hxs zq12 d_Law_law_256 ?_
        refine r_aloadF_n (pc := 257) (i := 0) (cv_1 G) d_Law_law_257 rfl rfl ?_
        refine r_iload_n (pc := 258) (i := 3) d_Law_law_258 rfl rfl ?_
        refine r_iconst (pc := 259) (v := 4) d_Law_law_259 (by rfl) ?_
        refine r_iadd (pc := 260) d_Law_law_260 ?_
        refine r_gx (fun zq13 => ?_)
        refine r_sld (pc := 261) hL hxs zq13 d_Law_law_261 ?_
        refine r_aloadF_n (pc := 262) (i := 0) (cv_1 G) d_Law_law_262 rfl rfl ?_
        refine r_iload_n (pc := 263) (i := 3) d_Law_law_263 rfl rfl ?_
        refine r_iconst (pc := 264) (v := 5) d_Law_law_264 (by rfl) ?_
        refine r_iadd (pc := 265) d_Law_law_265 ?_
        refine r_gx (fun zq14 => ?_)
        refine r_sld (pc := 266) hL hxs zq14 d_Law_law_266 ?_
        refine r_cVi (pc := 267) (T := F_12) (N := 73) (st := [.int rq8]) (ok_M_feed hn (xs (ix (x3 + (1 : Int32)))) (xs (ix (x3 + (2 : Int32)))) (xs (ix (x3 + (3 : Int32)))) (xs (ix (x3 + (4 : Int32)))) (xs (ix (x3 + (5 : Int32)))) hq9) (fun s => Std.k s (lc hn rfl) kq_383) rfl w_1309 w_13 w_1306 w_1307 w_1308 hy_M_feed ⟨Nat.le_of_ble_eq_true rfl, Nat.le_of_ble_eq_true rfl⟩ ⟨Nat.le_of_ble_eq_true rfl, Nat.le_of_ble_eq_true rfl⟩ rfl (Nat.le_of_ble_eq_true rfl) d_Law_law_267 (fun rq15 hq16 => ?_)
        refine r_icmp_eq (pc := 270) (tgt := 1421) d_Law_law_270 (by rfl) ?_ ?_
        · refine r_ltE (fun xq17 exq17 => ?_)
          refine r_iinc (pc := 1421) (v := xq17) (lv1 := [some (.float 1), some (.ref 0), some (.ref 383), some (.int xq17)]) d_Law_law_1421 rfl exq17.symm (Nat.le_of_ble_eq_true rfl) rfl ?_
          refine r_goto (pc := 1424) (tgt := 18) d_Law_law_1424 (by rfl) ?_
          exact r_wk (ih xq17 hq16) ⟨rfl, ⟨rfl, ⟨rfl, ⟨rfl, trivial⟩⟩⟩⟩
        · refine r_iconst (pc := 273) (v := 0) d_Law_law_273 (by rfl) ?_
          exact r_lret0 d_Law_law_274
      refine r_split (fun cq18 => ?_) (fun cq18 => ?_)
      · refine r_tableIn (pc := 33) (tgt := 275) d_Law_law_33 (by rw [cq18]; decide) (by rw [cq18]; decide) (by rw [cq18] <;> rfl) (by rfl) ?_
        refine r_aload_n (pc := 275) (i := 1) d_Law_law_275 rfl rfl ?_
        refine r_aloadF_n (pc := 276) (i := 0) (cv_1 G) d_Law_law_276 rfl rfl ?_
        refine r_iload_n (pc := 277) (i := 3) d_Law_law_277 rfl rfl ?_
        refine r_iconst (pc := 278) (v := 1) d_Law_law_278 (by rfl) ?_
        refine r_iadd (pc := 279) d_Law_law_279 ?_
        refine r_gx (fun zq19 => ?_)
        refine r_sld (pc := 280) hL hxs zq19 d_Law_law_280 ?_
        refine r_cVi (pc := 281) (T := F_11) (N := 13) (st := []) (ok_H_end hn (xs (ix (x3 + (1 : Int32)))) h) (fun s => Std.k s (lc hn rfl) kq_0) rfl w_473 w_1 w_470 w_471 w_472 hy_H_end ⟨Nat.le_of_ble_eq_true rfl, Nat.le_of_ble_eq_true rfl⟩ ⟨Nat.le_of_ble_eq_true rfl, Nat.le_of_ble_eq_true rfl⟩ rfl (Nat.le_of_ble_eq_true rfl) d_Law_law_281 (fun rq20 hq21 => ?_)
        refine r_aload_n (pc := 284) (i := 2) d_Law_law_284 rfl rfl ?_
        refine r_aloadF_n (pc := 285) (i := 0) (cv_1 G) d_Law_law_285 rfl rfl ?_
        refine r_iload_n (pc := 286) (i := 3) d_Law_law_286 rfl rfl ?_
        refine r_iconst (pc := 287) (v := 1) d_Law_law_287 (by rfl) ?_
        refine r_iadd (pc := 288) d_Law_law_288 ?_
        refine r_gx (fun zq22 => ?_)
        refine r_sld (pc := 289) hL hxs zq22 d_Law_law_289 ?_
        refine r_cVi (pc := 290) (T := F_12) (N := 73) (st := [.int rq20]) (ok_M_end hn (xs (ix (x3 + (1 : Int32)))) hq21) (fun s => Std.k s (lc hn rfl) kq_383) rfl w_1317 w_13 w_1314 w_1315 w_1316 hy_M_end ⟨Nat.le_of_ble_eq_true rfl, Nat.le_of_ble_eq_true rfl⟩ ⟨Nat.le_of_ble_eq_true rfl, Nat.le_of_ble_eq_true rfl⟩ rfl (Nat.le_of_ble_eq_true rfl) d_Law_law_290 (fun rq23 hq24 => ?_)
        refine r_icmp_eq (pc := 293) (tgt := 1421) d_Law_law_293 (by rfl) ?_ ?_
        · refine r_ltE (fun xq25 exq25 => ?_)
          refine r_iinc (pc := 1421) (v := xq25) (lv1 := [some (.float 1), some (.ref 0), some (.ref 383), some (.int xq25)]) d_Law_law_1421 rfl exq25.symm (Nat.le_of_ble_eq_true rfl) rfl ?_
          refine r_goto (pc := 1424) (tgt := 18) d_Law_law_1424 (by rfl) ?_
          exact r_wk (ih xq25 hq24) ⟨rfl, ⟨rfl, ⟨rfl, ⟨rfl, trivial⟩⟩⟩⟩
        · refine r_iconst (pc := 296) (v := 0) d_Law_law_296 (by rfl) ?_
          exact r_lret0 d_Law_law_297
      refine r_split (fun cq26 => ?_) (fun cq26 => ?_)
      · refine r_tableIn (pc := 33) (tgt := 298) d_Law_law_33 (by rw [cq26]; decide) (by rw [cq26]; decide) (by rw [cq26] <;> rfl) (by rfl) ?_
        refine r_aload_n (pc := 298) (i := 1) d_Law_law_298 rfl rfl ?_
        refine r_cVi (pc := 299) (T := F_11) (N := 13) (st := []) (ok_H_market hn h) (fun s => Std.k s (lc hn rfl) kq_0) rfl w_477 w_1 w_474 w_475 w_476 hy_H_market ⟨Nat.le_of_ble_eq_true rfl, Nat.le_of_ble_eq_true rfl⟩ ⟨Nat.le_of_ble_eq_true rfl, Nat.le_of_ble_eq_true rfl⟩ rfl (Nat.le_of_ble_eq_true rfl) d_Law_law_299 (fun rq27 hq28 => ?_)
        refine r_aload_n (pc := 302) (i := 2) d_Law_law_302 rfl rfl ?_
        refine r_cVi (pc := 303) (T := F_12) (N := 73) (st := [.int rq27]) (ok_M_market hn hq28) (fun s => Std.k s (lc hn rfl) kq_383) rfl w_1321 w_13 w_1318 w_1319 w_1320 hy_M_market ⟨Nat.le_of_ble_eq_true rfl, Nat.le_of_ble_eq_true rfl⟩ ⟨Nat.le_of_ble_eq_true rfl, Nat.le_of_ble_eq_true rfl⟩ rfl (Nat.le_of_ble_eq_true rfl) d_Law_law_303 (fun rq29 hq30 => ?_)
        refine r_icmp_eq (pc := 306) (tgt := 1421) d_Law_law_306 (by rfl) ?_ ?_
        · refine r_ltE (fun xq31 exq31 => ?_)
          refine r_iinc (pc := 1421) (v := xq31) (lv1 := [some (.float 1), some (.ref 0), some (.ref 383), some (.int xq31)]) d_Law_law_1421 rfl exq31.symm (Nat.le_of_ble_eq_true rfl) rfl ?_
          refine r_goto (pc := 1424) (tgt := 18) d_Law_law_1424 (by rfl) ?_
          exact r_wk (ih xq31 hq30) ⟨rfl, ⟨rfl, ⟨rfl, ⟨rfl, trivial⟩⟩⟩⟩
        · refine r_iconst (pc := 309) (v := 0) d_Law_law_309 (by rfl) ?_
          exact r_lret0 d_Law_law_310
      refine r_split (fun cq32 => ?_) (fun cq32 => ?_)
      · refine r_tableIn (pc := 33) (tgt := 311) d_Law_law_33 (by rw [cq32]; decide) (by rw [cq32]; decide) (by rw [cq32] <;> rfl) (by rfl) ?_
        refine r_aload_n (pc := 311) (i := 1) d_Law_law_311 rfl rfl ?_
        refine r_aloadF_n (pc := 312) (i := 0) (cv_1 G) d_Law_law_312 rfl rfl ?_
        refine r_iload_n (pc := 313) (i := 3) d_Law_law_313 rfl rfl ?_
        refine r_iconst (pc := 314) (v := 1) d_Law_law_314 (by rfl) ?_
        refine r_iadd (pc := 315) d_Law_law_315 ?_
        refine r_gx (fun zq33 => ?_)
        refine r_sld (pc := 316) hL hxs zq33 d_Law_law_316 ?_
        refine r_cVi (pc := 317) (T := F_11) (N := 13) (st := []) (ok_H_fault hn (xs (ix (x3 + (1 : Int32)))) h) (fun s => Std.k s (lc hn rfl) kq_0) rfl w_656 w_1 w_653 w_654 w_655 hy_H_fault ⟨Nat.le_of_ble_eq_true rfl, Nat.le_of_ble_eq_true rfl⟩ ⟨Nat.le_of_ble_eq_true rfl, Nat.le_of_ble_eq_true rfl⟩ rfl (Nat.le_of_ble_eq_true rfl) d_Law_law_317 (fun rq34 hq35 => ?_)
        refine r_aload_n (pc := 320) (i := 2) d_Law_law_320 rfl rfl ?_
        refine r_aloadF_n (pc := 321) (i := 0) (cv_1 G) d_Law_law_321 rfl rfl ?_
        refine r_iload_n (pc := 322) (i := 3) d_Law_law_322 rfl rfl ?_
        refine r_iconst (pc := 323) (v := 1) d_Law_law_323 (by rfl) ?_
        refine r_iadd (pc := 324) d_Law_law_324 ?_
        refine r_gx (fun zq36 => ?_)
        refine r_sld (pc := 325) hL hxs zq36 d_Law_law_325 ?_
        refine r_cVi (pc := 326) (T := F_12) (N := 73) (st := [.int rq34]) (ok_M_fault hn (xs (ix (x3 + (1 : Int32)))) hq35) (fun s => Std.k s (lc hn rfl) kq_383) rfl w_1468 w_13 w_1465 w_1466 w_1467 hy_M_fault ⟨Nat.le_of_ble_eq_true rfl, Nat.le_of_ble_eq_true rfl⟩ ⟨Nat.le_of_ble_eq_true rfl, Nat.le_of_ble_eq_true rfl⟩ rfl (Nat.le_of_ble_eq_true rfl) d_Law_law_326 (fun rq37 hq38 => ?_)
        refine r_icmp_eq (pc := 329) (tgt := 1421) d_Law_law_329 (by rfl) ?_ ?_
        · refine r_ltE (fun xq39 exq39 => ?_)
          refine r_iinc (pc := 1421) (v := xq39) (lv1 := [some (.float 1), some (.ref 0), some (.ref 383), some (.int xq39)]) d_Law_law_1421 rfl exq39.symm (Nat.le_of_ble_eq_true rfl) rfl ?_
          refine r_goto (pc := 1424) (tgt := 18) d_Law_law_1424 (by rfl) ?_
          exact r_wk (ih xq39 hq38) ⟨rfl, ⟨rfl, ⟨rfl, ⟨rfl, trivial⟩⟩⟩⟩
        · refine r_iconst (pc := 332) (v := 0) d_Law_law_332 (by rfl) ?_
          exact r_lret0 d_Law_law_333
      refine r_split (fun cq40 => ?_) (fun cq40 => ?_)
      · refine r_tableIn (pc := 33) (tgt := 334) d_Law_law_33 (by rw [cq40]; decide) (by rw [cq40]; decide) (by rw [cq40] <;> rfl) (by rfl) ?_
        refine r_aload_n (pc := 334) (i := 1) d_Law_law_334 rfl rfl ?_
        refine r_aloadF_n (pc := 335) (i := 0) (cv_1 G) d_Law_law_335 rfl rfl ?_
        refine r_iload_n (pc := 336) (i := 3) d_Law_law_336 rfl rfl ?_
        refine r_iconst (pc := 337) (v := 1) d_Law_law_337 (by rfl) ?_
        refine r_iadd (pc := 338) d_Law_law_338 ?_
        refine r_gx (fun zq41 => ?_)
        refine r_sld (pc := 339) hL hxs zq41 d_Law_law_339 ?_
        refine r_aloadF_n (pc := 340) (i := 0) (cv_1 G) d_Law_law_340 rfl rfl ?_
        refine r_iload_n (pc := 341) (i := 3) d_Law_law_341 rfl rfl ?_
        refine r_iconst (pc := 342) (v := 2) d_Law_law_342 (by rfl) ?_
        refine r_iadd (pc := 343) d_Law_law_343 ?_
        refine r_gx (fun zq42 => ?_)
        refine r_sld (pc := 344) hL hxs zq42 d_Law_law_344 ?_
        refine r_cVi (pc := 345) (T := F_11) (N := 13) (st := []) (ok_H_dealer hn (xs (ix (x3 + (1 : Int32)))) (xs (ix (x3 + (2 : Int32)))) h) (fun s => Std.k s (lc hn rfl) kq_0) rfl w_660 w_1 w_657 w_658 w_659 hy_H_dealer ⟨Nat.le_of_ble_eq_true rfl, Nat.le_of_ble_eq_true rfl⟩ ⟨Nat.le_of_ble_eq_true rfl, Nat.le_of_ble_eq_true rfl⟩ rfl (Nat.le_of_ble_eq_true rfl) d_Law_law_345 (fun rq43 hq44 => ?_)
        refine r_aload_n (pc := 348) (i := 2) d_Law_law_348 rfl rfl ?_
        refine r_aloadF_n (pc := 349) (i := 0) (cv_1 G) d_Law_law_349 rfl rfl ?_
        refine r_iload_n (pc := 350) (i := 3) d_Law_law_350 rfl rfl ?_
        refine r_iconst (pc := 351) (v := 1) d_Law_law_351 (by rfl) ?_
        refine r_iadd (pc := 352) d_Law_law_352 ?_
        refine r_gx (fun zq45 => ?_)
        refine r_sld (pc := 353) hL hxs zq45 d_Law_law_353 ?_
        refine r_aloadF_n (pc := 354) (i := 0) (cv_1 G) d_Law_law_354 rfl rfl ?_
        refine r_iload_n (pc := 355) (i := 3) d_Law_law_355 rfl rfl ?_
        refine r_iconst (pc := 356) (v := 2) d_Law_law_356 (by rfl) ?_
        refine r_iadd (pc := 357) d_Law_law_357 ?_
        refine r_gx (fun zq46 => ?_)
        refine r_sld (pc := 358) hL hxs zq46 d_Law_law_358 ?_
        refine r_cVi (pc := 359) (T := F_12) (N := 73) (st := [.int rq43]) (ok_M_dealer hn (xs (ix (x3 + (1 : Int32)))) (xs (ix (x3 + (2 : Int32)))) hq44) (fun s => Std.k s (lc hn rfl) kq_383) rfl w_1472 w_13 w_1469 w_1470 w_1471 hy_M_dealer ⟨Nat.le_of_ble_eq_true rfl, Nat.le_of_ble_eq_true rfl⟩ ⟨Nat.le_of_ble_eq_true rfl, Nat.le_of_ble_eq_true rfl⟩ rfl (Nat.le_of_ble_eq_true rfl) d_Law_law_359 (fun rq47 hq48 => ?_)
        refine r_icmp_eq (pc := 362) (tgt := 1421) d_Law_law_362 (by rfl) ?_ ?_
        · refine r_ltE (fun xq49 exq49 => ?_)
          refine r_iinc (pc := 1421) (v := xq49) (lv1 := [some (.float 1), some (.ref 0), some (.ref 383), some (.int xq49)]) d_Law_law_1421 rfl exq49.symm (Nat.le_of_ble_eq_true rfl) rfl ?_
          refine r_goto (pc := 1424) (tgt := 18) d_Law_law_1424 (by rfl) ?_
          exact r_wk (ih xq49 hq48) ⟨rfl, ⟨rfl, ⟨rfl, ⟨rfl, trivial⟩⟩⟩⟩
        · refine r_iconst (pc := 365) (v := 0) d_Law_law_365 (by rfl) ?_
          exact r_lret0 d_Law_law_366
      refine r_split (fun cq50 => ?_) (fun cq50 => ?_)
      · refine r_tableIn (pc := 33) (tgt := 367) d_Law_law_33 (by rw [cq50]; decide) (by rw [cq50]; decide) (by rw [cq50] <;> rfl) (by rfl) ?_
        refine r_aload_n (pc := 367) (i := 1) d_Law_law_367 rfl rfl ?_
        refine r_cVi (pc := 368) (T := F_11) (N := 13) (st := []) (ok_H_heat hn h) (fun s => Std.k s (lc hn rfl) kq_0) rfl w_713 w_1 w_710 w_711 w_712 hy_H_heat ⟨Nat.le_of_ble_eq_true rfl, Nat.le_of_ble_eq_true rfl⟩ ⟨Nat.le_of_ble_eq_true rfl, Nat.le_of_ble_eq_true rfl⟩ rfl (Nat.le_of_ble_eq_true rfl) d_Law_law_368 (fun rq51 hq52 => ?_)
        refine r_aload_n (pc := 371) (i := 2) d_Law_law_371 rfl rfl ?_
        refine r_cVi (pc := 372) (T := F_12) (N := 73) (st := [.int rq51]) (ok_M_heat hn hq52) (fun s => Std.k s (lc hn rfl) kq_383) rfl w_1524 w_13 w_1521 w_1522 w_1523 hy_M_heat ⟨Nat.le_of_ble_eq_true rfl, Nat.le_of_ble_eq_true rfl⟩ ⟨Nat.le_of_ble_eq_true rfl, Nat.le_of_ble_eq_true rfl⟩ rfl (Nat.le_of_ble_eq_true rfl) d_Law_law_372 (fun rq53 hq54 => ?_)
        refine r_icmp_eq (pc := 375) (tgt := 1421) d_Law_law_375 (by rfl) ?_ ?_
        · refine r_ltE (fun xq55 exq55 => ?_)
          refine r_iinc (pc := 1421) (v := xq55) (lv1 := [some (.float 1), some (.ref 0), some (.ref 383), some (.int xq55)]) d_Law_law_1421 rfl exq55.symm (Nat.le_of_ble_eq_true rfl) rfl ?_
          refine r_goto (pc := 1424) (tgt := 18) d_Law_law_1424 (by rfl) ?_
          exact r_wk (ih xq55 hq54) ⟨rfl, ⟨rfl, ⟨rfl, ⟨rfl, trivial⟩⟩⟩⟩
        · refine r_iconst (pc := 378) (v := 0) d_Law_law_378 (by rfl) ?_
          exact r_lret0 d_Law_law_379
      refine r_split (fun cq56 => ?_) (fun cq56 => ?_)
      · refine r_tableIn (pc := 33) (tgt := 380) d_Law_law_33 (by rw [cq56]; decide) (by rw [cq56]; decide) (by rw [cq56] <;> rfl) (by rfl) ?_
        refine r_aload_n (pc := 380) (i := 1) d_Law_law_380 rfl rfl ?_
        refine r_aloadF_n (pc := 381) (i := 0) (cv_1 G) d_Law_law_381 rfl rfl ?_
        refine r_iload_n (pc := 382) (i := 3) d_Law_law_382 rfl rfl ?_
        refine r_iconst (pc := 383) (v := 1) d_Law_law_383 (by rfl) ?_
        refine r_iadd (pc := 384) d_Law_law_384 ?_
        refine r_gx (fun zq57 => ?_)
        refine r_sld (pc := 385) hL hxs zq57 d_Law_law_385 ?_
        refine r_aloadF_n (pc := 386) (i := 0) (cv_1 G) d_Law_law_386 rfl rfl ?_
        refine r_iload_n (pc := 387) (i := 3) d_Law_law_387 rfl rfl ?_
        refine r_iconst (pc := 388) (v := 2) d_Law_law_388 (by rfl) ?_
        refine r_iadd (pc := 389) d_Law_law_389 ?_
        refine r_gx (fun zq58 => ?_)
        refine r_sld (pc := 390) hL hxs zq58 d_Law_law_390 ?_
        refine r_cVi (pc := 391) (T := F_11) (N := 13) (st := []) (ok_H_price hn (xs (ix (x3 + (1 : Int32)))) (xs (ix (x3 + (2 : Int32)))) h) (fun s => Std.k s (lc hn rfl) kq_0) rfl w_718 w_1 w_715 w_716 w_717 hy_H_price ⟨Nat.le_of_ble_eq_true rfl, Nat.le_of_ble_eq_true rfl⟩ ⟨Nat.le_of_ble_eq_true rfl, Nat.le_of_ble_eq_true rfl⟩ rfl (Nat.le_of_ble_eq_true rfl) d_Law_law_391 (fun rq59 hq60 => ?_)
        refine r_aload_n (pc := 394) (i := 2) d_Law_law_394 rfl rfl ?_
        refine r_aloadF_n (pc := 395) (i := 0) (cv_1 G) d_Law_law_395 rfl rfl ?_
        refine r_iload_n (pc := 396) (i := 3) d_Law_law_396 rfl rfl ?_
        refine r_iconst (pc := 397) (v := 1) d_Law_law_397 (by rfl) ?_
        refine r_iadd (pc := 398) d_Law_law_398 ?_
        refine r_gx (fun zq61 => ?_)
        refine r_sld (pc := 399) hL hxs zq61 d_Law_law_399 ?_
        refine r_aloadF_n (pc := 400) (i := 0) (cv_1 G) d_Law_law_400 rfl rfl ?_
        refine r_iload_n (pc := 401) (i := 3) d_Law_law_401 rfl rfl ?_
        refine r_iconst (pc := 402) (v := 2) d_Law_law_402 (by rfl) ?_
        refine r_iadd (pc := 403) d_Law_law_403 ?_
        refine r_gx (fun zq62 => ?_)
        refine r_sld (pc := 404) hL hxs zq62 d_Law_law_404 ?_
        refine r_cVi (pc := 405) (T := F_12) (N := 73) (st := [.int rq59]) (ok_M_price hn (xs (ix (x3 + (1 : Int32)))) (xs (ix (x3 + (2 : Int32)))) hq60) (fun s => Std.k s (lc hn rfl) kq_383) rfl w_1528 w_13 w_1525 w_1526 w_1527 hy_M_price ⟨Nat.le_of_ble_eq_true rfl, Nat.le_of_ble_eq_true rfl⟩ ⟨Nat.le_of_ble_eq_true rfl, Nat.le_of_ble_eq_true rfl⟩ rfl (Nat.le_of_ble_eq_true rfl) d_Law_law_405 (fun rq63 hq64 => ?_)
        refine r_icmp_eq (pc := 408) (tgt := 1421) d_Law_law_408 (by rfl) ?_ ?_
        · refine r_ltE (fun xq65 exq65 => ?_)
          refine r_iinc (pc := 1421) (v := xq65) (lv1 := [some (.float 1), some (.ref 0), some (.ref 383), some (.int xq65)]) d_Law_law_1421 rfl exq65.symm (Nat.le_of_ble_eq_true rfl) rfl ?_
          refine r_goto (pc := 1424) (tgt := 18) d_Law_law_1424 (by rfl) ?_
          exact r_wk (ih xq65 hq64) ⟨rfl, ⟨rfl, ⟨rfl, ⟨rfl, trivial⟩⟩⟩⟩
        · refine r_iconst (pc := 411) (v := 0) d_Law_law_411 (by rfl) ?_
          exact r_lret0 d_Law_law_412
      refine r_split (fun cq66 => ?_) (fun cq66 => ?_)
      · refine r_tableIn (pc := 33) (tgt := 413) d_Law_law_33 (by rw [cq66]; decide) (by rw [cq66]; decide) (by rw [cq66] <;> rfl) (by rfl) ?_
        refine r_aload_n (pc := 413) (i := 1) d_Law_law_413 rfl rfl ?_
        refine r_aloadF_n (pc := 414) (i := 0) (cv_1 G) d_Law_law_414 rfl rfl ?_
        refine r_iload_n (pc := 415) (i := 3) d_Law_law_415 rfl rfl ?_
        refine r_iconst (pc := 416) (v := 1) d_Law_law_416 (by rfl) ?_
        refine r_iadd (pc := 417) d_Law_law_417 ?_
        refine r_gx (fun zq67 => ?_)
        refine r_sld (pc := 418) hL hxs zq67 d_Law_law_418 ?_
        refine r_cVi (pc := 419) (T := F_11) (N := 13) (st := []) (ok_H_cheapest hn (xs (ix (x3 + (1 : Int32)))) h) (fun s => Std.k s (lc hn rfl) kq_0) rfl w_730 w_1 w_727 w_728 w_729 hy_H_cheapest ⟨Nat.le_of_ble_eq_true rfl, Nat.le_of_ble_eq_true rfl⟩ ⟨Nat.le_of_ble_eq_true rfl, Nat.le_of_ble_eq_true rfl⟩ rfl (Nat.le_of_ble_eq_true rfl) d_Law_law_419 (fun rq68 hq69 => ?_)
        refine r_aload_n (pc := 422) (i := 2) d_Law_law_422 rfl rfl ?_
        refine r_aloadF_n (pc := 423) (i := 0) (cv_1 G) d_Law_law_423 rfl rfl ?_
        refine r_iload_n (pc := 424) (i := 3) d_Law_law_424 rfl rfl ?_
        refine r_iconst (pc := 425) (v := 1) d_Law_law_425 (by rfl) ?_
        refine r_iadd (pc := 426) d_Law_law_426 ?_
        refine r_gx (fun zq70 => ?_)
        refine r_sld (pc := 427) hL hxs zq70 d_Law_law_427 ?_
        refine r_cVi (pc := 428) (T := F_12) (N := 73) (st := [.int rq68]) (ok_M_cheapest hn (xs (ix (x3 + (1 : Int32)))) hq69) (fun s => Std.k s (lc hn rfl) kq_383) rfl w_1540 w_13 w_1537 w_1538 w_1539 hy_M_cheapest ⟨Nat.le_of_ble_eq_true rfl, Nat.le_of_ble_eq_true rfl⟩ ⟨Nat.le_of_ble_eq_true rfl, Nat.le_of_ble_eq_true rfl⟩ rfl (Nat.le_of_ble_eq_true rfl) d_Law_law_428 (fun rq71 hq72 => ?_)
        refine r_icmp_eq (pc := 431) (tgt := 1421) d_Law_law_431 (by rfl) ?_ ?_
        · refine r_ltE (fun xq73 exq73 => ?_)
          refine r_iinc (pc := 1421) (v := xq73) (lv1 := [some (.float 1), some (.ref 0), some (.ref 383), some (.int xq73)]) d_Law_law_1421 rfl exq73.symm (Nat.le_of_ble_eq_true rfl) rfl ?_
          refine r_goto (pc := 1424) (tgt := 18) d_Law_law_1424 (by rfl) ?_
          exact r_wk (ih xq73 hq72) ⟨rfl, ⟨rfl, ⟨rfl, ⟨rfl, trivial⟩⟩⟩⟩
        · refine r_iconst (pc := 434) (v := 0) d_Law_law_434 (by rfl) ?_
          exact r_lret0 d_Law_law_435
      refine r_split (fun cq74 => ?_) (fun cq74 => ?_)
      · refine r_tableIn (pc := 33) (tgt := 436) d_Law_law_33 (by rw [cq74]; decide) (by rw [cq74]; decide) (by rw [cq74] <;> rfl) (by rfl) ?_
        refine r_aload_n (pc := 436) (i := 1) d_Law_law_436 rfl rfl ?_
        refine r_cVi (pc := 437) (T := F_11) (N := 13) (st := []) (ok_H_chorus hn h) (fun s => Std.k s (lc hn rfl) kq_0) rfl w_738 w_1 w_735 w_736 w_737 hy_H_chorus ⟨Nat.le_of_ble_eq_true rfl, Nat.le_of_ble_eq_true rfl⟩ ⟨Nat.le_of_ble_eq_true rfl, Nat.le_of_ble_eq_true rfl⟩ rfl (Nat.le_of_ble_eq_true rfl) d_Law_law_437 (fun rq75 hq76 => ?_)
        refine r_aload_n (pc := 440) (i := 2) d_Law_law_440 rfl rfl ?_
        refine r_cVi (pc := 441) (T := F_12) (N := 73) (st := [.int rq75]) (ok_M_chorus hn hq76) (fun s => Std.k s (lc hn rfl) kq_383) rfl w_1544 w_13 w_1541 w_1542 w_1543 hy_M_chorus ⟨Nat.le_of_ble_eq_true rfl, Nat.le_of_ble_eq_true rfl⟩ ⟨Nat.le_of_ble_eq_true rfl, Nat.le_of_ble_eq_true rfl⟩ rfl (Nat.le_of_ble_eq_true rfl) d_Law_law_441 (fun rq77 hq78 => ?_)
        refine r_icmp_eq (pc := 444) (tgt := 1421) d_Law_law_444 (by rfl) ?_ ?_
        · refine r_ltE (fun xq79 exq79 => ?_)
          refine r_iinc (pc := 1421) (v := xq79) (lv1 := [some (.float 1), some (.ref 0), some (.ref 383), some (.int xq79)]) d_Law_law_1421 rfl exq79.symm (Nat.le_of_ble_eq_true rfl) rfl ?_
          refine r_goto (pc := 1424) (tgt := 18) d_Law_law_1424 (by rfl) ?_
          exact r_wk (ih xq79 hq78) ⟨rfl, ⟨rfl, ⟨rfl, ⟨rfl, trivial⟩⟩⟩⟩
        · refine r_iconst (pc := 447) (v := 0) d_Law_law_447 (by rfl) ?_
          exact r_lret0 d_Law_law_448
      refine r_split (fun cq80 => ?_) (fun cq80 => ?_)
      · refine r_tableIn (pc := 33) (tgt := 449) d_Law_law_33 (by rw [cq80]; decide) (by rw [cq80]; decide) (by rw [cq80] <;> rfl) (by rfl) ?_
        refine r_aload_n (pc := 449) (i := 1) d_Law_law_449 rfl rfl ?_
        refine r_aloadF_n (pc := 450) (i := 0) (cv_1 G) d_Law_law_450 rfl rfl ?_
        refine r_iload_n (pc := 451) (i := 3) d_Law_law_451 rfl rfl ?_
        refine r_iconst (pc := 452) (v := 1) d_Law_law_452 (by rfl) ?_
        refine r_iadd (pc := 453) d_Law_law_453 ?_
        refine r_gx (fun zq81 => ?_)
        refine r_sld (pc := 454) hL hxs zq81 d_Law_law_454 ?_
        refine r_cVi (pc := 455) (T := F_11) (N := 13) (st := []) (ok_H_lasts hn (xs (ix (x3 + (1 : Int32)))) h) (fun s => Std.k s (lc hn rfl) kq_0) rfl w_746 w_1 w_743 w_744 w_745 hy_H_lasts ⟨Nat.le_of_ble_eq_true rfl, Nat.le_of_ble_eq_true rfl⟩ ⟨Nat.le_of_ble_eq_true rfl, Nat.le_of_ble_eq_true rfl⟩ rfl (Nat.le_of_ble_eq_true rfl) d_Law_law_455 (fun rq82 hq83 => ?_)
        refine r_aload_n (pc := 458) (i := 2) d_Law_law_458 rfl rfl ?_
        refine r_aloadF_n (pc := 459) (i := 0) (cv_1 G) d_Law_law_459 rfl rfl ?_
        refine r_iload_n (pc := 460) (i := 3) d_Law_law_460 rfl rfl ?_
        refine r_iconst (pc := 461) (v := 1) d_Law_law_461 (by rfl) ?_
        refine r_iadd (pc := 462) d_Law_law_462 ?_
        refine r_gx (fun zq84 => ?_)
        refine r_sld (pc := 463) hL hxs zq84 d_Law_law_463 ?_
        refine r_cVi (pc := 464) (T := F_12) (N := 73) (st := [.int rq82]) (ok_M_lasts hn (xs (ix (x3 + (1 : Int32)))) hq83) (fun s => Std.k s (lc hn rfl) kq_383) rfl w_1552 w_13 w_1549 w_1550 w_1551 hy_M_lasts ⟨Nat.le_of_ble_eq_true rfl, Nat.le_of_ble_eq_true rfl⟩ ⟨Nat.le_of_ble_eq_true rfl, Nat.le_of_ble_eq_true rfl⟩ rfl (Nat.le_of_ble_eq_true rfl) d_Law_law_464 (fun rq85 hq86 => ?_)
        refine r_icmp_eq (pc := 467) (tgt := 1421) d_Law_law_467 (by rfl) ?_ ?_
        · refine r_ltE (fun xq87 exq87 => ?_)
          refine r_iinc (pc := 1421) (v := xq87) (lv1 := [some (.float 1), some (.ref 0), some (.ref 383), some (.int xq87)]) d_Law_law_1421 rfl exq87.symm (Nat.le_of_ble_eq_true rfl) rfl ?_
          refine r_goto (pc := 1424) (tgt := 18) d_Law_law_1424 (by rfl) ?_
          exact r_wk (ih xq87 hq86) ⟨rfl, ⟨rfl, ⟨rfl, ⟨rfl, trivial⟩⟩⟩⟩
        · refine r_iconst (pc := 470) (v := 0) d_Law_law_470 (by rfl) ?_
          exact r_lret0 d_Law_law_471
      refine r_split (fun cq88 => ?_) (fun cq88 => ?_)
      · refine r_tableIn (pc := 33) (tgt := 472) d_Law_law_33 (by rw [cq88]; decide) (by rw [cq88]; decide) (by rw [cq88] <;> rfl) (by rfl) ?_
        refine r_aload_n (pc := 472) (i := 1) d_Law_law_472 rfl rfl ?_
        refine r_aloadF_n (pc := 473) (i := 0) (cv_1 G) d_Law_law_473 rfl rfl ?_
        refine r_iload_n (pc := 474) (i := 3) d_Law_law_474 rfl rfl ?_
        refine r_iconst (pc := 475) (v := 1) d_Law_law_475 (by rfl) ?_
        refine r_iadd (pc := 476) d_Law_law_476 ?_
        refine r_gx (fun zq89 => ?_)
        refine r_sld (pc := 477) hL hxs zq89 d_Law_law_477 ?_
        refine r_aloadF_n (pc := 478) (i := 0) (cv_1 G) d_Law_law_478 rfl rfl ?_
        refine r_iload_n (pc := 479) (i := 3) d_Law_law_479 rfl rfl ?_
        refine r_iconst (pc := 480) (v := 2) d_Law_law_480 (by rfl) ?_
        refine r_iadd (pc := 481) d_Law_law_481 ?_
        refine r_gx (fun zq90 => ?_)
        refine r_sld (pc := 482) hL hxs zq90 d_Law_law_482 ?_
        refine r_aloadF_n (pc := 483) (i := 0) (cv_1 G) d_Law_law_483 rfl rfl ?_
        refine r_iload_n (pc := 484) (i := 3) d_Law_law_484 rfl rfl ?_
        refine r_iconst (pc := 485) (v := 3) d_Law_law_485 (by rfl) ?_
        refine r_iadd (pc := 486) d_Law_law_486 ?_
        refine r_gx (fun zq91 => ?_)
        refine r_sld (pc := 487) hL hxs zq91 d_Law_law_487 ?_
        refine r_cVi (pc := 488) (T := F_11) (N := 13) (st := []) (ok_H_buy hn (xs (ix (x3 + (1 : Int32)))) (xs (ix (x3 + (2 : Int32)))) (xs (ix (x3 + (3 : Int32)))) h) (fun s => Std.k s (lc hn rfl) kq_0) rfl w_750 w_1 w_747 w_748 w_749 hy_H_buy ⟨Nat.le_of_ble_eq_true rfl, Nat.le_of_ble_eq_true rfl⟩ ⟨Nat.le_of_ble_eq_true rfl, Nat.le_of_ble_eq_true rfl⟩ rfl (Nat.le_of_ble_eq_true rfl) d_Law_law_488 (fun rq92 hq93 => ?_)
        refine r_aload_n (pc := 491) (i := 2) d_Law_law_491 rfl rfl ?_
        refine r_aloadF_n (pc := 492) (i := 0) (cv_1 G) d_Law_law_492 rfl rfl ?_
        refine r_iload_n (pc := 493) (i := 3) d_Law_law_493 rfl rfl ?_
        refine r_iconst (pc := 494) (v := 1) d_Law_law_494 (by rfl) ?_
        refine r_iadd (pc := 495) d_Law_law_495 ?_
        refine r_gx (fun zq94 => ?_)
        refine r_sld (pc := 496) hL hxs zq94 d_Law_law_496 ?_
        refine r_aloadF_n (pc := 497) (i := 0) (cv_1 G) d_Law_law_497 rfl rfl ?_
        refine r_iload_n (pc := 498) (i := 3) d_Law_law_498 rfl rfl ?_
        refine r_iconst (pc := 499) (v := 2) d_Law_law_499 (by rfl) ?_
        refine r_iadd (pc := 500) d_Law_law_500 ?_
        refine r_gx (fun zq95 => ?_)
        refine r_sld (pc := 501) hL hxs zq95 d_Law_law_501 ?_
        refine r_aloadF_n (pc := 502) (i := 0) (cv_1 G) d_Law_law_502 rfl rfl ?_
        refine r_iload_n (pc := 503) (i := 3) d_Law_law_503 rfl rfl ?_
        refine r_iconst (pc := 504) (v := 3) d_Law_law_504 (by rfl) ?_
        refine r_iadd (pc := 505) d_Law_law_505 ?_
        refine r_gx (fun zq96 => ?_)
        refine r_sld (pc := 506) hL hxs zq96 d_Law_law_506 ?_
        refine r_cVi (pc := 507) (T := F_12) (N := 73) (st := [.int rq92]) (ok_M_buy hn (xs (ix (x3 + (1 : Int32)))) (xs (ix (x3 + (2 : Int32)))) (xs (ix (x3 + (3 : Int32)))) hq93) (fun s => Std.k s (lc hn rfl) kq_383) rfl w_1556 w_13 w_1553 w_1554 w_1555 hy_M_buy ⟨Nat.le_of_ble_eq_true rfl, Nat.le_of_ble_eq_true rfl⟩ ⟨Nat.le_of_ble_eq_true rfl, Nat.le_of_ble_eq_true rfl⟩ rfl (Nat.le_of_ble_eq_true rfl) d_Law_law_507 (fun rq97 hq98 => ?_)
        refine r_icmp_eq (pc := 510) (tgt := 1421) d_Law_law_510 (by rfl) ?_ ?_
        · refine r_ltE (fun xq99 exq99 => ?_)
          refine r_iinc (pc := 1421) (v := xq99) (lv1 := [some (.float 1), some (.ref 0), some (.ref 383), some (.int xq99)]) d_Law_law_1421 rfl exq99.symm (Nat.le_of_ble_eq_true rfl) rfl ?_
          refine r_goto (pc := 1424) (tgt := 18) d_Law_law_1424 (by rfl) ?_
          exact r_wk (ih xq99 hq98) ⟨rfl, ⟨rfl, ⟨rfl, ⟨rfl, trivial⟩⟩⟩⟩
        · refine r_iconst (pc := 513) (v := 0) d_Law_law_513 (by rfl) ?_
          exact r_lret0 d_Law_law_514
      refine r_split (fun cq100 => ?_) (fun cq100 => ?_)
      · refine r_tableIn (pc := 33) (tgt := 515) d_Law_law_33 (by rw [cq100]; decide) (by rw [cq100]; decide) (by rw [cq100] <;> rfl) (by rfl) ?_
        refine r_aload_n (pc := 515) (i := 1) d_Law_law_515 rfl rfl ?_
        refine r_aloadF_n (pc := 516) (i := 0) (cv_1 G) d_Law_law_516 rfl rfl ?_
        refine r_iload_n (pc := 517) (i := 3) d_Law_law_517 rfl rfl ?_
        refine r_iconst (pc := 518) (v := 1) d_Law_law_518 (by rfl) ?_
        refine r_iadd (pc := 519) d_Law_law_519 ?_
        refine r_gx (fun zq101 => ?_)
        refine r_sld (pc := 520) hL hxs zq101 d_Law_law_520 ?_
        refine r_aloadF_n (pc := 521) (i := 0) (cv_1 G) d_Law_law_521 rfl rfl ?_
        refine r_iload_n (pc := 522) (i := 3) d_Law_law_522 rfl rfl ?_
        refine r_iconst (pc := 523) (v := 2) d_Law_law_523 (by rfl) ?_
        refine r_iadd (pc := 524) d_Law_law_524 ?_
        refine r_gx (fun zq102 => ?_)
        refine r_sld (pc := 525) hL hxs zq102 d_Law_law_525 ?_
        refine r_cVi (pc := 526) (T := F_11) (N := 13) (st := []) (ok_H_breathe hn (xs (ix (x3 + (1 : Int32)))) (xs (ix (x3 + (2 : Int32)))) h) (fun s => Std.k s (lc hn rfl) kq_0) rfl w_769 w_1 w_766 w_767 w_768 hy_H_breathe ⟨Nat.le_of_ble_eq_true rfl, Nat.le_of_ble_eq_true rfl⟩ ⟨Nat.le_of_ble_eq_true rfl, Nat.le_of_ble_eq_true rfl⟩ rfl (Nat.le_of_ble_eq_true rfl) d_Law_law_526 (fun rq103 hq104 => ?_)
        refine r_aload_n (pc := 529) (i := 2) d_Law_law_529 rfl rfl ?_
        refine r_aloadF_n (pc := 530) (i := 0) (cv_1 G) d_Law_law_530 rfl rfl ?_
        refine r_iload_n (pc := 531) (i := 3) d_Law_law_531 rfl rfl ?_
        refine r_iconst (pc := 532) (v := 1) d_Law_law_532 (by rfl) ?_
        refine r_iadd (pc := 533) d_Law_law_533 ?_
        refine r_gx (fun zq105 => ?_)
        refine r_sld (pc := 534) hL hxs zq105 d_Law_law_534 ?_
        refine r_aloadF_n (pc := 535) (i := 0) (cv_1 G) d_Law_law_535 rfl rfl ?_
        refine r_iload_n (pc := 536) (i := 3) d_Law_law_536 rfl rfl ?_
        refine r_iconst (pc := 537) (v := 2) d_Law_law_537 (by rfl) ?_
        refine r_iadd (pc := 538) d_Law_law_538 ?_
        refine r_gx (fun zq106 => ?_)
        refine r_sld (pc := 539) hL hxs zq106 d_Law_law_539 ?_
        refine r_cVi (pc := 540) (T := F_12) (N := 73) (st := [.int rq103]) (ok_M_breathe hn (xs (ix (x3 + (1 : Int32)))) (xs (ix (x3 + (2 : Int32)))) hq104) (fun s => Std.k s (lc hn rfl) kq_383) rfl w_1564 w_13 w_1561 w_1562 w_1563 hy_M_breathe ⟨Nat.le_of_ble_eq_true rfl, Nat.le_of_ble_eq_true rfl⟩ ⟨Nat.le_of_ble_eq_true rfl, Nat.le_of_ble_eq_true rfl⟩ rfl (Nat.le_of_ble_eq_true rfl) d_Law_law_540 (fun rq107 hq108 => ?_)
        refine r_icmp_eq (pc := 543) (tgt := 1421) d_Law_law_543 (by rfl) ?_ ?_
        · refine r_ltE (fun xq109 exq109 => ?_)
          refine r_iinc (pc := 1421) (v := xq109) (lv1 := [some (.float 1), some (.ref 0), some (.ref 383), some (.int xq109)]) d_Law_law_1421 rfl exq109.symm (Nat.le_of_ble_eq_true rfl) rfl ?_
          refine r_goto (pc := 1424) (tgt := 18) d_Law_law_1424 (by rfl) ?_
          exact r_wk (ih xq109 hq108) ⟨rfl, ⟨rfl, ⟨rfl, ⟨rfl, trivial⟩⟩⟩⟩
        · refine r_iconst (pc := 546) (v := 0) d_Law_law_546 (by rfl) ?_
          exact r_lret0 d_Law_law_547
      refine r_split (fun cq110 => ?_) (fun cq110 => ?_)
      · refine r_tableIn (pc := 33) (tgt := 548) d_Law_law_33 (by rw [cq110]; decide) (by rw [cq110]; decide) (by rw [cq110] <;> rfl) (by rfl) ?_
        refine r_aload_n (pc := 548) (i := 1) d_Law_law_548 rfl rfl ?_
        refine r_aloadF_n (pc := 549) (i := 0) (cv_1 G) d_Law_law_549 rfl rfl ?_
        refine r_iload_n (pc := 550) (i := 3) d_Law_law_550 rfl rfl ?_
        refine r_iconst (pc := 551) (v := 1) d_Law_law_551 (by rfl) ?_
        refine r_iadd (pc := 552) d_Law_law_552 ?_
        refine r_gx (fun zq111 => ?_)
        refine r_sld (pc := 553) hL hxs zq111 d_Law_law_553 ?_
        refine r_cVi (pc := 554) (T := F_11) (N := 13) (st := []) (ok_H_free hn (xs (ix (x3 + (1 : Int32)))) h) (fun s => Std.k s (lc hn rfl) kq_0) rfl w_773 w_1 w_770 w_771 w_772 hy_H_free ⟨Nat.le_of_ble_eq_true rfl, Nat.le_of_ble_eq_true rfl⟩ ⟨Nat.le_of_ble_eq_true rfl, Nat.le_of_ble_eq_true rfl⟩ rfl (Nat.le_of_ble_eq_true rfl) d_Law_law_554 (fun rq112 hq113 => ?_)
        refine r_aload_n (pc := 557) (i := 2) d_Law_law_557 rfl rfl ?_
        refine r_aloadF_n (pc := 558) (i := 0) (cv_1 G) d_Law_law_558 rfl rfl ?_
        refine r_iload_n (pc := 559) (i := 3) d_Law_law_559 rfl rfl ?_
        refine r_iconst (pc := 560) (v := 1) d_Law_law_560 (by rfl) ?_
        refine r_iadd (pc := 561) d_Law_law_561 ?_
        refine r_gx (fun zq114 => ?_)
        refine r_sld (pc := 562) hL hxs zq114 d_Law_law_562 ?_
        refine r_cVi (pc := 563) (T := F_12) (N := 73) (st := [.int rq112]) (ok_M_free hn (xs (ix (x3 + (1 : Int32)))) hq113) (fun s => Std.k s (lc hn rfl) kq_383) rfl w_1572 w_13 w_1569 w_1570 w_1571 hy_M_free ⟨Nat.le_of_ble_eq_true rfl, Nat.le_of_ble_eq_true rfl⟩ ⟨Nat.le_of_ble_eq_true rfl, Nat.le_of_ble_eq_true rfl⟩ rfl (Nat.le_of_ble_eq_true rfl) d_Law_law_563 (fun rq115 hq116 => ?_)
        refine r_icmp_eq (pc := 566) (tgt := 1421) d_Law_law_566 (by rfl) ?_ ?_
        · refine r_ltE (fun xq117 exq117 => ?_)
          refine r_iinc (pc := 1421) (v := xq117) (lv1 := [some (.float 1), some (.ref 0), some (.ref 383), some (.int xq117)]) d_Law_law_1421 rfl exq117.symm (Nat.le_of_ble_eq_true rfl) rfl ?_
          refine r_goto (pc := 1424) (tgt := 18) d_Law_law_1424 (by rfl) ?_
          exact r_wk (ih xq117 hq116) ⟨rfl, ⟨rfl, ⟨rfl, ⟨rfl, trivial⟩⟩⟩⟩
        · refine r_iconst (pc := 569) (v := 0) d_Law_law_569 (by rfl) ?_
          exact r_lret0 d_Law_law_570
      refine r_split (fun cq118 => ?_) (fun cq118 => ?_)
      · refine r_tableIn (pc := 33) (tgt := 571) d_Law_law_33 (by rw [cq118]; decide) (by rw [cq118]; decide) (by rw [cq118] <;> rfl) (by rfl) ?_
        refine r_aload_n (pc := 571) (i := 1) d_Law_law_571 rfl rfl ?_
        refine r_cVi (pc := 572) (T := F_11) (N := 13) (st := []) (ok_H_hour hn h) (fun s => Std.k s (lc hn rfl) kq_0) rfl w_777 w_1 w_774 w_775 w_776 hy_H_hour ⟨Nat.le_of_ble_eq_true rfl, Nat.le_of_ble_eq_true rfl⟩ ⟨Nat.le_of_ble_eq_true rfl, Nat.le_of_ble_eq_true rfl⟩ rfl (Nat.le_of_ble_eq_true rfl) d_Law_law_572 (fun rq119 hq120 => ?_)
        refine r_aload_n (pc := 575) (i := 2) d_Law_law_575 rfl rfl ?_
        refine r_cVi (pc := 576) (T := F_12) (N := 73) (st := [.int rq119]) (ok_M_hour hn hq120) (fun s => Std.k s (lc hn rfl) kq_383) rfl w_1576 w_13 w_1573 w_1574 w_1575 hy_M_hour ⟨Nat.le_of_ble_eq_true rfl, Nat.le_of_ble_eq_true rfl⟩ ⟨Nat.le_of_ble_eq_true rfl, Nat.le_of_ble_eq_true rfl⟩ rfl (Nat.le_of_ble_eq_true rfl) d_Law_law_576 (fun rq121 hq122 => ?_)
        refine r_icmp_eq (pc := 579) (tgt := 1421) d_Law_law_579 (by rfl) ?_ ?_
        · refine r_ltE (fun xq123 exq123 => ?_)
          refine r_iinc (pc := 1421) (v := xq123) (lv1 := [some (.float 1), some (.ref 0), some (.ref 383), some (.int xq123)]) d_Law_law_1421 rfl exq123.symm (Nat.le_of_ble_eq_true rfl) rfl ?_
          refine r_goto (pc := 1424) (tgt := 18) d_Law_law_1424 (by rfl) ?_
          exact r_wk (ih xq123 hq122) ⟨rfl, ⟨rfl, ⟨rfl, ⟨rfl, trivial⟩⟩⟩⟩
        · refine r_iconst (pc := 582) (v := 0) d_Law_law_582 (by rfl) ?_
          exact r_lret0 d_Law_law_583
      refine r_split (fun cq124 => ?_) (fun cq124 => ?_)
      · refine r_tableIn (pc := 33) (tgt := 584) d_Law_law_33 (by rw [cq124]; decide) (by rw [cq124]; decide) (by rw [cq124] <;> rfl) (by rfl) ?_
        refine r_aload_n (pc := 584) (i := 1) d_Law_law_584 rfl rfl ?_
        refine r_cVi (pc := 585) (T := F_11) (N := 13) (st := []) (ok_H_undo hn h) (fun s => Std.k s (lc hn rfl) kq_0) rfl w_798 w_1 w_795 w_796 w_797 hy_H_undo ⟨Nat.le_of_ble_eq_true rfl, Nat.le_of_ble_eq_true rfl⟩ ⟨Nat.le_of_ble_eq_true rfl, Nat.le_of_ble_eq_true rfl⟩ rfl (Nat.le_of_ble_eq_true rfl) d_Law_law_585 (fun rq125 hq126 => ?_)
        refine r_aload_n (pc := 588) (i := 2) d_Law_law_588 rfl rfl ?_
        refine r_cVi (pc := 589) (T := F_12) (N := 73) (st := [.int rq125]) (ok_M_undo hn hq126) (fun s => Std.k s (lc hn rfl) kq_383) rfl w_1592 w_13 w_1589 w_1590 w_1591 hy_M_undo ⟨Nat.le_of_ble_eq_true rfl, Nat.le_of_ble_eq_true rfl⟩ ⟨Nat.le_of_ble_eq_true rfl, Nat.le_of_ble_eq_true rfl⟩ rfl (Nat.le_of_ble_eq_true rfl) d_Law_law_589 (fun rq127 hq128 => ?_)
        refine r_icmp_eq (pc := 592) (tgt := 1421) d_Law_law_592 (by rfl) ?_ ?_
        · refine r_ltE (fun xq129 exq129 => ?_)
          refine r_iinc (pc := 1421) (v := xq129) (lv1 := [some (.float 1), some (.ref 0), some (.ref 383), some (.int xq129)]) d_Law_law_1421 rfl exq129.symm (Nat.le_of_ble_eq_true rfl) rfl ?_
          refine r_goto (pc := 1424) (tgt := 18) d_Law_law_1424 (by rfl) ?_
          exact r_wk (ih xq129 hq128) ⟨rfl, ⟨rfl, ⟨rfl, ⟨rfl, trivial⟩⟩⟩⟩
        · refine r_iconst (pc := 595) (v := 0) d_Law_law_595 (by rfl) ?_
          exact r_lret0 d_Law_law_596
      refine r_split (fun cq130 => ?_) (fun cq130 => ?_)
      · refine r_tableIn (pc := 33) (tgt := 597) d_Law_law_33 (by rw [cq130]; decide) (by rw [cq130]; decide) (by rw [cq130] <;> rfl) (by rfl) ?_
        refine r_aload_n (pc := 597) (i := 1) d_Law_law_597 rfl rfl ?_
        refine r_cVi (pc := 598) (T := F_11) (N := 13) (st := []) (ok_H_redo hn h) (fun s => Std.k s (lc hn rfl) kq_0) rfl w_806 w_1 w_803 w_804 w_805 hy_H_redo ⟨Nat.le_of_ble_eq_true rfl, Nat.le_of_ble_eq_true rfl⟩ ⟨Nat.le_of_ble_eq_true rfl, Nat.le_of_ble_eq_true rfl⟩ rfl (Nat.le_of_ble_eq_true rfl) d_Law_law_598 (fun rq131 hq132 => ?_)
        refine r_aload_n (pc := 601) (i := 2) d_Law_law_601 rfl rfl ?_
        refine r_cVi (pc := 602) (T := F_12) (N := 73) (st := [.int rq131]) (ok_M_redo hn hq132) (fun s => Std.k s (lc hn rfl) kq_383) rfl w_1600 w_13 w_1597 w_1598 w_1599 hy_M_redo ⟨Nat.le_of_ble_eq_true rfl, Nat.le_of_ble_eq_true rfl⟩ ⟨Nat.le_of_ble_eq_true rfl, Nat.le_of_ble_eq_true rfl⟩ rfl (Nat.le_of_ble_eq_true rfl) d_Law_law_602 (fun rq133 hq134 => ?_)
        refine r_icmp_eq (pc := 605) (tgt := 1421) d_Law_law_605 (by rfl) ?_ ?_
        · refine r_ltE (fun xq135 exq135 => ?_)
          refine r_iinc (pc := 1421) (v := xq135) (lv1 := [some (.float 1), some (.ref 0), some (.ref 383), some (.int xq135)]) d_Law_law_1421 rfl exq135.symm (Nat.le_of_ble_eq_true rfl) rfl ?_
          refine r_goto (pc := 1424) (tgt := 18) d_Law_law_1424 (by rfl) ?_
          exact r_wk (ih xq135 hq134) ⟨rfl, ⟨rfl, ⟨rfl, ⟨rfl, trivial⟩⟩⟩⟩
        · refine r_iconst (pc := 608) (v := 0) d_Law_law_608 (by rfl) ?_
          exact r_lret0 d_Law_law_609
      refine r_split (fun cq136 => ?_) (fun cq136 => ?_)
      · refine r_tableIn (pc := 33) (tgt := 610) d_Law_law_33 (by rw [cq136]; decide) (by rw [cq136]; decide) (by rw [cq136] <;> rfl) (by rfl) ?_
        refine r_aload_n (pc := 610) (i := 1) d_Law_law_610 rfl rfl ?_
        refine r_aloadF_n (pc := 611) (i := 0) (cv_1 G) d_Law_law_611 rfl rfl ?_
        refine r_iload_n (pc := 612) (i := 3) d_Law_law_612 rfl rfl ?_
        refine r_iconst (pc := 613) (v := 1) d_Law_law_613 (by rfl) ?_
        refine r_iadd (pc := 614) d_Law_law_614 ?_
        refine r_gx (fun zq137 => ?_)
        refine r_sld (pc := 615) hL hxs zq137 d_Law_law_615 ?_
        refine r_aloadF_n (pc := 616) (i := 0) (cv_1 G) d_Law_law_616 rfl rfl ?_
        refine r_iload_n (pc := 617) (i := 3) d_Law_law_617 rfl rfl ?_
        refine r_iconst (pc := 618) (v := 2) d_Law_law_618 (by rfl) ?_
        refine r_iadd (pc := 619) d_Law_law_619 ?_
        refine r_gx (fun zq138 => ?_)
        refine r_sld (pc := 620) hL hxs zq138 d_Law_law_620 ?_
        refine r_aloadF_n (pc := 621) (i := 0) (cv_1 G) d_Law_law_621 rfl rfl ?_
        refine r_iload_n (pc := 622) (i := 3) d_Law_law_622 rfl rfl ?_
        refine r_iconst (pc := 623) (v := 3) d_Law_law_623 (by rfl) ?_
        refine r_iadd (pc := 624) d_Law_law_624 ?_
        refine r_gx (fun zq139 => ?_)
        refine r_sld (pc := 625) hL hxs zq139 d_Law_law_625 ?_
        refine r_cVi (pc := 626) (T := F_11) (N := 13) (st := []) (ok_H_will hn (xs (ix (x3 + (1 : Int32)))) (xs (ix (x3 + (2 : Int32)))) (xs (ix (x3 + (3 : Int32)))) h) (fun s => Std.k s (lc hn rfl) kq_0) rfl w_814 w_1 w_811 w_812 w_813 hy_H_will ⟨Nat.le_of_ble_eq_true rfl, Nat.le_of_ble_eq_true rfl⟩ ⟨Nat.le_of_ble_eq_true rfl, Nat.le_of_ble_eq_true rfl⟩ rfl (Nat.le_of_ble_eq_true rfl) d_Law_law_626 (fun rq140 hq141 => ?_)
        refine r_aload_n (pc := 629) (i := 2) d_Law_law_629 rfl rfl ?_
        refine r_aloadF_n (pc := 630) (i := 0) (cv_1 G) d_Law_law_630 rfl rfl ?_
        refine r_iload_n (pc := 631) (i := 3) d_Law_law_631 rfl rfl ?_
        refine r_iconst (pc := 632) (v := 1) d_Law_law_632 (by rfl) ?_
        refine r_iadd (pc := 633) d_Law_law_633 ?_
        refine r_gx (fun zq142 => ?_)
        refine r_sld (pc := 634) hL hxs zq142 d_Law_law_634 ?_
        refine r_aloadF_n (pc := 635) (i := 0) (cv_1 G) d_Law_law_635 rfl rfl ?_
        refine r_iload_n (pc := 636) (i := 3) d_Law_law_636 rfl rfl ?_
        refine r_iconst (pc := 637) (v := 2) d_Law_law_637 (by rfl) ?_
        refine r_iadd (pc := 638) d_Law_law_638 ?_
        refine r_gx (fun zq143 => ?_)
        refine r_sld (pc := 639) hL hxs zq143 d_Law_law_639 ?_
        refine r_aloadF_n (pc := 640) (i := 0) (cv_1 G) d_Law_law_640 rfl rfl ?_
        refine r_iload_n (pc := 641) (i := 3) d_Law_law_641 rfl rfl ?_
        refine r_iconst (pc := 642) (v := 3) d_Law_law_642 (by rfl) ?_
        refine r_iadd (pc := 643) d_Law_law_643 ?_
        refine r_gx (fun zq144 => ?_)
        refine r_sld (pc := 644) hL hxs zq144 d_Law_law_644 ?_
        refine r_cVi (pc := 645) (T := F_12) (N := 73) (st := [.int rq140]) (ok_M_will hn (xs (ix (x3 + (1 : Int32)))) (xs (ix (x3 + (2 : Int32)))) (xs (ix (x3 + (3 : Int32)))) hq141) (fun s => Std.k s (lc hn rfl) kq_383) rfl w_1604 w_13 w_1601 w_1602 w_1603 hy_M_will ⟨Nat.le_of_ble_eq_true rfl, Nat.le_of_ble_eq_true rfl⟩ ⟨Nat.le_of_ble_eq_true rfl, Nat.le_of_ble_eq_true rfl⟩ rfl (Nat.le_of_ble_eq_true rfl) d_Law_law_645 (fun rq145 hq146 => ?_)
        refine r_icmp_eq (pc := 648) (tgt := 1421) d_Law_law_648 (by rfl) ?_ ?_
        · refine r_ltE (fun xq147 exq147 => ?_)
          refine r_iinc (pc := 1421) (v := xq147) (lv1 := [some (.float 1), some (.ref 0), some (.ref 383), some (.int xq147)]) d_Law_law_1421 rfl exq147.symm (Nat.le_of_ble_eq_true rfl) rfl ?_
          refine r_goto (pc := 1424) (tgt := 18) d_Law_law_1424 (by rfl) ?_
          exact r_wk (ih xq147 hq146) ⟨rfl, ⟨rfl, ⟨rfl, ⟨rfl, trivial⟩⟩⟩⟩
        · refine r_iconst (pc := 651) (v := 0) d_Law_law_651 (by rfl) ?_
          exact r_lret0 d_Law_law_652
      refine r_split (fun cq148 => ?_) (fun cq148 => ?_)
      · refine r_tableIn (pc := 33) (tgt := 653) d_Law_law_33 (by rw [cq148]; decide) (by rw [cq148]; decide) (by rw [cq148] <;> rfl) (by rfl) ?_
        refine r_aload_n (pc := 653) (i := 1) d_Law_law_653 rfl rfl ?_
        refine r_aloadF_n (pc := 654) (i := 0) (cv_1 G) d_Law_law_654 rfl rfl ?_
        refine r_iload_n (pc := 655) (i := 3) d_Law_law_655 rfl rfl ?_
        refine r_iconst (pc := 656) (v := 1) d_Law_law_656 (by rfl) ?_
        refine r_iadd (pc := 657) d_Law_law_657 ?_
        refine r_gx (fun zq149 => ?_)
        refine r_sld (pc := 658) hL hxs zq149 d_Law_law_658 ?_
        refine r_aloadF_n (pc := 659) (i := 0) (cv_1 G) d_Law_law_659 rfl rfl ?_
        refine r_iload_n (pc := 660) (i := 3) d_Law_law_660 rfl rfl ?_
        refine r_iconst (pc := 661) (v := 2) d_Law_law_661 (by rfl) ?_
        refine r_iadd (pc := 662) d_Law_law_662 ?_
        refine r_gx (fun zq150 => ?_)
        refine r_sld (pc := 663) hL hxs zq150 d_Law_law_663 ?_
        refine r_aloadF_n (pc := 664) (i := 0) (cv_1 G) d_Law_law_664 rfl rfl ?_
        refine r_iload_n (pc := 665) (i := 3) d_Law_law_665 rfl rfl ?_
        refine r_iconst (pc := 666) (v := 3) d_Law_law_666 (by rfl) ?_
        refine r_iadd (pc := 667) d_Law_law_667 ?_
        refine r_gx (fun zq151 => ?_)
        refine r_sld (pc := 668) hL hxs zq151 d_Law_law_668 ?_
        refine r_cVi (pc := 669) (T := F_11) (N := 13) (st := []) (ok_H_low hn (xs (ix (x3 + (1 : Int32)))) (xs (ix (x3 + (2 : Int32)))) (xs (ix (x3 + (3 : Int32)))) h) (fun s => Std.k s (lc hn rfl) kq_0) rfl w_826 w_1 w_823 w_824 w_825 hy_H_low ⟨Nat.le_of_ble_eq_true rfl, Nat.le_of_ble_eq_true rfl⟩ ⟨Nat.le_of_ble_eq_true rfl, Nat.le_of_ble_eq_true rfl⟩ rfl (Nat.le_of_ble_eq_true rfl) d_Law_law_669 (fun rq152 hq153 => ?_)
        refine r_aload_n (pc := 672) (i := 2) d_Law_law_672 rfl rfl ?_
        refine r_aloadF_n (pc := 673) (i := 0) (cv_1 G) d_Law_law_673 rfl rfl ?_
        refine r_iload_n (pc := 674) (i := 3) d_Law_law_674 rfl rfl ?_
        refine r_iconst (pc := 675) (v := 1) d_Law_law_675 (by rfl) ?_
        refine r_iadd (pc := 676) d_Law_law_676 ?_
        refine r_gx (fun zq154 => ?_)
        refine r_sld (pc := 677) hL hxs zq154 d_Law_law_677 ?_
        refine r_aloadF_n (pc := 678) (i := 0) (cv_1 G) d_Law_law_678 rfl rfl ?_
        refine r_iload_n (pc := 679) (i := 3) d_Law_law_679 rfl rfl ?_
        refine r_iconst (pc := 680) (v := 2) d_Law_law_680 (by rfl) ?_
        refine r_iadd (pc := 681) d_Law_law_681 ?_
        refine r_gx (fun zq155 => ?_)
        refine r_sld (pc := 682) hL hxs zq155 d_Law_law_682 ?_
        refine r_aloadF_n (pc := 683) (i := 0) (cv_1 G) d_Law_law_683 rfl rfl ?_
        refine r_iload_n (pc := 684) (i := 3) d_Law_law_684 rfl rfl ?_
        refine r_iconst (pc := 685) (v := 3) d_Law_law_685 (by rfl) ?_
        refine r_iadd (pc := 686) d_Law_law_686 ?_
        refine r_gx (fun zq156 => ?_)
        refine r_sld (pc := 687) hL hxs zq156 d_Law_law_687 ?_
        refine r_cVi (pc := 688) (T := F_12) (N := 73) (st := [.int rq152]) (ok_M_low hn (xs (ix (x3 + (1 : Int32)))) (xs (ix (x3 + (2 : Int32)))) (xs (ix (x3 + (3 : Int32)))) hq153) (fun s => Std.k s (lc hn rfl) kq_383) rfl w_1612 w_13 w_1609 w_1610 w_1611 hy_M_low ⟨Nat.le_of_ble_eq_true rfl, Nat.le_of_ble_eq_true rfl⟩ ⟨Nat.le_of_ble_eq_true rfl, Nat.le_of_ble_eq_true rfl⟩ rfl (Nat.le_of_ble_eq_true rfl) d_Law_law_688 (fun rq157 hq158 => ?_)
        refine r_icmp_eq (pc := 691) (tgt := 1421) d_Law_law_691 (by rfl) ?_ ?_
        · refine r_ltE (fun xq159 exq159 => ?_)
          refine r_iinc (pc := 1421) (v := xq159) (lv1 := [some (.float 1), some (.ref 0), some (.ref 383), some (.int xq159)]) d_Law_law_1421 rfl exq159.symm (Nat.le_of_ble_eq_true rfl) rfl ?_
          refine r_goto (pc := 1424) (tgt := 18) d_Law_law_1424 (by rfl) ?_
          exact r_wk (ih xq159 hq158) ⟨rfl, ⟨rfl, ⟨rfl, ⟨rfl, trivial⟩⟩⟩⟩
        · refine r_iconst (pc := 694) (v := 0) d_Law_law_694 (by rfl) ?_
          exact r_lret0 d_Law_law_695
      refine r_split (fun cq160 => ?_) (fun cq160 => ?_)
      · refine r_tableIn (pc := 33) (tgt := 696) d_Law_law_33 (by rw [cq160]; decide) (by rw [cq160]; decide) (by rw [cq160] <;> rfl) (by rfl) ?_
        refine r_aload_n (pc := 696) (i := 1) d_Law_law_696 rfl rfl ?_
        refine r_aloadF_n (pc := 697) (i := 0) (cv_1 G) d_Law_law_697 rfl rfl ?_
        refine r_iload_n (pc := 698) (i := 3) d_Law_law_698 rfl rfl ?_
        refine r_iconst (pc := 699) (v := 1) d_Law_law_699 (by rfl) ?_
        refine r_iadd (pc := 700) d_Law_law_700 ?_
        refine r_gx (fun zq161 => ?_)
        refine r_sld (pc := 701) hL hxs zq161 d_Law_law_701 ?_
        refine r_aloadF_n (pc := 702) (i := 0) (cv_1 G) d_Law_law_702 rfl rfl ?_
        refine r_iload_n (pc := 703) (i := 3) d_Law_law_703 rfl rfl ?_
        refine r_iconst (pc := 704) (v := 2) d_Law_law_704 (by rfl) ?_
        refine r_iadd (pc := 705) d_Law_law_705 ?_
        refine r_gx (fun zq162 => ?_)
        refine r_sld (pc := 706) hL hxs zq162 d_Law_law_706 ?_
        refine r_aloadF_n (pc := 707) (i := 0) (cv_1 G) d_Law_law_707 rfl rfl ?_
        refine r_iload_n (pc := 708) (i := 3) d_Law_law_708 rfl rfl ?_
        refine r_iconst (pc := 709) (v := 3) d_Law_law_709 (by rfl) ?_
        refine r_iadd (pc := 710) d_Law_law_710 ?_
        refine r_gx (fun zq163 => ?_)
        refine r_sld (pc := 711) hL hxs zq163 d_Law_law_711 ?_
        refine r_cVi (pc := 712) (T := F_11) (N := 13) (st := []) (ok_H_high hn (xs (ix (x3 + (1 : Int32)))) (xs (ix (x3 + (2 : Int32)))) (xs (ix (x3 + (3 : Int32)))) h) (fun s => Std.k s (lc hn rfl) kq_0) rfl w_834 w_1 w_831 w_832 w_833 hy_H_high ⟨Nat.le_of_ble_eq_true rfl, Nat.le_of_ble_eq_true rfl⟩ ⟨Nat.le_of_ble_eq_true rfl, Nat.le_of_ble_eq_true rfl⟩ rfl (Nat.le_of_ble_eq_true rfl) d_Law_law_712 (fun rq164 hq165 => ?_)
        refine r_aload_n (pc := 715) (i := 2) d_Law_law_715 rfl rfl ?_
        refine r_aloadF_n (pc := 716) (i := 0) (cv_1 G) d_Law_law_716 rfl rfl ?_
        refine r_iload_n (pc := 717) (i := 3) d_Law_law_717 rfl rfl ?_
        refine r_iconst (pc := 718) (v := 1) d_Law_law_718 (by rfl) ?_
        refine r_iadd (pc := 719) d_Law_law_719 ?_
        refine r_gx (fun zq166 => ?_)
        refine r_sld (pc := 720) hL hxs zq166 d_Law_law_720 ?_
        refine r_aloadF_n (pc := 721) (i := 0) (cv_1 G) d_Law_law_721 rfl rfl ?_
        refine r_iload_n (pc := 722) (i := 3) d_Law_law_722 rfl rfl ?_
        refine r_iconst (pc := 723) (v := 2) d_Law_law_723 (by rfl) ?_
        refine r_iadd (pc := 724) d_Law_law_724 ?_
        refine r_gx (fun zq167 => ?_)
        refine r_sld (pc := 725) hL hxs zq167 d_Law_law_725 ?_
        refine r_aloadF_n (pc := 726) (i := 0) (cv_1 G) d_Law_law_726 rfl rfl ?_
        refine r_iload_n (pc := 727) (i := 3) d_Law_law_727 rfl rfl ?_
        refine r_iconst (pc := 728) (v := 3) d_Law_law_728 (by rfl) ?_
        refine r_iadd (pc := 729) d_Law_law_729 ?_
        refine r_gx (fun zq168 => ?_)
        refine r_sld (pc := 730) hL hxs zq168 d_Law_law_730 ?_
        refine r_cVi (pc := 731) (T := F_12) (N := 73) (st := [.int rq164]) (ok_M_high hn (xs (ix (x3 + (1 : Int32)))) (xs (ix (x3 + (2 : Int32)))) (xs (ix (x3 + (3 : Int32)))) hq165) (fun s => Std.k s (lc hn rfl) kq_383) rfl w_1620 w_13 w_1617 w_1618 w_1619 hy_M_high ⟨Nat.le_of_ble_eq_true rfl, Nat.le_of_ble_eq_true rfl⟩ ⟨Nat.le_of_ble_eq_true rfl, Nat.le_of_ble_eq_true rfl⟩ rfl (Nat.le_of_ble_eq_true rfl) d_Law_law_731 (fun rq169 hq170 => ?_)
        refine r_icmp_eq (pc := 734) (tgt := 1421) d_Law_law_734 (by rfl) ?_ ?_
        · refine r_ltE (fun xq171 exq171 => ?_)
          refine r_iinc (pc := 1421) (v := xq171) (lv1 := [some (.float 1), some (.ref 0), some (.ref 383), some (.int xq171)]) d_Law_law_1421 rfl exq171.symm (Nat.le_of_ble_eq_true rfl) rfl ?_
          refine r_goto (pc := 1424) (tgt := 18) d_Law_law_1424 (by rfl) ?_
          exact r_wk (ih xq171 hq170) ⟨rfl, ⟨rfl, ⟨rfl, ⟨rfl, trivial⟩⟩⟩⟩
        · refine r_iconst (pc := 737) (v := 0) d_Law_law_737 (by rfl) ?_
          exact r_lret0 d_Law_law_738
      refine r_split (fun cq172 => ?_) (fun cq172 => ?_)
      · refine r_tableIn (pc := 33) (tgt := 739) d_Law_law_33 (by rw [cq172]; decide) (by rw [cq172]; decide) (by rw [cq172] <;> rfl) (by rfl) ?_
        refine r_aload_n (pc := 739) (i := 1) d_Law_law_739 rfl rfl ?_
        refine r_aloadF_n (pc := 740) (i := 0) (cv_1 G) d_Law_law_740 rfl rfl ?_
        refine r_iload_n (pc := 741) (i := 3) d_Law_law_741 rfl rfl ?_
        refine r_iconst (pc := 742) (v := 1) d_Law_law_742 (by rfl) ?_
        refine r_iadd (pc := 743) d_Law_law_743 ?_
        refine r_gx (fun zq173 => ?_)
        refine r_sld (pc := 744) hL hxs zq173 d_Law_law_744 ?_
        refine r_aloadF_n (pc := 745) (i := 0) (cv_1 G) d_Law_law_745 rfl rfl ?_
        refine r_iload_n (pc := 746) (i := 3) d_Law_law_746 rfl rfl ?_
        refine r_iconst (pc := 747) (v := 2) d_Law_law_747 (by rfl) ?_
        refine r_iadd (pc := 748) d_Law_law_748 ?_
        refine r_gx (fun zq174 => ?_)
        refine r_sld (pc := 749) hL hxs zq174 d_Law_law_749 ?_
        refine r_aloadF_n (pc := 750) (i := 0) (cv_1 G) d_Law_law_750 rfl rfl ?_
        refine r_iload_n (pc := 751) (i := 3) d_Law_law_751 rfl rfl ?_
        refine r_iconst (pc := 752) (v := 3) d_Law_law_752 (by rfl) ?_
        refine r_iadd (pc := 753) d_Law_law_753 ?_
        refine r_gx (fun zq175 => ?_)
        refine r_sld (pc := 754) hL hxs zq175 d_Law_law_754 ?_
        refine r_aloadF_n (pc := 755) (i := 0) (cv_1 G) d_Law_law_755 rfl rfl ?_
        refine r_iload_n (pc := 756) (i := 3) d_Law_law_756 rfl rfl ?_
        refine r_iconst (pc := 757) (v := 4) d_Law_law_757 (by rfl) ?_
        refine r_iadd (pc := 758) d_Law_law_758 ?_
        refine r_gx (fun zq176 => ?_)
        refine r_sld (pc := 759) hL hxs zq176 d_Law_law_759 ?_
        refine r_cVi (pc := 760) (T := F_11) (N := 13) (st := []) (ok_H_plan hn (xs (ix (x3 + (1 : Int32)))) (xs (ix (x3 + (2 : Int32)))) (xs (ix (x3 + (3 : Int32)))) (xs (ix (x3 + (4 : Int32)))) h) (fun s => Std.k s (lc hn rfl) kq_0) rfl w_838 w_1 w_835 w_836 w_837 hy_H_plan ⟨Nat.le_of_ble_eq_true rfl, Nat.le_of_ble_eq_true rfl⟩ ⟨Nat.le_of_ble_eq_true rfl, Nat.le_of_ble_eq_true rfl⟩ rfl (Nat.le_of_ble_eq_true rfl) d_Law_law_760 (fun rq177 hq178 => ?_)
        refine r_aload_n (pc := 763) (i := 2) d_Law_law_763 rfl rfl ?_
        refine r_aloadF_n (pc := 764) (i := 0) (cv_1 G) d_Law_law_764 rfl rfl ?_
        refine r_iload_n (pc := 765) (i := 3) d_Law_law_765 rfl rfl ?_
        refine r_iconst (pc := 766) (v := 1) d_Law_law_766 (by rfl) ?_
        refine r_iadd (pc := 767) d_Law_law_767 ?_
        refine r_gx (fun zq179 => ?_)
        refine r_sld (pc := 768) hL hxs zq179 d_Law_law_768 ?_
        refine r_aloadF_n (pc := 769) (i := 0) (cv_1 G) d_Law_law_769 rfl rfl ?_
        refine r_iload_n (pc := 770) (i := 3) d_Law_law_770 rfl rfl ?_
        refine r_iconst (pc := 771) (v := 2) d_Law_law_771 (by rfl) ?_
        refine r_iadd (pc := 772) d_Law_law_772 ?_
        refine r_gx (fun zq180 => ?_)
        refine r_sld (pc := 773) hL hxs zq180 d_Law_law_773 ?_
        refine r_aloadF_n (pc := 774) (i := 0) (cv_1 G) d_Law_law_774 rfl rfl ?_
        refine r_iload_n (pc := 775) (i := 3) d_Law_law_775 rfl rfl ?_
        refine r_iconst (pc := 776) (v := 3) d_Law_law_776 (by rfl) ?_
        refine r_iadd (pc := 777) d_Law_law_777 ?_
        refine r_gx (fun zq181 => ?_)
        refine r_sld (pc := 778) hL hxs zq181 d_Law_law_778 ?_
        refine r_aloadF_n (pc := 779) (i := 0) (cv_1 G) d_Law_law_779 rfl rfl ?_
        refine r_iload_n (pc := 780) (i := 3) d_Law_law_780 rfl rfl ?_
        refine r_iconst (pc := 781) (v := 4) d_Law_law_781 (by rfl) ?_
        refine r_iadd (pc := 782) d_Law_law_782 ?_
        refine r_gx (fun zq182 => ?_)
        refine r_sld (pc := 783) hL hxs zq182 d_Law_law_783 ?_
        refine r_cVi (pc := 784) (T := F_12) (N := 73) (st := [.int rq177]) (ok_M_plan hn (xs (ix (x3 + (1 : Int32)))) (xs (ix (x3 + (2 : Int32)))) (xs (ix (x3 + (3 : Int32)))) (xs (ix (x3 + (4 : Int32)))) hq178) (fun s => Std.k s (lc hn rfl) kq_383) rfl w_1624 w_13 w_1621 w_1622 w_1623 hy_M_plan ⟨Nat.le_of_ble_eq_true rfl, Nat.le_of_ble_eq_true rfl⟩ ⟨Nat.le_of_ble_eq_true rfl, Nat.le_of_ble_eq_true rfl⟩ rfl (Nat.le_of_ble_eq_true rfl) d_Law_law_784 (fun rq183 hq184 => ?_)
        refine r_icmp_eq (pc := 787) (tgt := 1421) d_Law_law_787 (by rfl) ?_ ?_
        · refine r_ltE (fun xq185 exq185 => ?_)
          refine r_iinc (pc := 1421) (v := xq185) (lv1 := [some (.float 1), some (.ref 0), some (.ref 383), some (.int xq185)]) d_Law_law_1421 rfl exq185.symm (Nat.le_of_ble_eq_true rfl) rfl ?_
          refine r_goto (pc := 1424) (tgt := 18) d_Law_law_1424 (by rfl) ?_
          exact r_wk (ih xq185 hq184) ⟨rfl, ⟨rfl, ⟨rfl, ⟨rfl, trivial⟩⟩⟩⟩
        · refine r_iconst (pc := 790) (v := 0) d_Law_law_790 (by rfl) ?_
          exact r_lret0 d_Law_law_791
      refine r_split (fun cq186 => ?_) (fun cq186 => ?_)
      · refine r_tableIn (pc := 33) (tgt := 792) d_Law_law_33 (by rw [cq186]; decide) (by rw [cq186]; decide) (by rw [cq186] <;> rfl) (by rfl) ?_
        refine r_aload_n (pc := 792) (i := 1) d_Law_law_792 rfl rfl ?_
        refine r_aloadF_n (pc := 793) (i := 0) (cv_1 G) d_Law_law_793 rfl rfl ?_
        refine r_iload_n (pc := 794) (i := 3) d_Law_law_794 rfl rfl ?_
        refine r_iconst (pc := 795) (v := 1) d_Law_law_795 (by rfl) ?_
        refine r_iadd (pc := 796) d_Law_law_796 ?_
        refine r_gx (fun zq187 => ?_)
        refine r_sld (pc := 797) hL hxs zq187 d_Law_law_797 ?_
        refine r_cVi (pc := 798) (T := F_11) (N := 13) (st := []) (ok_H_gain hn (xs (ix (x3 + (1 : Int32)))) h) (fun s => Std.k s (lc hn rfl) kq_0) rfl w_856 w_1 w_853 w_854 w_855 hy_H_gain ⟨Nat.le_of_ble_eq_true rfl, Nat.le_of_ble_eq_true rfl⟩ ⟨Nat.le_of_ble_eq_true rfl, Nat.le_of_ble_eq_true rfl⟩ rfl (Nat.le_of_ble_eq_true rfl) d_Law_law_798 (fun rq188 hq189 => ?_)
        refine r_aload_n (pc := 801) (i := 2) d_Law_law_801 rfl rfl ?_
        refine r_aloadF_n (pc := 802) (i := 0) (cv_1 G) d_Law_law_802 rfl rfl ?_
        refine r_iload_n (pc := 803) (i := 3) d_Law_law_803 rfl rfl ?_
        refine r_iconst (pc := 804) (v := 1) d_Law_law_804 (by rfl) ?_
        refine r_iadd (pc := 805) d_Law_law_805 ?_
        refine r_gx (fun zq190 => ?_)
        refine r_sld (pc := 806) hL hxs zq190 d_Law_law_806 ?_
        refine r_cVi (pc := 807) (T := F_12) (N := 73) (st := [.int rq188]) (ok_M_gain hn (xs (ix (x3 + (1 : Int32)))) hq189) (fun s => Std.k s (lc hn rfl) kq_383) rfl w_1628 w_13 w_1625 w_1626 w_1627 hy_M_gain ⟨Nat.le_of_ble_eq_true rfl, Nat.le_of_ble_eq_true rfl⟩ ⟨Nat.le_of_ble_eq_true rfl, Nat.le_of_ble_eq_true rfl⟩ rfl (Nat.le_of_ble_eq_true rfl) d_Law_law_807 (fun rq191 hq192 => ?_)
        refine r_icmp_eq (pc := 810) (tgt := 1421) d_Law_law_810 (by rfl) ?_ ?_
        · refine r_ltE (fun xq193 exq193 => ?_)
          refine r_iinc (pc := 1421) (v := xq193) (lv1 := [some (.float 1), some (.ref 0), some (.ref 383), some (.int xq193)]) d_Law_law_1421 rfl exq193.symm (Nat.le_of_ble_eq_true rfl) rfl ?_
          refine r_goto (pc := 1424) (tgt := 18) d_Law_law_1424 (by rfl) ?_
          exact r_wk (ih xq193 hq192) ⟨rfl, ⟨rfl, ⟨rfl, ⟨rfl, trivial⟩⟩⟩⟩
        · refine r_iconst (pc := 813) (v := 0) d_Law_law_813 (by rfl) ?_
          exact r_lret0 d_Law_law_814
      refine r_split (fun cq194 => ?_) (fun cq194 => ?_)
      · refine r_tableIn (pc := 33) (tgt := 815) d_Law_law_33 (by rw [cq194]; decide) (by rw [cq194]; decide) (by rw [cq194] <;> rfl) (by rfl) ?_
        refine r_aload_n (pc := 815) (i := 1) d_Law_law_815 rfl rfl ?_
        refine r_aloadF_n (pc := 816) (i := 0) (cv_1 G) d_Law_law_816 rfl rfl ?_
        refine r_iload_n (pc := 817) (i := 3) d_Law_law_817 rfl rfl ?_
        refine r_iconst (pc := 818) (v := 1) d_Law_law_818 (by rfl) ?_
        refine r_iadd (pc := 819) d_Law_law_819 ?_
        refine r_gx (fun zq195 => ?_)
        refine r_sld (pc := 820) hL hxs zq195 d_Law_law_820 ?_
        refine r_cVi (pc := 821) (T := F_11) (N := 13) (st := []) (ok_H_clear hn (xs (ix (x3 + (1 : Int32)))) h) (fun s => Std.k s (lc hn rfl) kq_0) rfl w_864 w_1 w_861 w_862 w_863 hy_H_clear ⟨Nat.le_of_ble_eq_true rfl, Nat.le_of_ble_eq_true rfl⟩ ⟨Nat.le_of_ble_eq_true rfl, Nat.le_of_ble_eq_true rfl⟩ rfl (Nat.le_of_ble_eq_true rfl) d_Law_law_821 (fun rq196 hq197 => ?_)
        refine r_aload_n (pc := 824) (i := 2) d_Law_law_824 rfl rfl ?_
        refine r_aloadF_n (pc := 825) (i := 0) (cv_1 G) d_Law_law_825 rfl rfl ?_
        refine r_iload_n (pc := 826) (i := 3) d_Law_law_826 rfl rfl ?_
        refine r_iconst (pc := 827) (v := 1) d_Law_law_827 (by rfl) ?_
        refine r_iadd (pc := 828) d_Law_law_828 ?_
        refine r_gx (fun zq198 => ?_)
        refine r_sld (pc := 829) hL hxs zq198 d_Law_law_829 ?_
        refine r_cVi (pc := 830) (T := F_12) (N := 73) (st := [.int rq196]) (ok_M_clear hn (xs (ix (x3 + (1 : Int32)))) hq197) (fun s => Std.k s (lc hn rfl) kq_383) rfl w_1632 w_13 w_1629 w_1630 w_1631 hy_M_clear ⟨Nat.le_of_ble_eq_true rfl, Nat.le_of_ble_eq_true rfl⟩ ⟨Nat.le_of_ble_eq_true rfl, Nat.le_of_ble_eq_true rfl⟩ rfl (Nat.le_of_ble_eq_true rfl) d_Law_law_830 (fun rq199 hq200 => ?_)
        refine r_icmp_eq (pc := 833) (tgt := 1421) d_Law_law_833 (by rfl) ?_ ?_
        · refine r_ltE (fun xq201 exq201 => ?_)
          refine r_iinc (pc := 1421) (v := xq201) (lv1 := [some (.float 1), some (.ref 0), some (.ref 383), some (.int xq201)]) d_Law_law_1421 rfl exq201.symm (Nat.le_of_ble_eq_true rfl) rfl ?_
          refine r_goto (pc := 1424) (tgt := 18) d_Law_law_1424 (by rfl) ?_
          exact r_wk (ih xq201 hq200) ⟨rfl, ⟨rfl, ⟨rfl, ⟨rfl, trivial⟩⟩⟩⟩
        · refine r_iconst (pc := 836) (v := 0) d_Law_law_836 (by rfl) ?_
          exact r_lret0 d_Law_law_837
      refine r_split (fun cq202 => ?_) (fun cq202 => ?_)
      · refine r_tableIn (pc := 33) (tgt := 838) d_Law_law_33 (by rw [cq202]; decide) (by rw [cq202]; decide) (by rw [cq202] <;> rfl) (by rfl) ?_
        refine r_aload_n (pc := 838) (i := 1) d_Law_law_838 rfl rfl ?_
        refine r_aloadF_n (pc := 839) (i := 0) (cv_1 G) d_Law_law_839 rfl rfl ?_
        refine r_iload_n (pc := 840) (i := 3) d_Law_law_840 rfl rfl ?_
        refine r_iconst (pc := 841) (v := 1) d_Law_law_841 (by rfl) ?_
        refine r_iadd (pc := 842) d_Law_law_842 ?_
        refine r_gx (fun zq203 => ?_)
        refine r_sld (pc := 843) hL hxs zq203 d_Law_law_843 ?_
        refine r_cVi (pc := 844) (T := F_11) (N := 13) (st := []) (ok_H_spoils hn (xs (ix (x3 + (1 : Int32)))) h) (fun s => Std.k s (lc hn rfl) kq_0) rfl w_882 w_1 w_879 w_880 w_881 hy_H_spoils ⟨Nat.le_of_ble_eq_true rfl, Nat.le_of_ble_eq_true rfl⟩ ⟨Nat.le_of_ble_eq_true rfl, Nat.le_of_ble_eq_true rfl⟩ rfl (Nat.le_of_ble_eq_true rfl) d_Law_law_844 (fun rq204 hq205 => ?_)
        refine r_aload_n (pc := 847) (i := 2) d_Law_law_847 rfl rfl ?_
        refine r_aloadF_n (pc := 848) (i := 0) (cv_1 G) d_Law_law_848 rfl rfl ?_
        refine r_iload_n (pc := 849) (i := 3) d_Law_law_849 rfl rfl ?_
        refine r_iconst (pc := 850) (v := 1) d_Law_law_850 (by rfl) ?_
        refine r_iadd (pc := 851) d_Law_law_851 ?_
        refine r_gx (fun zq206 => ?_)
        refine r_sld (pc := 852) hL hxs zq206 d_Law_law_852 ?_
        refine r_cVi (pc := 853) (T := F_12) (N := 73) (st := [.int rq204]) (ok_M_spoils hn (xs (ix (x3 + (1 : Int32)))) hq205) (fun s => Std.k s (lc hn rfl) kq_383) rfl w_1652 w_13 w_1649 w_1650 w_1651 hy_M_spoils ⟨Nat.le_of_ble_eq_true rfl, Nat.le_of_ble_eq_true rfl⟩ ⟨Nat.le_of_ble_eq_true rfl, Nat.le_of_ble_eq_true rfl⟩ rfl (Nat.le_of_ble_eq_true rfl) d_Law_law_853 (fun rq207 hq208 => ?_)
        refine r_icmp_eq (pc := 856) (tgt := 1421) d_Law_law_856 (by rfl) ?_ ?_
        · refine r_ltE (fun xq209 exq209 => ?_)
          refine r_iinc (pc := 1421) (v := xq209) (lv1 := [some (.float 1), some (.ref 0), some (.ref 383), some (.int xq209)]) d_Law_law_1421 rfl exq209.symm (Nat.le_of_ble_eq_true rfl) rfl ?_
          refine r_goto (pc := 1424) (tgt := 18) d_Law_law_1424 (by rfl) ?_
          exact r_wk (ih xq209 hq208) ⟨rfl, ⟨rfl, ⟨rfl, ⟨rfl, trivial⟩⟩⟩⟩
        · refine r_iconst (pc := 859) (v := 0) d_Law_law_859 (by rfl) ?_
          exact r_lret0 d_Law_law_860
      refine r_split (fun cq210 => ?_) (fun cq210 => ?_)
      · refine r_tableIn (pc := 33) (tgt := 861) d_Law_law_33 (by rw [cq210]; decide) (by rw [cq210]; decide) (by rw [cq210] <;> rfl) (by rfl) ?_
        refine r_aload_n (pc := 861) (i := 1) d_Law_law_861 rfl rfl ?_
        refine r_aloadF_n (pc := 862) (i := 0) (cv_1 G) d_Law_law_862 rfl rfl ?_
        refine r_iload_n (pc := 863) (i := 3) d_Law_law_863 rfl rfl ?_
        refine r_iconst (pc := 864) (v := 1) d_Law_law_864 (by rfl) ?_
        refine r_iadd (pc := 865) d_Law_law_865 ?_
        refine r_gx (fun zq211 => ?_)
        refine r_sld (pc := 866) hL hxs zq211 d_Law_law_866 ?_
        refine r_cVi (pc := 867) (T := F_11) (N := 13) (st := []) (ok_H_starve hn (xs (ix (x3 + (1 : Int32)))) h) (fun s => Std.k s (lc hn rfl) kq_0) rfl w_898 w_1 w_895 w_896 w_897 hy_H_starve ⟨Nat.le_of_ble_eq_true rfl, Nat.le_of_ble_eq_true rfl⟩ ⟨Nat.le_of_ble_eq_true rfl, Nat.le_of_ble_eq_true rfl⟩ rfl (Nat.le_of_ble_eq_true rfl) d_Law_law_867 (fun rq212 hq213 => ?_)
        refine r_aload_n (pc := 870) (i := 2) d_Law_law_870 rfl rfl ?_
        refine r_aloadF_n (pc := 871) (i := 0) (cv_1 G) d_Law_law_871 rfl rfl ?_
        refine r_iload_n (pc := 872) (i := 3) d_Law_law_872 rfl rfl ?_
        refine r_iconst (pc := 873) (v := 1) d_Law_law_873 (by rfl) ?_
        refine r_iadd (pc := 874) d_Law_law_874 ?_
        refine r_gx (fun zq214 => ?_)
        refine r_sld (pc := 875) hL hxs zq214 d_Law_law_875 ?_
        refine r_cVi (pc := 876) (T := F_12) (N := 73) (st := [.int rq212]) (ok_M_starve hn (xs (ix (x3 + (1 : Int32)))) hq213) (fun s => Std.k s (lc hn rfl) kq_383) rfl w_1661 w_13 w_1658 w_1659 w_1660 hy_M_starve ⟨Nat.le_of_ble_eq_true rfl, Nat.le_of_ble_eq_true rfl⟩ ⟨Nat.le_of_ble_eq_true rfl, Nat.le_of_ble_eq_true rfl⟩ rfl (Nat.le_of_ble_eq_true rfl) d_Law_law_876 (fun rq215 hq216 => ?_)
        refine r_icmp_eq (pc := 879) (tgt := 1421) d_Law_law_879 (by rfl) ?_ ?_
        · refine r_ltE (fun xq217 exq217 => ?_)
          refine r_iinc (pc := 1421) (v := xq217) (lv1 := [some (.float 1), some (.ref 0), some (.ref 383), some (.int xq217)]) d_Law_law_1421 rfl exq217.symm (Nat.le_of_ble_eq_true rfl) rfl ?_
          refine r_goto (pc := 1424) (tgt := 18) d_Law_law_1424 (by rfl) ?_
          exact r_wk (ih xq217 hq216) ⟨rfl, ⟨rfl, ⟨rfl, ⟨rfl, trivial⟩⟩⟩⟩
        · refine r_iconst (pc := 882) (v := 0) d_Law_law_882 (by rfl) ?_
          exact r_lret0 d_Law_law_883
      refine r_split (fun cq218 => ?_) (fun cq218 => ?_)
      · refine r_tableIn (pc := 33) (tgt := 884) d_Law_law_33 (by rw [cq218]; decide) (by rw [cq218]; decide) (by rw [cq218] <;> rfl) (by rfl) ?_
        refine r_aload_n (pc := 884) (i := 1) d_Law_law_884 rfl rfl ?_
        refine r_aloadF_n (pc := 885) (i := 0) (cv_1 G) d_Law_law_885 rfl rfl ?_
        refine r_iload_n (pc := 886) (i := 3) d_Law_law_886 rfl rfl ?_
        refine r_iconst (pc := 887) (v := 1) d_Law_law_887 (by rfl) ?_
        refine r_iadd (pc := 888) d_Law_law_888 ?_
        refine r_gx (fun zq219 => ?_)
        refine r_sld (pc := 889) hL hxs zq219 d_Law_law_889 ?_
        refine r_cVi (pc := 890) (T := F_11) (N := 13) (st := []) (ok_H_hush hn (xs (ix (x3 + (1 : Int32)))) h) (fun s => Std.k s (lc hn rfl) kq_0) rfl w_902 w_1 w_899 w_900 w_901 hy_H_hush ⟨Nat.le_of_ble_eq_true rfl, Nat.le_of_ble_eq_true rfl⟩ ⟨Nat.le_of_ble_eq_true rfl, Nat.le_of_ble_eq_true rfl⟩ rfl (Nat.le_of_ble_eq_true rfl) d_Law_law_890 (fun rq220 hq221 => ?_)
        refine r_aload_n (pc := 893) (i := 2) d_Law_law_893 rfl rfl ?_
        refine r_aloadF_n (pc := 894) (i := 0) (cv_1 G) d_Law_law_894 rfl rfl ?_
        refine r_iload_n (pc := 895) (i := 3) d_Law_law_895 rfl rfl ?_
        refine r_iconst (pc := 896) (v := 1) d_Law_law_896 (by rfl) ?_
        refine r_iadd (pc := 897) d_Law_law_897 ?_
        refine r_gx (fun zq222 => ?_)
        refine r_sld (pc := 898) hL hxs zq222 d_Law_law_898 ?_
        refine r_cVi (pc := 899) (T := F_12) (N := 73) (st := [.int rq220]) (ok_M_hush hn (xs (ix (x3 + (1 : Int32)))) hq221) (fun s => Std.k s (lc hn rfl) kq_383) rfl w_1665 w_13 w_1662 w_1663 w_1664 hy_M_hush ⟨Nat.le_of_ble_eq_true rfl, Nat.le_of_ble_eq_true rfl⟩ ⟨Nat.le_of_ble_eq_true rfl, Nat.le_of_ble_eq_true rfl⟩ rfl (Nat.le_of_ble_eq_true rfl) d_Law_law_899 (fun rq223 hq224 => ?_)
        refine r_icmp_eq (pc := 902) (tgt := 1421) d_Law_law_902 (by rfl) ?_ ?_
        · refine r_ltE (fun xq225 exq225 => ?_)
          refine r_iinc (pc := 1421) (v := xq225) (lv1 := [some (.float 1), some (.ref 0), some (.ref 383), some (.int xq225)]) d_Law_law_1421 rfl exq225.symm (Nat.le_of_ble_eq_true rfl) rfl ?_
          refine r_goto (pc := 1424) (tgt := 18) d_Law_law_1424 (by rfl) ?_
          exact r_wk (ih xq225 hq224) ⟨rfl, ⟨rfl, ⟨rfl, ⟨rfl, trivial⟩⟩⟩⟩
        · refine r_iconst (pc := 905) (v := 0) d_Law_law_905 (by rfl) ?_
          exact r_lret0 d_Law_law_906
      refine r_split (fun cq226 => ?_) (fun cq226 => ?_)
      · refine r_tableIn (pc := 33) (tgt := 907) d_Law_law_33 (by rw [cq226]; decide) (by rw [cq226]; decide) (by rw [cq226] <;> rfl) (by rfl) ?_
        refine r_aload_n (pc := 907) (i := 1) d_Law_law_907 rfl rfl ?_
        refine r_aloadF_n (pc := 908) (i := 0) (cv_1 G) d_Law_law_908 rfl rfl ?_
        refine r_iload_n (pc := 909) (i := 3) d_Law_law_909 rfl rfl ?_
        refine r_iconst (pc := 910) (v := 1) d_Law_law_910 (by rfl) ?_
        refine r_iadd (pc := 911) d_Law_law_911 ?_
        refine r_gx (fun zq227 => ?_)
        refine r_sld (pc := 912) hL hxs zq227 d_Law_law_912 ?_
        refine r_aloadF_n (pc := 913) (i := 0) (cv_1 G) d_Law_law_913 rfl rfl ?_
        refine r_iload_n (pc := 914) (i := 3) d_Law_law_914 rfl rfl ?_
        refine r_iconst (pc := 915) (v := 2) d_Law_law_915 (by rfl) ?_
        refine r_iadd (pc := 916) d_Law_law_916 ?_
        refine r_gx (fun zq228 => ?_)
        refine r_sld (pc := 917) hL hxs zq228 d_Law_law_917 ?_
        refine r_aloadF_n (pc := 918) (i := 0) (cv_1 G) d_Law_law_918 rfl rfl ?_
        refine r_iload_n (pc := 919) (i := 3) d_Law_law_919 rfl rfl ?_
        refine r_iconst (pc := 920) (v := 3) d_Law_law_920 (by rfl) ?_
        refine r_iadd (pc := 921) d_Law_law_921 ?_
        refine r_gx (fun zq229 => ?_)
        refine r_sld (pc := 922) hL hxs zq229 d_Law_law_922 ?_
        refine r_aloadF_n (pc := 923) (i := 0) (cv_1 G) d_Law_law_923 rfl rfl ?_
        refine r_iload_n (pc := 924) (i := 3) d_Law_law_924 rfl rfl ?_
        refine r_iconst (pc := 925) (v := 4) d_Law_law_925 (by rfl) ?_
        refine r_iadd (pc := 926) d_Law_law_926 ?_
        refine r_gx (fun zq230 => ?_)
        refine r_sld (pc := 927) hL hxs zq230 d_Law_law_927 ?_
        refine r_cVi (pc := 928) (T := F_11) (N := 13) (st := []) (ok_H_mean hn (xs (ix (x3 + (1 : Int32)))) (xs (ix (x3 + (2 : Int32)))) (xs (ix (x3 + (3 : Int32)))) (xs (ix (x3 + (4 : Int32)))) h) (fun s => Std.k s (lc hn rfl) kq_0) rfl w_906 w_1 w_903 w_904 w_905 hy_H_mean ⟨Nat.le_of_ble_eq_true rfl, Nat.le_of_ble_eq_true rfl⟩ ⟨Nat.le_of_ble_eq_true rfl, Nat.le_of_ble_eq_true rfl⟩ rfl (Nat.le_of_ble_eq_true rfl) d_Law_law_928 (fun rq231 hq232 => ?_)
        refine r_aload_n (pc := 931) (i := 2) d_Law_law_931 rfl rfl ?_
        refine r_aloadF_n (pc := 932) (i := 0) (cv_1 G) d_Law_law_932 rfl rfl ?_
        refine r_iload_n (pc := 933) (i := 3) d_Law_law_933 rfl rfl ?_
        refine r_iconst (pc := 934) (v := 1) d_Law_law_934 (by rfl) ?_
        refine r_iadd (pc := 935) d_Law_law_935 ?_
        refine r_gx (fun zq233 => ?_)
        refine r_sld (pc := 936) hL hxs zq233 d_Law_law_936 ?_
        refine r_aloadF_n (pc := 937) (i := 0) (cv_1 G) d_Law_law_937 rfl rfl ?_
        refine r_iload_n (pc := 938) (i := 3) d_Law_law_938 rfl rfl ?_
        refine r_iconst (pc := 939) (v := 2) d_Law_law_939 (by rfl) ?_
        refine r_iadd (pc := 940) d_Law_law_940 ?_
        refine r_gx (fun zq234 => ?_)
        refine r_sld (pc := 941) hL hxs zq234 d_Law_law_941 ?_
        refine r_aloadF_n (pc := 942) (i := 0) (cv_1 G) d_Law_law_942 rfl rfl ?_
        refine r_iload_n (pc := 943) (i := 3) d_Law_law_943 rfl rfl ?_
        refine r_iconst (pc := 944) (v := 3) d_Law_law_944 (by rfl) ?_
        refine r_iadd (pc := 945) d_Law_law_945 ?_
        refine r_gx (fun zq235 => ?_)
        refine r_sld (pc := 946) hL hxs zq235 d_Law_law_946 ?_
        refine r_aloadF_n (pc := 947) (i := 0) (cv_1 G) d_Law_law_947 rfl rfl ?_
        refine r_iload_n (pc := 948) (i := 3) d_Law_law_948 rfl rfl ?_
        refine r_iconst (pc := 949) (v := 4) d_Law_law_949 (by rfl) ?_
        refine r_iadd (pc := 950) d_Law_law_950 ?_
        refine r_gx (fun zq236 => ?_)
        refine r_sld (pc := 951) hL hxs zq236 d_Law_law_951 ?_
        refine r_cVi (pc := 952) (T := F_12) (N := 73) (st := [.int rq231]) (ok_M_mean hn (xs (ix (x3 + (1 : Int32)))) (xs (ix (x3 + (2 : Int32)))) (xs (ix (x3 + (3 : Int32)))) (xs (ix (x3 + (4 : Int32)))) hq232) (fun s => Std.k s (lc hn rfl) kq_383) rfl w_1699 w_13 w_1696 w_1697 w_1698 hy_M_mean ⟨Nat.le_of_ble_eq_true rfl, Nat.le_of_ble_eq_true rfl⟩ ⟨Nat.le_of_ble_eq_true rfl, Nat.le_of_ble_eq_true rfl⟩ rfl (Nat.le_of_ble_eq_true rfl) d_Law_law_952 (fun rq237 hq238 => ?_)
        refine r_icmp_eq (pc := 955) (tgt := 1421) d_Law_law_955 (by rfl) ?_ ?_
        · refine r_ltE (fun xq239 exq239 => ?_)
          refine r_iinc (pc := 1421) (v := xq239) (lv1 := [some (.float 1), some (.ref 0), some (.ref 383), some (.int xq239)]) d_Law_law_1421 rfl exq239.symm (Nat.le_of_ble_eq_true rfl) rfl ?_
          refine r_goto (pc := 1424) (tgt := 18) d_Law_law_1424 (by rfl) ?_
          exact r_wk (ih xq239 hq238) ⟨rfl, ⟨rfl, ⟨rfl, ⟨rfl, trivial⟩⟩⟩⟩
        · refine r_iconst (pc := 958) (v := 0) d_Law_law_958 (by rfl) ?_
          exact r_lret0 d_Law_law_959
      refine r_split (fun cq240 => ?_) (fun cq240 => ?_)
      · refine r_tableIn (pc := 33) (tgt := 960) d_Law_law_33 (by rw [cq240]; decide) (by rw [cq240]; decide) (by rw [cq240] <;> rfl) (by rfl) ?_
        refine r_aload_n (pc := 960) (i := 1) d_Law_law_960 rfl rfl ?_
        refine r_aloadF_n (pc := 961) (i := 0) (cv_1 G) d_Law_law_961 rfl rfl ?_
        refine r_iload_n (pc := 962) (i := 3) d_Law_law_962 rfl rfl ?_
        refine r_iconst (pc := 963) (v := 1) d_Law_law_963 (by rfl) ?_
        refine r_iadd (pc := 964) d_Law_law_964 ?_
        refine r_gx (fun zq241 => ?_)
        refine r_sld (pc := 965) hL hxs zq241 d_Law_law_965 ?_
        refine r_aloadF_n (pc := 966) (i := 0) (cv_1 G) d_Law_law_966 rfl rfl ?_
        refine r_iload_n (pc := 967) (i := 3) d_Law_law_967 rfl rfl ?_
        refine r_iconst (pc := 968) (v := 2) d_Law_law_968 (by rfl) ?_
        refine r_iadd (pc := 969) d_Law_law_969 ?_
        refine r_gx (fun zq242 => ?_)
        refine r_sld (pc := 970) hL hxs zq242 d_Law_law_970 ?_
        refine r_aloadF_n (pc := 971) (i := 0) (cv_1 G) d_Law_law_971 rfl rfl ?_
        refine r_iload_n (pc := 972) (i := 3) d_Law_law_972 rfl rfl ?_
        refine r_iconst (pc := 973) (v := 3) d_Law_law_973 (by rfl) ?_
        refine r_iadd (pc := 974) d_Law_law_974 ?_
        refine r_gx (fun zq243 => ?_)
        refine r_sld (pc := 975) hL hxs zq243 d_Law_law_975 ?_
        refine r_cVi (pc := 976) (T := F_11) (N := 13) (st := []) (ok_H_rest hn (xs (ix (x3 + (1 : Int32)))) (xs (ix (x3 + (2 : Int32)))) (xs (ix (x3 + (3 : Int32)))) h) (fun s => Std.k s (lc hn rfl) kq_0) rfl w_925 w_1 w_922 w_923 w_924 hy_H_rest ⟨Nat.le_of_ble_eq_true rfl, Nat.le_of_ble_eq_true rfl⟩ ⟨Nat.le_of_ble_eq_true rfl, Nat.le_of_ble_eq_true rfl⟩ rfl (Nat.le_of_ble_eq_true rfl) d_Law_law_976 (fun rq244 hq245 => ?_)
        refine r_aload_n (pc := 979) (i := 2) d_Law_law_979 rfl rfl ?_
        refine r_aloadF_n (pc := 980) (i := 0) (cv_1 G) d_Law_law_980 rfl rfl ?_
        refine r_iload_n (pc := 981) (i := 3) d_Law_law_981 rfl rfl ?_
        refine r_iconst (pc := 982) (v := 1) d_Law_law_982 (by rfl) ?_
        refine r_iadd (pc := 983) d_Law_law_983 ?_
        refine r_gx (fun zq246 => ?_)
        refine r_sld (pc := 984) hL hxs zq246 d_Law_law_984 ?_
        refine r_aloadF_n (pc := 985) (i := 0) (cv_1 G) d_Law_law_985 rfl rfl ?_
        refine r_iload_n (pc := 986) (i := 3) d_Law_law_986 rfl rfl ?_
        refine r_iconst (pc := 987) (v := 2) d_Law_law_987 (by rfl) ?_
        refine r_iadd (pc := 988) d_Law_law_988 ?_
        refine r_gx (fun zq247 => ?_)
        refine r_sld (pc := 989) hL hxs zq247 d_Law_law_989 ?_
        refine r_aloadF_n (pc := 990) (i := 0) (cv_1 G) d_Law_law_990 rfl rfl ?_
        refine r_iload_n (pc := 991) (i := 3) d_Law_law_991 rfl rfl ?_
        refine r_iconst (pc := 992) (v := 3) d_Law_law_992 (by rfl) ?_
        refine r_iadd (pc := 993) d_Law_law_993 ?_
        refine r_gx (fun zq248 => ?_)
        refine r_sld (pc := 994) hL hxs zq248 d_Law_law_994 ?_
        refine r_cVi (pc := 995) (T := F_12) (N := 73) (st := [.int rq244]) (ok_M_rest hn (xs (ix (x3 + (1 : Int32)))) (xs (ix (x3 + (2 : Int32)))) (xs (ix (x3 + (3 : Int32)))) hq245) (fun s => Std.k s (lc hn rfl) kq_383) rfl w_1669 w_13 w_1666 w_1667 w_1668 hy_M_rest ⟨Nat.le_of_ble_eq_true rfl, Nat.le_of_ble_eq_true rfl⟩ ⟨Nat.le_of_ble_eq_true rfl, Nat.le_of_ble_eq_true rfl⟩ rfl (Nat.le_of_ble_eq_true rfl) d_Law_law_995 (fun rq249 hq250 => ?_)
        refine r_icmp_eq (pc := 998) (tgt := 1421) d_Law_law_998 (by rfl) ?_ ?_
        · refine r_ltE (fun xq251 exq251 => ?_)
          refine r_iinc (pc := 1421) (v := xq251) (lv1 := [some (.float 1), some (.ref 0), some (.ref 383), some (.int xq251)]) d_Law_law_1421 rfl exq251.symm (Nat.le_of_ble_eq_true rfl) rfl ?_
          refine r_goto (pc := 1424) (tgt := 18) d_Law_law_1424 (by rfl) ?_
          exact r_wk (ih xq251 hq250) ⟨rfl, ⟨rfl, ⟨rfl, ⟨rfl, trivial⟩⟩⟩⟩
        · refine r_iconst (pc := 1001) (v := 0) d_Law_law_1001 (by rfl) ?_
          exact r_lret0 d_Law_law_1002
      refine r_split (fun cq252 => ?_) (fun cq252 => ?_)
      · refine r_tableIn (pc := 33) (tgt := 1003) d_Law_law_33 (by rw [cq252]; decide) (by rw [cq252]; decide) (by rw [cq252] <;> rfl) (by rfl) ?_
        refine r_aload_n (pc := 1003) (i := 1) d_Law_law_1003 rfl rfl ?_
        refine r_aloadF_n (pc := 1004) (i := 0) (cv_1 G) d_Law_law_1004 rfl rfl ?_
        refine r_iload_n (pc := 1005) (i := 3) d_Law_law_1005 rfl rfl ?_
        refine r_iconst (pc := 1006) (v := 1) d_Law_law_1006 (by rfl) ?_
        refine r_iadd (pc := 1007) d_Law_law_1007 ?_
        refine r_gx (fun zq253 => ?_)
        refine r_sld (pc := 1008) hL hxs zq253 d_Law_law_1008 ?_
        refine r_aloadF_n (pc := 1009) (i := 0) (cv_1 G) d_Law_law_1009 rfl rfl ?_
        refine r_iload_n (pc := 1010) (i := 3) d_Law_law_1010 rfl rfl ?_
        refine r_iconst (pc := 1011) (v := 2) d_Law_law_1011 (by rfl) ?_
        refine r_iadd (pc := 1012) d_Law_law_1012 ?_
        refine r_gx (fun zq254 => ?_)
        refine r_sld (pc := 1013) hL hxs zq254 d_Law_law_1013 ?_
        refine r_aloadF_n (pc := 1014) (i := 0) (cv_1 G) d_Law_law_1014 rfl rfl ?_
        refine r_iload_n (pc := 1015) (i := 3) d_Law_law_1015 rfl rfl ?_
        refine r_iconst (pc := 1016) (v := 3) d_Law_law_1016 (by rfl) ?_
        refine r_iadd (pc := 1017) d_Law_law_1017 ?_
        refine r_gx (fun zq255 => ?_)
        refine r_sld (pc := 1018) hL hxs zq255 d_Law_law_1018 ?_
        refine r_aloadF_n (pc := 1019) (i := 0) (cv_1 G) d_Law_law_1019 rfl rfl ?_
        refine r_iload_n (pc := 1020) (i := 3) d_Law_law_1020 rfl rfl ?_
        refine r_iconst (pc := 1021) (v := 4) d_Law_law_1021 (by rfl) ?_
        refine r_iadd (pc := 1022) d_Law_law_1022 ?_
        refine r_gx (fun zq256 => ?_)
        refine r_sld (pc := 1023) hL hxs zq256 d_Law_law_1023 ?_
        refine r_aloadF_n (pc := 1024) (i := 0) (cv_1 G) d_Law_law_1024 rfl rfl ?_
        refine r_iload_n (pc := 1025) (i := 3) d_Law_law_1025 rfl rfl ?_
        refine r_iconst (pc := 1026) (v := 5) d_Law_law_1026 (by rfl) ?_
        refine r_iadd (pc := 1027) d_Law_law_1027 ?_
        refine r_gx (fun zq257 => ?_)
        refine r_sld (pc := 1028) hL hxs zq257 d_Law_law_1028 ?_
        refine r_cVi (pc := 1029) (T := F_11) (N := 13) (st := []) (ok_H_odds hn (xs (ix (x3 + (1 : Int32)))) (xs (ix (x3 + (2 : Int32)))) (xs (ix (x3 + (3 : Int32)))) (xs (ix (x3 + (4 : Int32)))) (xs (ix (x3 + (5 : Int32)))) h) (fun s => Std.k s (lc hn rfl) kq_0) rfl w_952 w_1 w_949 w_950 w_951 hy_H_odds ⟨Nat.le_of_ble_eq_true rfl, Nat.le_of_ble_eq_true rfl⟩ ⟨Nat.le_of_ble_eq_true rfl, Nat.le_of_ble_eq_true rfl⟩ rfl (Nat.le_of_ble_eq_true rfl) d_Law_law_1029 (fun rq258 hq259 => ?_)
        refine r_aload_n (pc := 1032) (i := 2) d_Law_law_1032 rfl rfl ?_
        refine r_aloadF_n (pc := 1033) (i := 0) (cv_1 G) d_Law_law_1033 rfl rfl ?_
        refine r_iload_n (pc := 1034) (i := 3) d_Law_law_1034 rfl rfl ?_
        refine r_iconst (pc := 1035) (v := 1) d_Law_law_1035 (by rfl) ?_
        refine r_iadd (pc := 1036) d_Law_law_1036 ?_
        refine r_gx (fun zq260 => ?_)
        refine r_sld (pc := 1037) hL hxs zq260 d_Law_law_1037 ?_
        refine r_aloadF_n (pc := 1038) (i := 0) (cv_1 G) d_Law_law_1038 rfl rfl ?_
        refine r_iload_n (pc := 1039) (i := 3) d_Law_law_1039 rfl rfl ?_
        refine r_iconst (pc := 1040) (v := 2) d_Law_law_1040 (by rfl) ?_
        refine r_iadd (pc := 1041) d_Law_law_1041 ?_
        refine r_gx (fun zq261 => ?_)
        refine r_sld (pc := 1042) hL hxs zq261 d_Law_law_1042 ?_
        refine r_aloadF_n (pc := 1043) (i := 0) (cv_1 G) d_Law_law_1043 rfl rfl ?_
        refine r_iload_n (pc := 1044) (i := 3) d_Law_law_1044 rfl rfl ?_
        refine r_iconst (pc := 1045) (v := 3) d_Law_law_1045 (by rfl) ?_
        refine r_iadd (pc := 1046) d_Law_law_1046 ?_
        refine r_gx (fun zq262 => ?_)
        refine r_sld (pc := 1047) hL hxs zq262 d_Law_law_1047 ?_
        refine r_aloadF_n (pc := 1048) (i := 0) (cv_1 G) d_Law_law_1048 rfl rfl ?_
        refine r_iload_n (pc := 1049) (i := 3) d_Law_law_1049 rfl rfl ?_
        refine r_iconst (pc := 1050) (v := 4) d_Law_law_1050 (by rfl) ?_
        refine r_iadd (pc := 1051) d_Law_law_1051 ?_
        refine r_gx (fun zq263 => ?_)
        refine r_sld (pc := 1052) hL hxs zq263 d_Law_law_1052 ?_
        refine r_aloadF_n (pc := 1053) (i := 0) (cv_1 G) d_Law_law_1053 rfl rfl ?_
        refine r_iload_n (pc := 1054) (i := 3) d_Law_law_1054 rfl rfl ?_
        refine r_iconst (pc := 1055) (v := 5) d_Law_law_1055 (by rfl) ?_
        refine r_iadd (pc := 1056) d_Law_law_1056 ?_
        refine r_gx (fun zq264 => ?_)
        refine r_sld (pc := 1057) hL hxs zq264 d_Law_law_1057 ?_
        refine r_cVi (pc := 1058) (T := F_12) (N := 73) (st := [.int rq258]) (ok_M_odds hn (xs (ix (x3 + (1 : Int32)))) (xs (ix (x3 + (2 : Int32)))) (xs (ix (x3 + (3 : Int32)))) (xs (ix (x3 + (4 : Int32)))) (xs (ix (x3 + (5 : Int32)))) hq259) (fun s => Std.k s (lc hn rfl) kq_383) rfl w_1681 w_13 w_1678 w_1679 w_1680 hy_M_odds ⟨Nat.le_of_ble_eq_true rfl, Nat.le_of_ble_eq_true rfl⟩ ⟨Nat.le_of_ble_eq_true rfl, Nat.le_of_ble_eq_true rfl⟩ rfl (Nat.le_of_ble_eq_true rfl) d_Law_law_1058 (fun rq265 hq266 => ?_)
        refine r_icmp_eq (pc := 1061) (tgt := 1421) d_Law_law_1061 (by rfl) ?_ ?_
        · refine r_ltE (fun xq267 exq267 => ?_)
          refine r_iinc (pc := 1421) (v := xq267) (lv1 := [some (.float 1), some (.ref 0), some (.ref 383), some (.int xq267)]) d_Law_law_1421 rfl exq267.symm (Nat.le_of_ble_eq_true rfl) rfl ?_
          refine r_goto (pc := 1424) (tgt := 18) d_Law_law_1424 (by rfl) ?_
          exact r_wk (ih xq267 hq266) ⟨rfl, ⟨rfl, ⟨rfl, ⟨rfl, trivial⟩⟩⟩⟩
        · refine r_iconst (pc := 1064) (v := 0) d_Law_law_1064 (by rfl) ?_
          exact r_lret0 d_Law_law_1065
      refine r_split (fun cq268 => ?_) (fun cq268 => ?_)
      · refine r_tableIn (pc := 33) (tgt := 1066) d_Law_law_33 (by rw [cq268]; decide) (by rw [cq268]; decide) (by rw [cq268] <;> rfl) (by rfl) ?_
        refine r_aload_n (pc := 1066) (i := 1) d_Law_law_1066 rfl rfl ?_
        refine r_aloadF_n (pc := 1067) (i := 0) (cv_1 G) d_Law_law_1067 rfl rfl ?_
        refine r_iload_n (pc := 1068) (i := 3) d_Law_law_1068 rfl rfl ?_
        refine r_iconst (pc := 1069) (v := 1) d_Law_law_1069 (by rfl) ?_
        refine r_iadd (pc := 1070) d_Law_law_1070 ?_
        refine r_gx (fun zq269 => ?_)
        refine r_sld (pc := 1071) hL hxs zq269 d_Law_law_1071 ?_
        refine r_cVi (pc := 1072) (T := F_11) (N := 13) (st := []) (ok_H_law hn (xs (ix (x3 + (1 : Int32)))) h) (fun s => Std.k s (lc hn rfl) kq_0) rfl w_956 w_1 w_953 w_954 w_955 hy_H_law ⟨Nat.le_of_ble_eq_true rfl, Nat.le_of_ble_eq_true rfl⟩ ⟨Nat.le_of_ble_eq_true rfl, Nat.le_of_ble_eq_true rfl⟩ rfl (Nat.le_of_ble_eq_true rfl) d_Law_law_1072 (fun rq270 hq271 => ?_)
        refine r_aload_n (pc := 1075) (i := 2) d_Law_law_1075 rfl rfl ?_
        refine r_aloadF_n (pc := 1076) (i := 0) (cv_1 G) d_Law_law_1076 rfl rfl ?_
        refine r_iload_n (pc := 1077) (i := 3) d_Law_law_1077 rfl rfl ?_
        refine r_iconst (pc := 1078) (v := 1) d_Law_law_1078 (by rfl) ?_
        refine r_iadd (pc := 1079) d_Law_law_1079 ?_
        refine r_gx (fun zq272 => ?_)
        refine r_sld (pc := 1080) hL hxs zq272 d_Law_law_1080 ?_
        refine r_cVi (pc := 1081) (T := F_12) (N := 73) (st := [.int rq270]) (ok_M_law hn (xs (ix (x3 + (1 : Int32)))) hq271) (fun s => Std.k s (lc hn rfl) kq_383) rfl w_1703 w_13 w_1700 w_1701 w_1702 hy_M_law ⟨Nat.le_of_ble_eq_true rfl, Nat.le_of_ble_eq_true rfl⟩ ⟨Nat.le_of_ble_eq_true rfl, Nat.le_of_ble_eq_true rfl⟩ rfl (Nat.le_of_ble_eq_true rfl) d_Law_law_1081 (fun rq273 hq274 => ?_)
        refine r_icmp_eq (pc := 1084) (tgt := 1421) d_Law_law_1084 (by rfl) ?_ ?_
        · refine r_ltE (fun xq275 exq275 => ?_)
          refine r_iinc (pc := 1421) (v := xq275) (lv1 := [some (.float 1), some (.ref 0), some (.ref 383), some (.int xq275)]) d_Law_law_1421 rfl exq275.symm (Nat.le_of_ble_eq_true rfl) rfl ?_
          refine r_goto (pc := 1424) (tgt := 18) d_Law_law_1424 (by rfl) ?_
          exact r_wk (ih xq275 hq274) ⟨rfl, ⟨rfl, ⟨rfl, ⟨rfl, trivial⟩⟩⟩⟩
        · refine r_iconst (pc := 1087) (v := 0) d_Law_law_1087 (by rfl) ?_
          exact r_lret0 d_Law_law_1088
      refine r_split (fun cq276 => ?_) (fun cq276 => ?_)
      · refine r_tableIn (pc := 33) (tgt := 1089) d_Law_law_33 (by rw [cq276]; decide) (by rw [cq276]; decide) (by rw [cq276] <;> rfl) (by rfl) ?_
        refine r_aload_n (pc := 1089) (i := 1) d_Law_law_1089 rfl rfl ?_
        refine r_aloadF_n (pc := 1090) (i := 0) (cv_1 G) d_Law_law_1090 rfl rfl ?_
        refine r_iload_n (pc := 1091) (i := 3) d_Law_law_1091 rfl rfl ?_
        refine r_iconst (pc := 1092) (v := 1) d_Law_law_1092 (by rfl) ?_
        refine r_iadd (pc := 1093) d_Law_law_1093 ?_
        refine r_gx (fun zq277 => ?_)
        refine r_sld (pc := 1094) hL hxs zq277 d_Law_law_1094 ?_
        refine r_cVi (pc := 1095) (T := F_11) (N := 13) (st := []) (ok_H_song hn (xs (ix (x3 + (1 : Int32)))) h) (fun s => Std.k s (lc hn rfl) kq_0) rfl w_960 w_1 w_957 w_958 w_959 hy_H_song ⟨Nat.le_of_ble_eq_true rfl, Nat.le_of_ble_eq_true rfl⟩ ⟨Nat.le_of_ble_eq_true rfl, Nat.le_of_ble_eq_true rfl⟩ rfl (Nat.le_of_ble_eq_true rfl) d_Law_law_1095 (fun rq278 hq279 => ?_)
        refine r_aload_n (pc := 1098) (i := 2) d_Law_law_1098 rfl rfl ?_
        refine r_aloadF_n (pc := 1099) (i := 0) (cv_1 G) d_Law_law_1099 rfl rfl ?_
        refine r_iload_n (pc := 1100) (i := 3) d_Law_law_1100 rfl rfl ?_
        refine r_iconst (pc := 1101) (v := 1) d_Law_law_1101 (by rfl) ?_
        refine r_iadd (pc := 1102) d_Law_law_1102 ?_
        refine r_gx (fun zq280 => ?_)
        refine r_sld (pc := 1103) hL hxs zq280 d_Law_law_1103 ?_
        refine r_cVi (pc := 1104) (T := F_12) (N := 73) (st := [.int rq278]) (ok_M_song hn (xs (ix (x3 + (1 : Int32)))) hq279) (fun s => Std.k s (lc hn rfl) kq_383) rfl w_1711 w_13 w_1708 w_1709 w_1710 hy_M_song ⟨Nat.le_of_ble_eq_true rfl, Nat.le_of_ble_eq_true rfl⟩ ⟨Nat.le_of_ble_eq_true rfl, Nat.le_of_ble_eq_true rfl⟩ rfl (Nat.le_of_ble_eq_true rfl) d_Law_law_1104 (fun rq281 hq282 => ?_)
        refine r_icmp_eq (pc := 1107) (tgt := 1421) d_Law_law_1107 (by rfl) ?_ ?_
        · refine r_ltE (fun xq283 exq283 => ?_)
          refine r_iinc (pc := 1421) (v := xq283) (lv1 := [some (.float 1), some (.ref 0), some (.ref 383), some (.int xq283)]) d_Law_law_1421 rfl exq283.symm (Nat.le_of_ble_eq_true rfl) rfl ?_
          refine r_goto (pc := 1424) (tgt := 18) d_Law_law_1424 (by rfl) ?_
          exact r_wk (ih xq283 hq282) ⟨rfl, ⟨rfl, ⟨rfl, ⟨rfl, trivial⟩⟩⟩⟩
        · refine r_iconst (pc := 1110) (v := 0) d_Law_law_1110 (by rfl) ?_
          exact r_lret0 d_Law_law_1111
      refine r_split (fun cq284 => ?_) (fun cq284 => ?_)
      · refine r_tableIn (pc := 33) (tgt := 1112) d_Law_law_33 (by rw [cq284]; decide) (by rw [cq284]; decide) (by rw [cq284] <;> rfl) (by rfl) ?_
        refine r_aload_n (pc := 1112) (i := 1) d_Law_law_1112 rfl rfl ?_
        refine r_aloadF_n (pc := 1113) (i := 0) (cv_1 G) d_Law_law_1113 rfl rfl ?_
        refine r_iload_n (pc := 1114) (i := 3) d_Law_law_1114 rfl rfl ?_
        refine r_iconst (pc := 1115) (v := 1) d_Law_law_1115 (by rfl) ?_
        refine r_iadd (pc := 1116) d_Law_law_1116 ?_
        refine r_gx (fun zq285 => ?_)
        refine r_sld (pc := 1117) hL hxs zq285 d_Law_law_1117 ?_
        refine r_cVi (pc := 1118) (T := F_11) (N := 13) (st := []) (ok_H_songs hn (xs (ix (x3 + (1 : Int32)))) h) (fun s => Std.k s (lc hn rfl) kq_0) rfl w_990 w_1 w_987 w_988 w_989 hy_H_songs ⟨Nat.le_of_ble_eq_true rfl, Nat.le_of_ble_eq_true rfl⟩ ⟨Nat.le_of_ble_eq_true rfl, Nat.le_of_ble_eq_true rfl⟩ rfl (Nat.le_of_ble_eq_true rfl) d_Law_law_1118 (fun rq286 hq287 => ?_)
        refine r_aload_n (pc := 1121) (i := 2) d_Law_law_1121 rfl rfl ?_
        refine r_aloadF_n (pc := 1122) (i := 0) (cv_1 G) d_Law_law_1122 rfl rfl ?_
        refine r_iload_n (pc := 1123) (i := 3) d_Law_law_1123 rfl rfl ?_
        refine r_iconst (pc := 1124) (v := 1) d_Law_law_1124 (by rfl) ?_
        refine r_iadd (pc := 1125) d_Law_law_1125 ?_
        refine r_gx (fun zq288 => ?_)
        refine r_sld (pc := 1126) hL hxs zq288 d_Law_law_1126 ?_
        refine r_cVi (pc := 1127) (T := F_12) (N := 73) (st := [.int rq286]) (ok_M_songs hn (xs (ix (x3 + (1 : Int32)))) hq287) (fun s => Std.k s (lc hn rfl) kq_383) rfl w_1730 w_13 w_1727 w_1728 w_1729 hy_M_songs ⟨Nat.le_of_ble_eq_true rfl, Nat.le_of_ble_eq_true rfl⟩ ⟨Nat.le_of_ble_eq_true rfl, Nat.le_of_ble_eq_true rfl⟩ rfl (Nat.le_of_ble_eq_true rfl) d_Law_law_1127 (fun rq289 hq290 => ?_)
        refine r_icmp_eq (pc := 1130) (tgt := 1421) d_Law_law_1130 (by rfl) ?_ ?_
        · refine r_ltE (fun xq291 exq291 => ?_)
          refine r_iinc (pc := 1421) (v := xq291) (lv1 := [some (.float 1), some (.ref 0), some (.ref 383), some (.int xq291)]) d_Law_law_1421 rfl exq291.symm (Nat.le_of_ble_eq_true rfl) rfl ?_
          refine r_goto (pc := 1424) (tgt := 18) d_Law_law_1424 (by rfl) ?_
          exact r_wk (ih xq291 hq290) ⟨rfl, ⟨rfl, ⟨rfl, ⟨rfl, trivial⟩⟩⟩⟩
        · refine r_iconst (pc := 1133) (v := 0) d_Law_law_1133 (by rfl) ?_
          exact r_lret0 d_Law_law_1134
      refine r_split (fun cq292 => ?_) (fun cq292 => ?_)
      · refine r_tableIn (pc := 33) (tgt := 1135) d_Law_law_33 (by rw [cq292]; decide) (by rw [cq292]; decide) (by rw [cq292] <;> rfl) (by rfl) ?_
        refine r_aload_n (pc := 1135) (i := 1) d_Law_law_1135 rfl rfl ?_
        refine r_aloadF_n (pc := 1136) (i := 0) (cv_1 G) d_Law_law_1136 rfl rfl ?_
        refine r_iload_n (pc := 1137) (i := 3) d_Law_law_1137 rfl rfl ?_
        refine r_iconst (pc := 1138) (v := 1) d_Law_law_1138 (by rfl) ?_
        refine r_iadd (pc := 1139) d_Law_law_1139 ?_
        refine r_gx (fun zq293 => ?_)
        refine r_sld (pc := 1140) hL hxs zq293 d_Law_law_1140 ?_
        refine r_cVi (pc := 1141) (T := F_11) (N := 13) (st := []) (ok_H_lies hn (xs (ix (x3 + (1 : Int32)))) h) (fun s => Std.k s (lc hn rfl) kq_0) rfl w_998 w_1 w_995 w_996 w_997 hy_H_lies ⟨Nat.le_of_ble_eq_true rfl, Nat.le_of_ble_eq_true rfl⟩ ⟨Nat.le_of_ble_eq_true rfl, Nat.le_of_ble_eq_true rfl⟩ rfl (Nat.le_of_ble_eq_true rfl) d_Law_law_1141 (fun rq294 hq295 => ?_)
        refine r_aload_n (pc := 1144) (i := 2) d_Law_law_1144 rfl rfl ?_
        refine r_aloadF_n (pc := 1145) (i := 0) (cv_1 G) d_Law_law_1145 rfl rfl ?_
        refine r_iload_n (pc := 1146) (i := 3) d_Law_law_1146 rfl rfl ?_
        refine r_iconst (pc := 1147) (v := 1) d_Law_law_1147 (by rfl) ?_
        refine r_iadd (pc := 1148) d_Law_law_1148 ?_
        refine r_gx (fun zq296 => ?_)
        refine r_sld (pc := 1149) hL hxs zq296 d_Law_law_1149 ?_
        refine r_cVi (pc := 1150) (T := F_12) (N := 73) (st := [.int rq294]) (ok_M_lies hn (xs (ix (x3 + (1 : Int32)))) hq295) (fun s => Std.k s (lc hn rfl) kq_383) rfl w_1734 w_13 w_1731 w_1732 w_1733 hy_M_lies ⟨Nat.le_of_ble_eq_true rfl, Nat.le_of_ble_eq_true rfl⟩ ⟨Nat.le_of_ble_eq_true rfl, Nat.le_of_ble_eq_true rfl⟩ rfl (Nat.le_of_ble_eq_true rfl) d_Law_law_1150 (fun rq297 hq298 => ?_)
        refine r_icmp_eq (pc := 1153) (tgt := 1421) d_Law_law_1153 (by rfl) ?_ ?_
        · refine r_ltE (fun xq299 exq299 => ?_)
          refine r_iinc (pc := 1421) (v := xq299) (lv1 := [some (.float 1), some (.ref 0), some (.ref 383), some (.int xq299)]) d_Law_law_1421 rfl exq299.symm (Nat.le_of_ble_eq_true rfl) rfl ?_
          refine r_goto (pc := 1424) (tgt := 18) d_Law_law_1424 (by rfl) ?_
          exact r_wk (ih xq299 hq298) ⟨rfl, ⟨rfl, ⟨rfl, ⟨rfl, trivial⟩⟩⟩⟩
        · refine r_iconst (pc := 1156) (v := 0) d_Law_law_1156 (by rfl) ?_
          exact r_lret0 d_Law_law_1157
      refine r_split (fun cq300 => ?_) (fun cq300 => ?_)
      · refine r_tableIn (pc := 33) (tgt := 1158) d_Law_law_33 (by rw [cq300]; decide) (by rw [cq300]; decide) (by rw [cq300] <;> rfl) (by rfl) ?_
        refine r_aload_n (pc := 1158) (i := 1) d_Law_law_1158 rfl rfl ?_
        refine r_aloadF_n (pc := 1159) (i := 0) (cv_1 G) d_Law_law_1159 rfl rfl ?_
        refine r_iload_n (pc := 1160) (i := 3) d_Law_law_1160 rfl rfl ?_
        refine r_iconst (pc := 1161) (v := 1) d_Law_law_1161 (by rfl) ?_
        refine r_iadd (pc := 1162) d_Law_law_1162 ?_
        refine r_gx (fun zq301 => ?_)
        refine r_sld (pc := 1163) hL hxs zq301 d_Law_law_1163 ?_
        refine r_aloadF_n (pc := 1164) (i := 0) (cv_1 G) d_Law_law_1164 rfl rfl ?_
        refine r_iload_n (pc := 1165) (i := 3) d_Law_law_1165 rfl rfl ?_
        refine r_iconst (pc := 1166) (v := 2) d_Law_law_1166 (by rfl) ?_
        refine r_iadd (pc := 1167) d_Law_law_1167 ?_
        refine r_gx (fun zq302 => ?_)
        refine r_sld (pc := 1168) hL hxs zq302 d_Law_law_1168 ?_
        refine r_aloadF_n (pc := 1169) (i := 0) (cv_1 G) d_Law_law_1169 rfl rfl ?_
        refine r_iload_n (pc := 1170) (i := 3) d_Law_law_1170 rfl rfl ?_
        refine r_iconst (pc := 1171) (v := 3) d_Law_law_1171 (by rfl) ?_
        refine r_iadd (pc := 1172) d_Law_law_1172 ?_
        refine r_gx (fun zq303 => ?_)
        refine r_sld (pc := 1173) hL hxs zq303 d_Law_law_1173 ?_
        refine r_if_eq (pc := 1174) (tgt := 1181) d_Law_law_1174 (by rfl) ?_ ?_
        · refine r_iconst (pc := 1181) (v := 0) d_Law_law_1181 (by rfl) ?_
          exact r_wk (o_Law_law_b1182 hn hL hxs ih x3 (xs (ix (x3 + (1 : Int32)))) (xs (ix (x3 + (2 : Int32)))) (0 : Int32) h) ⟨rfl, ⟨rfl, ⟨rfl, ⟨rfl, trivial⟩⟩⟩⟩
        · refine r_iconst (pc := 1177) (v := 1) d_Law_law_1177 (by rfl) ?_
          refine r_goto (pc := 1178) (tgt := 1182) d_Law_law_1178 (by rfl) ?_
          exact r_wk (o_Law_law_b1182 hn hL hxs ih x3 (xs (ix (x3 + (1 : Int32)))) (xs (ix (x3 + (2 : Int32)))) (1 : Int32) h) ⟨rfl, ⟨rfl, ⟨rfl, ⟨rfl, trivial⟩⟩⟩⟩
      refine r_split (fun cq304 => ?_) (fun cq304 => ?_)
      · refine r_tableIn (pc := 33) (tgt := 1217) d_Law_law_33 (by rw [cq304]; decide) (by rw [cq304]; decide) (by rw [cq304] <;> rfl) (by rfl) ?_
        refine r_aload_n (pc := 1217) (i := 1) d_Law_law_1217 rfl rfl ?_
        refine r_aloadF_n (pc := 1218) (i := 0) (cv_1 G) d_Law_law_1218 rfl rfl ?_
        refine r_iload_n (pc := 1219) (i := 3) d_Law_law_1219 rfl rfl ?_
        refine r_iconst (pc := 1220) (v := 1) d_Law_law_1220 (by rfl) ?_
        refine r_iadd (pc := 1221) d_Law_law_1221 ?_
        refine r_gx (fun zq305 => ?_)
        refine r_sld (pc := 1222) hL hxs zq305 d_Law_law_1222 ?_
        refine r_cVi (pc := 1223) (T := F_11) (N := 13) (st := []) (ok_H_untell hn (xs (ix (x3 + (1 : Int32)))) h) (fun s => Std.k s (lc hn rfl) kq_0) rfl w_1010 w_1 w_1007 w_1008 w_1009 hy_H_untell ⟨Nat.le_of_ble_eq_true rfl, Nat.le_of_ble_eq_true rfl⟩ ⟨Nat.le_of_ble_eq_true rfl, Nat.le_of_ble_eq_true rfl⟩ rfl (Nat.le_of_ble_eq_true rfl) d_Law_law_1223 (fun rq306 hq307 => ?_)
        refine r_aload_n (pc := 1226) (i := 2) d_Law_law_1226 rfl rfl ?_
        refine r_aloadF_n (pc := 1227) (i := 0) (cv_1 G) d_Law_law_1227 rfl rfl ?_
        refine r_iload_n (pc := 1228) (i := 3) d_Law_law_1228 rfl rfl ?_
        refine r_iconst (pc := 1229) (v := 1) d_Law_law_1229 (by rfl) ?_
        refine r_iadd (pc := 1230) d_Law_law_1230 ?_
        refine r_gx (fun zq308 => ?_)
        refine r_sld (pc := 1231) hL hxs zq308 d_Law_law_1231 ?_
        refine r_cVi (pc := 1232) (T := F_12) (N := 73) (st := [.int rq306]) (ok_M_untell hn (xs (ix (x3 + (1 : Int32)))) hq307) (fun s => Std.k s (lc hn rfl) kq_383) rfl w_1742 w_13 w_1739 w_1740 w_1741 hy_M_untell ⟨Nat.le_of_ble_eq_true rfl, Nat.le_of_ble_eq_true rfl⟩ ⟨Nat.le_of_ble_eq_true rfl, Nat.le_of_ble_eq_true rfl⟩ rfl (Nat.le_of_ble_eq_true rfl) d_Law_law_1232 (fun rq309 hq310 => ?_)
        refine r_icmp_eq (pc := 1235) (tgt := 1421) d_Law_law_1235 (by rfl) ?_ ?_
        · refine r_ltE (fun xq311 exq311 => ?_)
          refine r_iinc (pc := 1421) (v := xq311) (lv1 := [some (.float 1), some (.ref 0), some (.ref 383), some (.int xq311)]) d_Law_law_1421 rfl exq311.symm (Nat.le_of_ble_eq_true rfl) rfl ?_
          refine r_goto (pc := 1424) (tgt := 18) d_Law_law_1424 (by rfl) ?_
          exact r_wk (ih xq311 hq310) ⟨rfl, ⟨rfl, ⟨rfl, ⟨rfl, trivial⟩⟩⟩⟩
        · refine r_iconst (pc := 1238) (v := 0) d_Law_law_1238 (by rfl) ?_
          exact r_lret0 d_Law_law_1239
      refine r_split (fun cq312 => ?_) (fun cq312 => ?_)
      · refine r_tableIn (pc := 33) (tgt := 1240) d_Law_law_33 (by rw [cq312]; decide) (by rw [cq312]; decide) (by rw [cq312] <;> rfl) (by rfl) ?_
        refine r_aload_n (pc := 1240) (i := 1) d_Law_law_1240 rfl rfl ?_
        refine r_aloadF_n (pc := 1241) (i := 0) (cv_1 G) d_Law_law_1241 rfl rfl ?_
        refine r_iload_n (pc := 1242) (i := 3) d_Law_law_1242 rfl rfl ?_
        refine r_iconst (pc := 1243) (v := 1) d_Law_law_1243 (by rfl) ?_
        refine r_iadd (pc := 1244) d_Law_law_1244 ?_
        refine r_gx (fun zq313 => ?_)
        refine r_sld (pc := 1245) hL hxs zq313 d_Law_law_1245 ?_
        refine r_cVi (pc := 1246) (T := F_11) (N := 13) (st := []) (ok_H_later hn (xs (ix (x3 + (1 : Int32)))) h) (fun s => Std.k s (lc hn rfl) kq_0) rfl w_1018 w_1 w_1015 w_1016 w_1017 hy_H_later ⟨Nat.le_of_ble_eq_true rfl, Nat.le_of_ble_eq_true rfl⟩ ⟨Nat.le_of_ble_eq_true rfl, Nat.le_of_ble_eq_true rfl⟩ rfl (Nat.le_of_ble_eq_true rfl) d_Law_law_1246 (fun rq314 hq315 => ?_)
        refine r_aload_n (pc := 1249) (i := 2) d_Law_law_1249 rfl rfl ?_
        refine r_aloadF_n (pc := 1250) (i := 0) (cv_1 G) d_Law_law_1250 rfl rfl ?_
        refine r_iload_n (pc := 1251) (i := 3) d_Law_law_1251 rfl rfl ?_
        refine r_iconst (pc := 1252) (v := 1) d_Law_law_1252 (by rfl) ?_
        refine r_iadd (pc := 1253) d_Law_law_1253 ?_
        refine r_gx (fun zq316 => ?_)
        refine r_sld (pc := 1254) hL hxs zq316 d_Law_law_1254 ?_
        refine r_cVi (pc := 1255) (T := F_12) (N := 73) (st := [.int rq314]) (ok_M_later hn (xs (ix (x3 + (1 : Int32)))) hq315) (fun s => Std.k s (lc hn rfl) kq_383) rfl w_1746 w_13 w_1743 w_1744 w_1745 hy_M_later ⟨Nat.le_of_ble_eq_true rfl, Nat.le_of_ble_eq_true rfl⟩ ⟨Nat.le_of_ble_eq_true rfl, Nat.le_of_ble_eq_true rfl⟩ rfl (Nat.le_of_ble_eq_true rfl) d_Law_law_1255 (fun rq317 hq318 => ?_)
        refine r_icmp_eq (pc := 1258) (tgt := 1421) d_Law_law_1258 (by rfl) ?_ ?_
        · refine r_ltE (fun xq319 exq319 => ?_)
          refine r_iinc (pc := 1421) (v := xq319) (lv1 := [some (.float 1), some (.ref 0), some (.ref 383), some (.int xq319)]) d_Law_law_1421 rfl exq319.symm (Nat.le_of_ble_eq_true rfl) rfl ?_
          refine r_goto (pc := 1424) (tgt := 18) d_Law_law_1424 (by rfl) ?_
          exact r_wk (ih xq319 hq318) ⟨rfl, ⟨rfl, ⟨rfl, ⟨rfl, trivial⟩⟩⟩⟩
        · refine r_iconst (pc := 1261) (v := 0) d_Law_law_1261 (by rfl) ?_
          exact r_lret0 d_Law_law_1262
      refine r_split (fun cq320 => ?_) (fun cq320 => ?_)
      · refine r_tableIn (pc := 33) (tgt := 1263) d_Law_law_33 (by rw [cq320]; decide) (by rw [cq320]; decide) (by rw [cq320] <;> rfl) (by rfl) ?_
        refine r_aload_n (pc := 1263) (i := 1) d_Law_law_1263 rfl rfl ?_
        refine r_aloadF_n (pc := 1264) (i := 0) (cv_1 G) d_Law_law_1264 rfl rfl ?_
        refine r_iload_n (pc := 1265) (i := 3) d_Law_law_1265 rfl rfl ?_
        refine r_iconst (pc := 1266) (v := 1) d_Law_law_1266 (by rfl) ?_
        refine r_iadd (pc := 1267) d_Law_law_1267 ?_
        refine r_gx (fun zq321 => ?_)
        refine r_sld (pc := 1268) hL hxs zq321 d_Law_law_1268 ?_
        refine r_cVi (pc := 1269) (T := F_11) (N := 13) (st := []) (ok_H_fits hn (xs (ix (x3 + (1 : Int32)))) h) (fun s => Std.k s (lc hn rfl) kq_0) rfl w_1023 w_1 w_1020 w_1021 w_1022 hy_H_fits ⟨Nat.le_of_ble_eq_true rfl, Nat.le_of_ble_eq_true rfl⟩ ⟨Nat.le_of_ble_eq_true rfl, Nat.le_of_ble_eq_true rfl⟩ rfl (Nat.le_of_ble_eq_true rfl) d_Law_law_1269 (fun rq322 hq323 => ?_)
        refine r_aload_n (pc := 1272) (i := 2) d_Law_law_1272 rfl rfl ?_
        refine r_aloadF_n (pc := 1273) (i := 0) (cv_1 G) d_Law_law_1273 rfl rfl ?_
        refine r_iload_n (pc := 1274) (i := 3) d_Law_law_1274 rfl rfl ?_
        refine r_iconst (pc := 1275) (v := 1) d_Law_law_1275 (by rfl) ?_
        refine r_iadd (pc := 1276) d_Law_law_1276 ?_
        refine r_gx (fun zq324 => ?_)
        refine r_sld (pc := 1277) hL hxs zq324 d_Law_law_1277 ?_
        refine r_cVi (pc := 1278) (T := F_12) (N := 73) (st := [.int rq322]) (ok_M_fits hn (xs (ix (x3 + (1 : Int32)))) hq323) (fun s => Std.k s (lc hn rfl) kq_383) rfl w_1751 w_13 w_1748 w_1749 w_1750 hy_M_fits ⟨Nat.le_of_ble_eq_true rfl, Nat.le_of_ble_eq_true rfl⟩ ⟨Nat.le_of_ble_eq_true rfl, Nat.le_of_ble_eq_true rfl⟩ rfl (Nat.le_of_ble_eq_true rfl) d_Law_law_1278 (fun rq325 hq326 => ?_)
        refine r_icmp_eq (pc := 1281) (tgt := 1421) d_Law_law_1281 (by rfl) ?_ ?_
        · refine r_ltE (fun xq327 exq327 => ?_)
          refine r_iinc (pc := 1421) (v := xq327) (lv1 := [some (.float 1), some (.ref 0), some (.ref 383), some (.int xq327)]) d_Law_law_1421 rfl exq327.symm (Nat.le_of_ble_eq_true rfl) rfl ?_
          refine r_goto (pc := 1424) (tgt := 18) d_Law_law_1424 (by rfl) ?_
          exact r_wk (ih xq327 hq326) ⟨rfl, ⟨rfl, ⟨rfl, ⟨rfl, trivial⟩⟩⟩⟩
        · refine r_iconst (pc := 1284) (v := 0) d_Law_law_1284 (by rfl) ?_
          exact r_lret0 d_Law_law_1285
      refine r_split (fun cq328 => ?_) (fun cq328 => ?_)
      · refine r_tableIn (pc := 33) (tgt := 1286) d_Law_law_33 (by rw [cq328]; decide) (by rw [cq328]; decide) (by rw [cq328] <;> rfl) (by rfl) ?_
        refine r_aload_n (pc := 1286) (i := 1) d_Law_law_1286 rfl rfl ?_
        refine r_aloadF_n (pc := 1287) (i := 0) (cv_1 G) d_Law_law_1287 rfl rfl ?_
        refine r_iload_n (pc := 1288) (i := 3) d_Law_law_1288 rfl rfl ?_
        refine r_iconst (pc := 1289) (v := 1) d_Law_law_1289 (by rfl) ?_
        refine r_iadd (pc := 1290) d_Law_law_1290 ?_
        refine r_gx (fun zq329 => ?_)
        refine r_sld (pc := 1291) hL hxs zq329 d_Law_law_1291 ?_
        refine r_cVi (pc := 1292) (T := F_11) (N := 13) (st := []) (ok_H_sure hn (xs (ix (x3 + (1 : Int32)))) h) (fun s => Std.k s (lc hn rfl) kq_0) rfl w_1045 w_1 w_1042 w_1043 w_1044 hy_H_sure ⟨Nat.le_of_ble_eq_true rfl, Nat.le_of_ble_eq_true rfl⟩ ⟨Nat.le_of_ble_eq_true rfl, Nat.le_of_ble_eq_true rfl⟩ rfl (Nat.le_of_ble_eq_true rfl) d_Law_law_1292 (fun rq330 hq331 => ?_)
        refine r_aload_n (pc := 1295) (i := 2) d_Law_law_1295 rfl rfl ?_
        refine r_aloadF_n (pc := 1296) (i := 0) (cv_1 G) d_Law_law_1296 rfl rfl ?_
        refine r_iload_n (pc := 1297) (i := 3) d_Law_law_1297 rfl rfl ?_
        refine r_iconst (pc := 1298) (v := 1) d_Law_law_1298 (by rfl) ?_
        refine r_iadd (pc := 1299) d_Law_law_1299 ?_
        refine r_gx (fun zq332 => ?_)
        refine r_sld (pc := 1300) hL hxs zq332 d_Law_law_1300 ?_
        refine r_cVi (pc := 1301) (T := F_12) (N := 73) (st := [.int rq330]) (ok_M_sure hn (xs (ix (x3 + (1 : Int32)))) hq331) (fun s => Std.k s (lc hn rfl) kq_383) rfl w_1763 w_13 w_1760 w_1761 w_1762 hy_M_sure ⟨Nat.le_of_ble_eq_true rfl, Nat.le_of_ble_eq_true rfl⟩ ⟨Nat.le_of_ble_eq_true rfl, Nat.le_of_ble_eq_true rfl⟩ rfl (Nat.le_of_ble_eq_true rfl) d_Law_law_1301 (fun rq333 hq334 => ?_)
        refine r_icmp_eq (pc := 1304) (tgt := 1421) d_Law_law_1304 (by rfl) ?_ ?_
        · refine r_ltE (fun xq335 exq335 => ?_)
          refine r_iinc (pc := 1421) (v := xq335) (lv1 := [some (.float 1), some (.ref 0), some (.ref 383), some (.int xq335)]) d_Law_law_1421 rfl exq335.symm (Nat.le_of_ble_eq_true rfl) rfl ?_
          refine r_goto (pc := 1424) (tgt := 18) d_Law_law_1424 (by rfl) ?_
          exact r_wk (ih xq335 hq334) ⟨rfl, ⟨rfl, ⟨rfl, ⟨rfl, trivial⟩⟩⟩⟩
        · refine r_iconst (pc := 1307) (v := 0) d_Law_law_1307 (by rfl) ?_
          exact r_lret0 d_Law_law_1308
      refine r_split (fun cq336 => ?_) (fun cq336 => ?_)
      · refine r_tableIn (pc := 33) (tgt := 1309) d_Law_law_33 (by rw [cq336]; decide) (by rw [cq336]; decide) (by rw [cq336] <;> rfl) (by rfl) ?_
        refine r_aload_n (pc := 1309) (i := 1) d_Law_law_1309 rfl rfl ?_
        refine r_aloadF_n (pc := 1310) (i := 0) (cv_1 G) d_Law_law_1310 rfl rfl ?_
        refine r_iload_n (pc := 1311) (i := 3) d_Law_law_1311 rfl rfl ?_
        refine r_iconst (pc := 1312) (v := 1) d_Law_law_1312 (by rfl) ?_
        refine r_iadd (pc := 1313) d_Law_law_1313 ?_
        refine r_gx (fun zq337 => ?_)
        refine r_sld (pc := 1314) hL hxs zq337 d_Law_law_1314 ?_
        refine r_aloadF_n (pc := 1315) (i := 0) (cv_1 G) d_Law_law_1315 rfl rfl ?_
        refine r_iload_n (pc := 1316) (i := 3) d_Law_law_1316 rfl rfl ?_
        refine r_iconst (pc := 1317) (v := 2) d_Law_law_1317 (by rfl) ?_
        refine r_iadd (pc := 1318) d_Law_law_1318 ?_
        refine r_gx (fun zq338 => ?_)
        refine r_sld (pc := 1319) hL hxs zq338 d_Law_law_1319 ?_
        refine r_aloadF_n (pc := 1320) (i := 0) (cv_1 G) d_Law_law_1320 rfl rfl ?_
        refine r_iload_n (pc := 1321) (i := 3) d_Law_law_1321 rfl rfl ?_
        refine r_iconst (pc := 1322) (v := 3) d_Law_law_1322 (by rfl) ?_
        refine r_iadd (pc := 1323) d_Law_law_1323 ?_
        refine r_gx (fun zq339 => ?_)
        refine r_sld (pc := 1324) hL hxs zq339 d_Law_law_1324 ?_
        refine r_cVi (pc := 1325) (T := F_11) (N := 13) (st := []) (ok_H_ask hn (xs (ix (x3 + (1 : Int32)))) (xs (ix (x3 + (2 : Int32)))) (xs (ix (x3 + (3 : Int32)))) h) (fun s => Std.k s (lc hn rfl) kq_0) rfl w_1053 w_1 w_1050 w_1051 w_1052 hy_H_ask ⟨Nat.le_of_ble_eq_true rfl, Nat.le_of_ble_eq_true rfl⟩ ⟨Nat.le_of_ble_eq_true rfl, Nat.le_of_ble_eq_true rfl⟩ rfl (Nat.le_of_ble_eq_true rfl) d_Law_law_1325 (fun rq340 hq341 => ?_)
        refine r_aload_n (pc := 1328) (i := 2) d_Law_law_1328 rfl rfl ?_
        refine r_aloadF_n (pc := 1329) (i := 0) (cv_1 G) d_Law_law_1329 rfl rfl ?_
        refine r_iload_n (pc := 1330) (i := 3) d_Law_law_1330 rfl rfl ?_
        refine r_iconst (pc := 1331) (v := 1) d_Law_law_1331 (by rfl) ?_
        refine r_iadd (pc := 1332) d_Law_law_1332 ?_
        refine r_gx (fun zq342 => ?_)
        refine r_sld (pc := 1333) hL hxs zq342 d_Law_law_1333 ?_
        refine r_aloadF_n (pc := 1334) (i := 0) (cv_1 G) d_Law_law_1334 rfl rfl ?_
        refine r_iload_n (pc := 1335) (i := 3) d_Law_law_1335 rfl rfl ?_
        refine r_iconst (pc := 1336) (v := 2) d_Law_law_1336 (by rfl) ?_
        refine r_iadd (pc := 1337) d_Law_law_1337 ?_
        refine r_gx (fun zq343 => ?_)
        refine r_sld (pc := 1338) hL hxs zq343 d_Law_law_1338 ?_
        refine r_aloadF_n (pc := 1339) (i := 0) (cv_1 G) d_Law_law_1339 rfl rfl ?_
        refine r_iload_n (pc := 1340) (i := 3) d_Law_law_1340 rfl rfl ?_
        refine r_iconst (pc := 1341) (v := 3) d_Law_law_1341 (by rfl) ?_
        refine r_iadd (pc := 1342) d_Law_law_1342 ?_
        refine r_gx (fun zq344 => ?_)
        refine r_sld (pc := 1343) hL hxs zq344 d_Law_law_1343 ?_
        refine r_cVi (pc := 1344) (T := F_12) (N := 73) (st := [.int rq340]) (ok_M_ask hn (xs (ix (x3 + (1 : Int32)))) (xs (ix (x3 + (2 : Int32)))) (xs (ix (x3 + (3 : Int32)))) hq341) (fun s => Std.k s (lc hn rfl) kq_383) rfl w_1767 w_13 w_1764 w_1765 w_1766 hy_M_ask ⟨Nat.le_of_ble_eq_true rfl, Nat.le_of_ble_eq_true rfl⟩ ⟨Nat.le_of_ble_eq_true rfl, Nat.le_of_ble_eq_true rfl⟩ rfl (Nat.le_of_ble_eq_true rfl) d_Law_law_1344 (fun rq345 hq346 => ?_)
        refine r_icmp_eq (pc := 1347) (tgt := 1421) d_Law_law_1347 (by rfl) ?_ ?_
        · refine r_ltE (fun xq347 exq347 => ?_)
          refine r_iinc (pc := 1421) (v := xq347) (lv1 := [some (.float 1), some (.ref 0), some (.ref 383), some (.int xq347)]) d_Law_law_1421 rfl exq347.symm (Nat.le_of_ble_eq_true rfl) rfl ?_
          refine r_goto (pc := 1424) (tgt := 18) d_Law_law_1424 (by rfl) ?_
          exact r_wk (ih xq347 hq346) ⟨rfl, ⟨rfl, ⟨rfl, ⟨rfl, trivial⟩⟩⟩⟩
        · refine r_iconst (pc := 1350) (v := 0) d_Law_law_1350 (by rfl) ?_
          exact r_lret0 d_Law_law_1351
      refine r_split (fun cq348 => ?_) (fun cq348 => ?_)
      · refine r_tableIn (pc := 33) (tgt := 1352) d_Law_law_33 (by rw [cq348]; decide) (by rw [cq348]; decide) (by rw [cq348] <;> rfl) (by rfl) ?_
        refine r_aload_n (pc := 1352) (i := 1) d_Law_law_1352 rfl rfl ?_
        refine r_aloadF_n (pc := 1353) (i := 0) (cv_1 G) d_Law_law_1353 rfl rfl ?_
        refine r_iload_n (pc := 1354) (i := 3) d_Law_law_1354 rfl rfl ?_
        refine r_iconst (pc := 1355) (v := 1) d_Law_law_1355 (by rfl) ?_
        refine r_iadd (pc := 1356) d_Law_law_1356 ?_
        refine r_gx (fun zq349 => ?_)
        refine r_sld (pc := 1357) hL hxs zq349 d_Law_law_1357 ?_
        refine r_cVi (pc := 1358) (T := F_11) (N := 13) (st := []) (ok_H_image hn (xs (ix (x3 + (1 : Int32)))) h) (fun s => Std.k s (lc hn rfl) kq_0) rfl w_1062 w_1 w_1059 w_1060 w_1061 hy_H_image ⟨Nat.le_of_ble_eq_true rfl, Nat.le_of_ble_eq_true rfl⟩ ⟨Nat.le_of_ble_eq_true rfl, Nat.le_of_ble_eq_true rfl⟩ rfl (Nat.le_of_ble_eq_true rfl) d_Law_law_1358 (fun rq350 hq351 => ?_)
        refine r_aload_n (pc := 1361) (i := 2) d_Law_law_1361 rfl rfl ?_
        refine r_aloadF_n (pc := 1362) (i := 0) (cv_1 G) d_Law_law_1362 rfl rfl ?_
        refine r_iload_n (pc := 1363) (i := 3) d_Law_law_1363 rfl rfl ?_
        refine r_iconst (pc := 1364) (v := 1) d_Law_law_1364 (by rfl) ?_
        refine r_iadd (pc := 1365) d_Law_law_1365 ?_
        refine r_gx (fun zq352 => ?_)
        refine r_sld (pc := 1366) hL hxs zq352 d_Law_law_1366 ?_
        refine r_cVi (pc := 1367) (T := F_12) (N := 73) (st := [.int rq350]) (ok_M_image hn (xs (ix (x3 + (1 : Int32)))) hq351) (fun s => Std.k s (lc hn rfl) kq_383) rfl w_1775 w_13 w_1772 w_1773 w_1774 hy_M_image ⟨Nat.le_of_ble_eq_true rfl, Nat.le_of_ble_eq_true rfl⟩ ⟨Nat.le_of_ble_eq_true rfl, Nat.le_of_ble_eq_true rfl⟩ rfl (Nat.le_of_ble_eq_true rfl) d_Law_law_1367 (fun rq353 hq354 => ?_)
        refine r_icmp_eq (pc := 1370) (tgt := 1421) d_Law_law_1370 (by rfl) ?_ ?_
        · refine r_ltE (fun xq355 exq355 => ?_)
          refine r_iinc (pc := 1421) (v := xq355) (lv1 := [some (.float 1), some (.ref 0), some (.ref 383), some (.int xq355)]) d_Law_law_1421 rfl exq355.symm (Nat.le_of_ble_eq_true rfl) rfl ?_
          refine r_goto (pc := 1424) (tgt := 18) d_Law_law_1424 (by rfl) ?_
          exact r_wk (ih xq355 hq354) ⟨rfl, ⟨rfl, ⟨rfl, ⟨rfl, trivial⟩⟩⟩⟩
        · refine r_iconst (pc := 1373) (v := 0) d_Law_law_1373 (by rfl) ?_
          exact r_lret0 d_Law_law_1374
      refine r_split (fun cq356 => ?_) (fun cq356 => ?_)
      · refine r_tableIn (pc := 33) (tgt := 1375) d_Law_law_33 (by rw [cq356]; decide) (by rw [cq356]; decide) (by rw [cq356] <;> rfl) (by rfl) ?_
        refine r_aload_n (pc := 1375) (i := 1) d_Law_law_1375 rfl rfl ?_
        refine r_aloadF_n (pc := 1376) (i := 0) (cv_1 G) d_Law_law_1376 rfl rfl ?_
        refine r_iload_n (pc := 1377) (i := 3) d_Law_law_1377 rfl rfl ?_
        refine r_iconst (pc := 1378) (v := 1) d_Law_law_1378 (by rfl) ?_
        refine r_iadd (pc := 1379) d_Law_law_1379 ?_
        refine r_gx (fun zq357 => ?_)
        refine r_sld (pc := 1380) hL hxs zq357 d_Law_law_1380 ?_
        refine r_cVi (pc := 1381) (T := F_11) (N := 13) (st := []) (ok_H_back hn (xs (ix (x3 + (1 : Int32)))) h) (fun s => Std.k s (lc hn rfl) kq_0) rfl w_1071 w_1 w_1068 w_1069 w_1070 hy_H_back ⟨Nat.le_of_ble_eq_true rfl, Nat.le_of_ble_eq_true rfl⟩ ⟨Nat.le_of_ble_eq_true rfl, Nat.le_of_ble_eq_true rfl⟩ rfl (Nat.le_of_ble_eq_true rfl) d_Law_law_1381 (fun rq358 hq359 => ?_)
        refine r_aload_n (pc := 1384) (i := 2) d_Law_law_1384 rfl rfl ?_
        refine r_aloadF_n (pc := 1385) (i := 0) (cv_1 G) d_Law_law_1385 rfl rfl ?_
        refine r_iload_n (pc := 1386) (i := 3) d_Law_law_1386 rfl rfl ?_
        refine r_iconst (pc := 1387) (v := 1) d_Law_law_1387 (by rfl) ?_
        refine r_iadd (pc := 1388) d_Law_law_1388 ?_
        refine r_gx (fun zq360 => ?_)
        refine r_sld (pc := 1389) hL hxs zq360 d_Law_law_1389 ?_
        refine r_cVi (pc := 1390) (T := F_12) (N := 73) (st := [.int rq358]) (ok_M_back hn (xs (ix (x3 + (1 : Int32)))) hq359) (fun s => Std.k s (lc hn rfl) kq_383) rfl w_1782 w_13 w_1779 w_1780 w_1781 hy_M_back ⟨Nat.le_of_ble_eq_true rfl, Nat.le_of_ble_eq_true rfl⟩ ⟨Nat.le_of_ble_eq_true rfl, Nat.le_of_ble_eq_true rfl⟩ rfl (Nat.le_of_ble_eq_true rfl) d_Law_law_1390 (fun rq361 hq362 => ?_)
        refine r_icmp_eq (pc := 1393) (tgt := 1421) d_Law_law_1393 (by rfl) ?_ ?_
        · refine r_ltE (fun xq363 exq363 => ?_)
          refine r_iinc (pc := 1421) (v := xq363) (lv1 := [some (.float 1), some (.ref 0), some (.ref 383), some (.int xq363)]) d_Law_law_1421 rfl exq363.symm (Nat.le_of_ble_eq_true rfl) rfl ?_
          refine r_goto (pc := 1424) (tgt := 18) d_Law_law_1424 (by rfl) ?_
          exact r_wk (ih xq363 hq362) ⟨rfl, ⟨rfl, ⟨rfl, ⟨rfl, trivial⟩⟩⟩⟩
        · refine r_iconst (pc := 1396) (v := 0) d_Law_law_1396 (by rfl) ?_
          exact r_lret0 d_Law_law_1397
      refine r_split (fun cq364 => ?_) (fun cq364 => ?_)
      · refine r_tableIn (pc := 33) (tgt := 1398) d_Law_law_33 (by rw [cq364]; decide) (by rw [cq364]; decide) (by rw [cq364] <;> rfl) (by rfl) ?_
        refine r_aload_n (pc := 1398) (i := 1) d_Law_law_1398 rfl rfl ?_
        refine r_aloadF_n (pc := 1399) (i := 0) (cv_1 G) d_Law_law_1399 rfl rfl ?_
        refine r_iload_n (pc := 1400) (i := 3) d_Law_law_1400 rfl rfl ?_
        refine r_iconst (pc := 1401) (v := 1) d_Law_law_1401 (by rfl) ?_
        refine r_iadd (pc := 1402) d_Law_law_1402 ?_
        refine r_gx (fun zq365 => ?_)
        refine r_sld (pc := 1403) hL hxs zq365 d_Law_law_1403 ?_
        refine r_cVi (pc := 1404) (T := F_11) (N := 13) (st := []) (ok_H_about hn (xs (ix (x3 + (1 : Int32)))) h) (fun s => Std.k s (lc hn rfl) kq_0) rfl w_1079 w_1 w_1076 w_1077 w_1078 hy_H_about ⟨Nat.le_of_ble_eq_true rfl, Nat.le_of_ble_eq_true rfl⟩ ⟨Nat.le_of_ble_eq_true rfl, Nat.le_of_ble_eq_true rfl⟩ rfl (Nat.le_of_ble_eq_true rfl) d_Law_law_1404 (fun rq366 hq367 => ?_)
        refine r_aload_n (pc := 1407) (i := 2) d_Law_law_1407 rfl rfl ?_
        refine r_aloadF_n (pc := 1408) (i := 0) (cv_1 G) d_Law_law_1408 rfl rfl ?_
        refine r_iload_n (pc := 1409) (i := 3) d_Law_law_1409 rfl rfl ?_
        refine r_iconst (pc := 1410) (v := 1) d_Law_law_1410 (by rfl) ?_
        refine r_iadd (pc := 1411) d_Law_law_1411 ?_
        refine r_gx (fun zq368 => ?_)
        refine r_sld (pc := 1412) hL hxs zq368 d_Law_law_1412 ?_
        refine r_cVi (pc := 1413) (T := F_12) (N := 73) (st := [.int rq366]) (ok_M_about hn (xs (ix (x3 + (1 : Int32)))) hq367) (fun s => Std.k s (lc hn rfl) kq_383) rfl w_1786 w_13 w_1783 w_1784 w_1785 hy_M_about ⟨Nat.le_of_ble_eq_true rfl, Nat.le_of_ble_eq_true rfl⟩ ⟨Nat.le_of_ble_eq_true rfl, Nat.le_of_ble_eq_true rfl⟩ rfl (Nat.le_of_ble_eq_true rfl) d_Law_law_1413 (fun rq369 hq370 => ?_)
        refine r_icmp_eq (pc := 1416) (tgt := 1421) d_Law_law_1416 (by rfl) ?_ ?_
        · refine r_ltE (fun xq371 exq371 => ?_)
          refine r_iinc (pc := 1421) (v := xq371) (lv1 := [some (.float 1), some (.ref 0), some (.ref 383), some (.int xq371)]) d_Law_law_1421 rfl exq371.symm (Nat.le_of_ble_eq_true rfl) rfl ?_
          refine r_goto (pc := 1424) (tgt := 18) d_Law_law_1424 (by rfl) ?_
          exact r_wk (ih xq371 hq370) ⟨rfl, ⟨rfl, ⟨rfl, ⟨rfl, trivial⟩⟩⟩⟩
        · refine r_iconst (pc := 1419) (v := 0) d_Law_law_1419 (by rfl) ?_
          exact r_lret0 d_Law_law_1420
      refine r_tableD (pc := 33) (tgt := 1421) d_Law_law_33 [0, 1, 2, 3, 4, 5, 6, 7, 8, 9, 10, 11, 12, 13, 14, 15, 16, 17, 18, 19, 20, 21, 22, 23, 24, 25, 26, 27, 28, 29, 30, 31, 32, 33, 34, 35, 36, 37, 38, 39, 40] (List.forall_mem_cons.mpr ⟨lv_neT cq2 (show ((0 : Int32)).toInt = 0 from rfl), List.forall_mem_cons.mpr ⟨lv_neT cq18 (show ((1 : Int32)).toInt = 1 from rfl), List.forall_mem_cons.mpr ⟨lv_neT cq26 (show ((2 : Int32)).toInt = 2 from rfl), List.forall_mem_cons.mpr ⟨lv_neT cq32 (show ((3 : Int32)).toInt = 3 from rfl), List.forall_mem_cons.mpr ⟨lv_neT cq40 (show ((4 : Int32)).toInt = 4 from rfl), List.forall_mem_cons.mpr ⟨lv_neT cq50 (show ((5 : Int32)).toInt = 5 from rfl), List.forall_mem_cons.mpr ⟨lv_neT cq56 (show ((6 : Int32)).toInt = 6 from rfl), List.forall_mem_cons.mpr ⟨lv_neT cq66 (show ((7 : Int32)).toInt = 7 from rfl), List.forall_mem_cons.mpr ⟨lv_neT cq74 (show ((8 : Int32)).toInt = 8 from rfl), List.forall_mem_cons.mpr ⟨lv_neT cq80 (show ((9 : Int32)).toInt = 9 from rfl), List.forall_mem_cons.mpr ⟨lv_neT cq88 (show ((10 : Int32)).toInt = 10 from rfl), List.forall_mem_cons.mpr ⟨lv_neT cq100 (show ((11 : Int32)).toInt = 11 from rfl), List.forall_mem_cons.mpr ⟨lv_neT cq110 (show ((12 : Int32)).toInt = 12 from rfl), List.forall_mem_cons.mpr ⟨lv_neT cq118 (show ((13 : Int32)).toInt = 13 from rfl), List.forall_mem_cons.mpr ⟨lv_neT cq124 (show ((14 : Int32)).toInt = 14 from rfl), List.forall_mem_cons.mpr ⟨lv_neT cq130 (show ((15 : Int32)).toInt = 15 from rfl), List.forall_mem_cons.mpr ⟨lv_neT cq136 (show ((16 : Int32)).toInt = 16 from rfl), List.forall_mem_cons.mpr ⟨lv_neT cq148 (show ((17 : Int32)).toInt = 17 from rfl), List.forall_mem_cons.mpr ⟨lv_neT cq160 (show ((18 : Int32)).toInt = 18 from rfl), List.forall_mem_cons.mpr ⟨lv_neT cq172 (show ((19 : Int32)).toInt = 19 from rfl), List.forall_mem_cons.mpr ⟨lv_neT cq186 (show ((20 : Int32)).toInt = 20 from rfl), List.forall_mem_cons.mpr ⟨lv_neT cq194 (show ((21 : Int32)).toInt = 21 from rfl), List.forall_mem_cons.mpr ⟨lv_neT cq202 (show ((22 : Int32)).toInt = 22 from rfl), List.forall_mem_cons.mpr ⟨lv_neT cq210 (show ((23 : Int32)).toInt = 23 from rfl), List.forall_mem_cons.mpr ⟨lv_neT cq218 (show ((24 : Int32)).toInt = 24 from rfl), List.forall_mem_cons.mpr ⟨lv_neT cq226 (show ((25 : Int32)).toInt = 25 from rfl), List.forall_mem_cons.mpr ⟨lv_neT cq240 (show ((26 : Int32)).toInt = 26 from rfl), List.forall_mem_cons.mpr ⟨lv_neT cq252 (show ((27 : Int32)).toInt = 27 from rfl), List.forall_mem_cons.mpr ⟨lv_neT cq268 (show ((28 : Int32)).toInt = 28 from rfl), List.forall_mem_cons.mpr ⟨lv_neT cq276 (show ((29 : Int32)).toInt = 29 from rfl), List.forall_mem_cons.mpr ⟨lv_neT cq284 (show ((30 : Int32)).toInt = 30 from rfl), List.forall_mem_cons.mpr ⟨lv_neT cq292 (show ((31 : Int32)).toInt = 31 from rfl), List.forall_mem_cons.mpr ⟨lv_neT cq300 (show ((32 : Int32)).toInt = 32 from rfl), List.forall_mem_cons.mpr ⟨lv_neT cq304 (show ((33 : Int32)).toInt = 33 from rfl), List.forall_mem_cons.mpr ⟨lv_neT cq312 (show ((34 : Int32)).toInt = 34 from rfl), List.forall_mem_cons.mpr ⟨lv_neT cq320 (show ((35 : Int32)).toInt = 35 from rfl), List.forall_mem_cons.mpr ⟨lv_neT cq328 (show ((36 : Int32)).toInt = 36 from rfl), List.forall_mem_cons.mpr ⟨lv_neT cq336 (show ((37 : Int32)).toInt = 37 from rfl), List.forall_mem_cons.mpr ⟨lv_neT cq348 (show ((38 : Int32)).toInt = 38 from rfl), List.forall_mem_cons.mpr ⟨lv_neT cq356 (show ((39 : Int32)).toInt = 39 from rfl), List.forall_mem_cons.mpr ⟨lv_neT cq364 (show ((40 : Int32)).toInt = 40 from rfl), List.forall_mem_nil _⟩⟩⟩⟩⟩⟩⟩⟩⟩⟩⟩⟩⟩⟩⟩⟩⟩⟩⟩⟩⟩⟩⟩⟩⟩⟩⟩⟩⟩⟩⟩⟩⟩⟩⟩⟩⟩⟩⟩⟩⟩) (by decide) (by rfl) ?_
      refine r_ltE (fun xq372 exq372 => ?_)
      refine r_iinc (pc := 1421) (v := xq372) (lv1 := [some (.float 1), some (.ref 0), some (.ref 383), some (.int xq372)]) d_Law_law_1421 rfl exq372.symm (Nat.le_of_ble_eq_true rfl) rfl ?_
      refine r_goto (pc := 1424) (tgt := 18) d_Law_law_1424 (by rfl) ?_
      exact r_wk (ih xq372 h) ⟨rfl, ⟨rfl, ⟨rfl, ⟨rfl, trivial⟩⟩⟩⟩

/-- the heap of the law's start: nothing of its own -/
def hE : AH := ((0, fun _ => .inl (9, 0)), fun _ _ => 0, fun _ _ => 0, fun _ _ => none)
def f_Law (L : Nat) (xs : Nat → Int32) : Option (Int32 × AH) :=
  lt (nC hE (.inr 11)) fun h1 =>
  bV (f_H_init 0 h1) fun h2 =>
  ge (hN h2) 383 <|
  lt (nC h2 (.inr 12)) fun h3 =>
  bV (f_M_init 383 h3) fun h4 =>
  gp (stdB NN h4) <|
  f_Law_law_l18 L xs FU 0 h4
set_option maxHeartbeats 2000000 in
theorem ok_Law {G : AE} {L : Nat} {xs : Nat → Int32} (hL : (eX G).2.1 = L) (hxs : (eX G).2.2 = xs) : AR G ST y_Law_law room_1 (zLaw G) φI (0, 0) 0 [some (.float 1), none, none, none] [] hE (f_Law L xs) := by
  rw [f_Law]
  refine r_new (pc := 0) (ci := 11) (N := 13) (kn1 := (1, 13)) rfl w_22 w_23 w_1 rfl ⟨Nat.le_of_ble_eq_true rfl, Nat.le_of_ble_eq_true rfl⟩ (fun _ => trivial) d_Law_law_0 ?_
  refine r_ltH (fun h1 => ?_)
  refine r_dup (pc := 3) d_Law_law_3 rfl ?_
  refine r_kI (pc := 4) (kn1 := (383, 11676)) (st := [.ref 0]) (ok_H_init 0 h1) w_26 w_1 w_24 w_25 rfl rfl hy_H_init ⟨Nat.le_of_ble_eq_true rfl, Nat.le_of_ble_eq_true rfl⟩ ⟨Nat.le_of_ble_eq_true rfl, Nat.le_of_ble_eq_true rfl⟩ rfl rfl (Nat.le_of_ble_eq_true rfl) d_Law_law_4 (fun h2 => ?_)
  refine r_ge (fun e2 => ?_)
  refine r_astore_n (pc := 7) (i := 1) (lv1 := [some (.float 1), some (.ref 0), none, none]) d_Law_law_7 rfl (Nat.le_of_ble_eq_true rfl) rfl ?_
  refine r_new (pc := 8) (ci := 12) (N := 73) (kn1 := (384, 11749)) rfl w_1080 w_1081 w_13 rfl ⟨Nat.le_of_ble_eq_true rfl, Nat.le_of_ble_eq_true rfl⟩ (fun _ => trivial) d_Law_law_8 ?_
  rw [e2]
  refine r_ltH (fun h3 => ?_)
  refine r_dup (pc := 11) d_Law_law_11 rfl ?_
  refine r_kI (pc := 12) (kn1 := (421, 19096)) (st := [.ref 383]) (ok_M_init 383 h3) w_1084 w_13 w_1082 w_1083 rfl rfl hy_M_init ⟨Nat.le_of_ble_eq_true rfl, Nat.le_of_ble_eq_true rfl⟩ ⟨Nat.le_of_ble_eq_true rfl, Nat.le_of_ble_eq_true rfl⟩ rfl rfl (Nat.le_of_ble_eq_true rfl) d_Law_law_12 (fun h4 => ?_)
  refine r_gp (fun g4 => ?_)
  refine r_astore_n (pc := 15) (i := 2) (lv1 := [some (.float 1), some (.ref 0), some (.ref 383), none]) d_Law_law_15 rfl (Nat.le_of_ble_eq_true rfl) rfl ?_
  refine r_iconst (pc := 16) (v := 0) d_Law_law_16 (by rfl) ?_
  refine r_istore_n (pc := 17) (i := 3) (lv1 := [some (.float 1), some (.ref 0), some (.ref 383), some (.int 0)]) d_Law_law_17 rfl (Nat.le_of_ble_eq_true rfl) rfl ?_
  exact r_S (fun _ => stdB_ok g4) (o_Law_law_l18 (Nat.le_refl NN) hL hxs FU 0 h4)
