section
-- ===== PART A: goes FIRST, ahead of the names: the tables' words, and 'selects' of the private methods out of them =====
/-- a private method of a class that the tables say can be made, by its rows of tables_1 -/
def lw_okq (q : MethodName × Nat) : Prop := (q.1.cls ≠ "java/lang/invoke/MethodHandle" ∧ q.1.cls ≠ "java/lang/invoke/VarHandle") ∧ Cond.instantiable q.1.cls q.2 ∈ tables_1 ∧ Cond.privateMethod q.1 ∈ tables_1 ∧ Cond.instanceMethod q.1 ∈ tables_1
theorem lw_p0 : lw_okq (⟨"HostageRound$Round", "passEquinox", "()V"⟩, 15) := ⟨⟨by decide +kernel, by decide +kernel⟩, List.mem_of_getElem? (i := 20) (by decide +kernel), List.mem_of_getElem? (i := 312) (by decide +kernel), List.mem_of_getElem? (i := 313) (by decide +kernel)⟩
theorem lw_p1 : lw_okq (⟨"HostageRound", "yearsCanBe", "()Z"⟩, 9) := ⟨⟨by decide +kernel, by decide +kernel⟩, List.mem_of_getElem? (i := 12) (by decide +kernel), List.mem_of_getElem? (i := 351) (by decide +kernel), List.mem_of_getElem? (i := 352) (by decide +kernel)⟩
theorem lw_p2 : lw_okq (⟨"HostageRound$Deal", "takeBack", "(IZ)V"⟩, 7) := ⟨⟨by decide +kernel, by decide +kernel⟩, List.mem_of_getElem? (i := 141) (by decide +kernel), List.mem_of_getElem? (i := 495) (by decide +kernel), List.mem_of_getElem? (i := 496) (by decide +kernel)⟩
theorem lw_p3 : lw_okq (⟨"HostageRound$Deal", "countWant", "(II)V"⟩, 7) := ⟨⟨by decide +kernel, by decide +kernel⟩, List.mem_of_getElem? (i := 141) (by decide +kernel), List.mem_of_getElem? (i := 499) (by decide +kernel), List.mem_of_getElem? (i := 500) (by decide +kernel)⟩
theorem lw_p4 : lw_okq (⟨"HostageRound$Deal", "countBearer", "(ZI)V"⟩, 7) := ⟨⟨by decide +kernel, by decide +kernel⟩, List.mem_of_getElem? (i := 141) (by decide +kernel), List.mem_of_getElem? (i := 503) (by decide +kernel), List.mem_of_getElem? (i := 504) (by decide +kernel)⟩
theorem lw_p5 : lw_okq (⟨"HostageRound$Deal", "heed", "(IZ)V"⟩, 7) := ⟨⟨by decide +kernel, by decide +kernel⟩, List.mem_of_getElem? (i := 141) (by decide +kernel), List.mem_of_getElem? (i := 507) (by decide +kernel), List.mem_of_getElem? (i := 508) (by decide +kernel)⟩
theorem lw_p6 : lw_okq (⟨"HostageRound$Deal", "isOpen", "(I)Z"⟩, 7) := ⟨⟨by decide +kernel, by decide +kernel⟩, List.mem_of_getElem? (i := 141) (by decide +kernel), List.mem_of_getElem? (i := 511) (by decide +kernel), List.mem_of_getElem? (i := 512) (by decide +kernel)⟩
theorem lw_p7 : lw_okq (⟨"HostageRound$Deal", "waysIf", "(II)I"⟩, 7) := ⟨⟨by decide +kernel, by decide +kernel⟩, List.mem_of_getElem? (i := 141) (by decide +kernel), List.mem_of_getElem? (i := 520) (by decide +kernel), List.mem_of_getElem? (i := 521) (by decide +kernel)⟩
theorem lw_p8 : lw_okq (⟨"HostageRound$Deal", "waysWith", "(IZ)I"⟩, 7) := ⟨⟨by decide +kernel, by decide +kernel⟩, List.mem_of_getElem? (i := 141) (by decide +kernel), List.mem_of_getElem? (i := 531) (by decide +kernel), List.mem_of_getElem? (i := 532) (by decide +kernel)⟩
theorem lw_p9 : lw_okq (⟨"HostageRound$Deal", "suits", "(IZ)Z"⟩, 7) := ⟨⟨by decide +kernel, by decide +kernel⟩, List.mem_of_getElem? (i := 141) (by decide +kernel), List.mem_of_getElem? (i := 535) (by decide +kernel), List.mem_of_getElem? (i := 536) (by decide +kernel)⟩
theorem lw_p10 : lw_okq (⟨"HostageRound$Deal", "give", "(IZ)V"⟩, 7) := ⟨⟨by decide +kernel, by decide +kernel⟩, List.mem_of_getElem? (i := 141) (by decide +kernel), List.mem_of_getElem? (i := 539) (by decide +kernel), List.mem_of_getElem? (i := 540) (by decide +kernel)⟩
theorem lw_p11 : lw_okq (⟨"HostageRound$Weddings", "bestOf", "(I)I"⟩, 2) := ⟨⟨by decide +kernel, by decide +kernel⟩, List.mem_of_getElem? (i := 171) (by decide +kernel), List.mem_of_getElem? (i := 593) (by decide +kernel), List.mem_of_getElem? (i := 594) (by decide +kernel)⟩
theorem lw_p12 : lw_okq (⟨"HostageRound", "drawYear", "(II)V"⟩, 9) := ⟨⟨by decide +kernel, by decide +kernel⟩, List.mem_of_getElem? (i := 12) (by decide +kernel), List.mem_of_getElem? (i := 627) (by decide +kernel), List.mem_of_getElem? (i := 628) (by decide +kernel)⟩
theorem lw_p13 : lw_okq (⟨"HostageRound", "drawAct", "(I)V"⟩, 9) := ⟨⟨by decide +kernel, by decide +kernel⟩, List.mem_of_getElem? (i := 12) (by decide +kernel), List.mem_of_getElem? (i := 632) (by decide +kernel), List.mem_of_getElem? (i := 633) (by decide +kernel)⟩
theorem lw_p14 : lw_okq (⟨"HostageRound", "imageAt", "(I)LHostageRound$Round;"⟩, 9) := ⟨⟨by decide +kernel, by decide +kernel⟩, List.mem_of_getElem? (i := 12) (by decide +kernel), List.mem_of_getElem? (i := 653) (by decide +kernel), List.mem_of_getElem? (i := 654) (by decide +kernel)⟩
theorem lw_p15 : lw_okq (⟨"HostageRound", "toldOfOne", "(I)I"⟩, 9) := ⟨⟨by decide +kernel, by decide +kernel⟩, List.mem_of_getElem? (i := 12) (by decide +kernel), List.mem_of_getElem? (i := 665) (by decide +kernel), List.mem_of_getElem? (i := 666) (by decide +kernel)⟩
def lw_privs_1 : List (MethodName × Nat) := [(⟨"HostageRound$Round", "passEquinox", "()V"⟩, 15), (⟨"HostageRound", "yearsCanBe", "()Z"⟩, 9), (⟨"HostageRound$Deal", "takeBack", "(IZ)V"⟩, 7), (⟨"HostageRound$Deal", "countWant", "(II)V"⟩, 7), (⟨"HostageRound$Deal", "countBearer", "(ZI)V"⟩, 7), (⟨"HostageRound$Deal", "heed", "(IZ)V"⟩, 7), (⟨"HostageRound$Deal", "isOpen", "(I)Z"⟩, 7), (⟨"HostageRound$Deal", "waysIf", "(II)I"⟩, 7), (⟨"HostageRound$Deal", "waysWith", "(IZ)I"⟩, 7), (⟨"HostageRound$Deal", "suits", "(IZ)Z"⟩, 7), (⟨"HostageRound$Deal", "give", "(IZ)V"⟩, 7), (⟨"HostageRound$Weddings", "bestOf", "(I)I"⟩, 2), (⟨"HostageRound", "drawYear", "(II)V"⟩, 9), (⟨"HostageRound", "drawAct", "(I)V"⟩, 9), (⟨"HostageRound", "imageAt", "(I)LHostageRound$Round;"⟩, 9), (⟨"HostageRound", "toldOfOne", "(I)I"⟩, 9)]
theorem lw_r1 : ∀ q ∈ lw_privs_1, lw_okq q := List.forall_mem_cons.mpr ⟨lw_p0, List.forall_mem_cons.mpr ⟨lw_p1, List.forall_mem_cons.mpr ⟨lw_p2, List.forall_mem_cons.mpr ⟨lw_p3, List.forall_mem_cons.mpr ⟨lw_p4, List.forall_mem_cons.mpr ⟨lw_p5, List.forall_mem_cons.mpr ⟨lw_p6, List.forall_mem_cons.mpr ⟨lw_p7, List.forall_mem_cons.mpr ⟨lw_p8, List.forall_mem_cons.mpr ⟨lw_p9, List.forall_mem_cons.mpr ⟨lw_p10, List.forall_mem_cons.mpr ⟨lw_p11, List.forall_mem_cons.mpr ⟨lw_p12, List.forall_mem_cons.mpr ⟨lw_p13, List.forall_mem_cons.mpr ⟨lw_p14, List.forall_mem_cons.mpr ⟨lw_p15, fun _ h => absurd h List.not_mem_nil⟩⟩⟩⟩⟩⟩⟩⟩⟩⟩⟩⟩⟩⟩⟩⟩
theorem lw_p16 : lw_okq (⟨"HostageRoundModel", "clear", "()V"⟩, 27) := ⟨⟨by decide +kernel, by decide +kernel⟩, List.mem_of_getElem? (i := 669) (by decide +kernel), List.mem_of_getElem? (i := 675) (by decide +kernel), List.mem_of_getElem? (i := 676) (by decide +kernel)⟩
theorem lw_p17 : lw_okq (⟨"HostageRoundModel", "isOne", "(I)Z"⟩, 27) := ⟨⟨by decide +kernel, by decide +kernel⟩, List.mem_of_getElem? (i := 669) (by decide +kernel), List.mem_of_getElem? (i := 777) (by decide +kernel), List.mem_of_getElem? (i := 778) (by decide +kernel)⟩
theorem lw_p18 : lw_okq (⟨"HostageRoundModel", "faultOf", "()I"⟩, 27) := ⟨⟨by decide +kernel, by decide +kernel⟩, List.mem_of_getElem? (i := 669) (by decide +kernel), List.mem_of_getElem? (i := 793) (by decide +kernel), List.mem_of_getElem? (i := 794) (by decide +kernel)⟩
theorem lw_p19 : lw_okq (⟨"HostageRoundModel", "isChild", "(I)Z"⟩, 27) := ⟨⟨by decide +kernel, by decide +kernel⟩, List.mem_of_getElem? (i := 669) (by decide +kernel), List.mem_of_getElem? (i := 797) (by decide +kernel), List.mem_of_getElem? (i := 798) (by decide +kernel)⟩
theorem lw_p20 : lw_okq (⟨"HostageRoundModel", "goYears", "()I"⟩, 27) := ⟨⟨by decide +kernel, by decide +kernel⟩, List.mem_of_getElem? (i := 669) (by decide +kernel), List.mem_of_getElem? (i := 805) (by decide +kernel), List.mem_of_getElem? (i := 806) (by decide +kernel)⟩
theorem lw_p21 : lw_okq (⟨"HostageRoundModel", "asNow", "()V"⟩, 27) := ⟨⟨by decide +kernel, by decide +kernel⟩, List.mem_of_getElem? (i := 669) (by decide +kernel), List.mem_of_getElem? (i := 809) (by decide +kernel), List.mem_of_getElem? (i := 810) (by decide +kernel)⟩
theorem lw_p22 : lw_okq (⟨"HostageRoundModel", "days", "(I)V"⟩, 27) := ⟨⟨by decide +kernel, by decide +kernel⟩, List.mem_of_getElem? (i := 669) (by decide +kernel), List.mem_of_getElem? (i := 813) (by decide +kernel), List.mem_of_getElem? (i := 814) (by decide +kernel)⟩
theorem lw_p23 : lw_okq (⟨"HostageRoundModel", "equinox", "()V"⟩, 27) := ⟨⟨by decide +kernel, by decide +kernel⟩, List.mem_of_getElem? (i := 669) (by decide +kernel), List.mem_of_getElem? (i := 817) (by decide +kernel), List.mem_of_getElem? (i := 818) (by decide +kernel)⟩
theorem lw_p24 : lw_okq (⟨"HostageRoundModel", "whyNoHats", "(II)I"⟩, 27) := ⟨⟨by decide +kernel, by decide +kernel⟩, List.mem_of_getElem? (i := 669) (by decide +kernel), List.mem_of_getElem? (i := 821) (by decide +kernel), List.mem_of_getElem? (i := 822) (by decide +kernel)⟩
theorem lw_p25 : lw_okq (⟨"HostageRoundModel", "hats", "(II)V"⟩, 27) := ⟨⟨by decide +kernel, by decide +kernel⟩, List.mem_of_getElem? (i := 669) (by decide +kernel), List.mem_of_getElem? (i := 825) (by decide +kernel), List.mem_of_getElem? (i := 826) (by decide +kernel)⟩
theorem lw_p26 : lw_okq (⟨"HostageRoundModel", "whyNot", "(II)I"⟩, 27) := ⟨⟨by decide +kernel, by decide +kernel⟩, List.mem_of_getElem? (i := 669) (by decide +kernel), List.mem_of_getElem? (i := 829) (by decide +kernel), List.mem_of_getElem? (i := 830) (by decide +kernel)⟩
theorem lw_p27 : lw_okq (⟨"HostageRoundModel", "barOfYears", "()I"⟩, 27) := ⟨⟨by decide +kernel, by decide +kernel⟩, List.mem_of_getElem? (i := 669) (by decide +kernel), List.mem_of_getElem? (i := 837) (by decide +kernel), List.mem_of_getElem? (i := 838) (by decide +kernel)⟩
theorem lw_p28 : lw_okq (⟨"HostageRoundModel", "equinoxes", "(I)I"⟩, 27) := ⟨⟨by decide +kernel, by decide +kernel⟩, List.mem_of_getElem? (i := 669) (by decide +kernel), List.mem_of_getElem? (i := 857) (by decide +kernel), List.mem_of_getElem? (i := 858) (by decide +kernel)⟩
theorem lw_p29 : lw_okq (⟨"HostageRoundModel", "whereBehind", "(II)I"⟩, 27) := ⟨⟨by decide +kernel, by decide +kernel⟩, List.mem_of_getElem? (i := 669) (by decide +kernel), List.mem_of_getElem? (i := 861) (by decide +kernel), List.mem_of_getElem? (i := 862) (by decide +kernel)⟩
theorem lw_p30 : lw_okq (⟨"HostageRoundModel", "areTwo", "(II)Z"⟩, 27) := ⟨⟨by decide +kernel, by decide +kernel⟩, List.mem_of_getElem? (i := 669) (by decide +kernel), List.mem_of_getElem? (i := 873) (by decide +kernel), List.mem_of_getElem? (i := 874) (by decide +kernel)⟩
theorem lw_p31 : lw_okq (⟨"HostageRoundModel", "areIn", "(III)Z"⟩, 27) := ⟨⟨by decide +kernel, by decide +kernel⟩, List.mem_of_getElem? (i := 669) (by decide +kernel), List.mem_of_getElem? (i := 877) (by decide +kernel), List.mem_of_getElem? (i := 878) (by decide +kernel)⟩
def lw_privs_2 : List (MethodName × Nat) := [(⟨"HostageRoundModel", "clear", "()V"⟩, 27), (⟨"HostageRoundModel", "isOne", "(I)Z"⟩, 27), (⟨"HostageRoundModel", "faultOf", "()I"⟩, 27), (⟨"HostageRoundModel", "isChild", "(I)Z"⟩, 27), (⟨"HostageRoundModel", "goYears", "()I"⟩, 27), (⟨"HostageRoundModel", "asNow", "()V"⟩, 27), (⟨"HostageRoundModel", "days", "(I)V"⟩, 27), (⟨"HostageRoundModel", "equinox", "()V"⟩, 27), (⟨"HostageRoundModel", "whyNoHats", "(II)I"⟩, 27), (⟨"HostageRoundModel", "hats", "(II)V"⟩, 27), (⟨"HostageRoundModel", "whyNot", "(II)I"⟩, 27), (⟨"HostageRoundModel", "barOfYears", "()I"⟩, 27), (⟨"HostageRoundModel", "equinoxes", "(I)I"⟩, 27), (⟨"HostageRoundModel", "whereBehind", "(II)I"⟩, 27), (⟨"HostageRoundModel", "areTwo", "(II)Z"⟩, 27), (⟨"HostageRoundModel", "areIn", "(III)Z"⟩, 27)]
theorem lw_r2 : ∀ q ∈ lw_privs_2, lw_okq q := List.forall_mem_cons.mpr ⟨lw_p16, List.forall_mem_cons.mpr ⟨lw_p17, List.forall_mem_cons.mpr ⟨lw_p18, List.forall_mem_cons.mpr ⟨lw_p19, List.forall_mem_cons.mpr ⟨lw_p20, List.forall_mem_cons.mpr ⟨lw_p21, List.forall_mem_cons.mpr ⟨lw_p22, List.forall_mem_cons.mpr ⟨lw_p23, List.forall_mem_cons.mpr ⟨lw_p24, List.forall_mem_cons.mpr ⟨lw_p25, List.forall_mem_cons.mpr ⟨lw_p26, List.forall_mem_cons.mpr ⟨lw_p27, List.forall_mem_cons.mpr ⟨lw_p28, List.forall_mem_cons.mpr ⟨lw_p29, List.forall_mem_cons.mpr ⟨lw_p30, List.forall_mem_cons.mpr ⟨lw_p31, fun _ h => absurd h List.not_mem_nil⟩⟩⟩⟩⟩⟩⟩⟩⟩⟩⟩⟩⟩⟩⟩⟩
theorem lw_p32 : lw_okq (⟨"HostageRoundModel", "firstDay", "(I)I"⟩, 27) := ⟨⟨by decide +kernel, by decide +kernel⟩, List.mem_of_getElem? (i := 669) (by decide +kernel), List.mem_of_getElem? (i := 881) (by decide +kernel), List.mem_of_getElem? (i := 882) (by decide +kernel)⟩
theorem lw_p33 : lw_okq (⟨"HostageRoundModel", "isThere", "(IIII)Z"⟩, 27) := ⟨⟨by decide +kernel, by decide +kernel⟩, List.mem_of_getElem? (i := 669) (by decide +kernel), List.mem_of_getElem? (i := 893) (by decide +kernel), List.mem_of_getElem? (i := 894) (by decide +kernel)⟩
theorem lw_p34 : lw_okq (⟨"HostageRoundModel", "isWar", "(II)Z"⟩, 27) := ⟨⟨by decide +kernel, by decide +kernel⟩, List.mem_of_getElem? (i := 669) (by decide +kernel), List.mem_of_getElem? (i := 905) (by decide +kernel), List.mem_of_getElem? (i := 906) (by decide +kernel)⟩
theorem lw_p35 : lw_okq (⟨"HostageRoundModel", "codes", "()I"⟩, 27) := ⟨⟨by decide +kernel, by decide +kernel⟩, List.mem_of_getElem? (i := 669) (by decide +kernel), List.mem_of_getElem? (i := 942) (by decide +kernel), List.mem_of_getElem? (i := 943) (by decide +kernel)⟩
theorem lw_p36 : lw_okq (⟨"HostageRoundModel", "isRow", "(I)Z"⟩, 27) := ⟨⟨by decide +kernel, by decide +kernel⟩, List.mem_of_getElem? (i := 669) (by decide +kernel), List.mem_of_getElem? (i := 946) (by decide +kernel), List.mem_of_getElem? (i := 947) (by decide +kernel)⟩
theorem lw_p37 : lw_okq (⟨"HostageRoundModel", "deals", "(I)Z"⟩, 27) := ⟨⟨by decide +kernel, by decide +kernel⟩, List.mem_of_getElem? (i := 669) (by decide +kernel), List.mem_of_getElem? (i := 950) (by decide +kernel), List.mem_of_getElem? (i := 951) (by decide +kernel)⟩
theorem lw_p38 : lw_okq (⟨"HostageRoundModel", "living", "()I"⟩, 27) := ⟨⟨by decide +kernel, by decide +kernel⟩, List.mem_of_getElem? (i := 669) (by decide +kernel), List.mem_of_getElem? (i := 954) (by decide +kernel), List.mem_of_getElem? (i := 955) (by decide +kernel)⟩
theorem lw_p39 : lw_okq (⟨"HostageRoundModel", "coughOf", "(I)I"⟩, 27) := ⟨⟨by decide +kernel, by decide +kernel⟩, List.mem_of_getElem? (i := 669) (by decide +kernel), List.mem_of_getElem? (i := 961) (by decide +kernel), List.mem_of_getElem? (i := 962) (by decide +kernel)⟩
theorem lw_p40 : lw_okq (⟨"HostageRoundModel", "doMeet", "(III)Z"⟩, 27) := ⟨⟨by decide +kernel, by decide +kernel⟩, List.mem_of_getElem? (i := 669) (by decide +kernel), List.mem_of_getElem? (i := 983) (by decide +kernel), List.mem_of_getElem? (i := 984) (by decide +kernel)⟩
theorem lw_p41 : lw_okq (⟨"HostageRoundModel", "alive", "()I"⟩, 27) := ⟨⟨by decide +kernel, by decide +kernel⟩, List.mem_of_getElem? (i := 669) (by decide +kernel), List.mem_of_getElem? (i := 992) (by decide +kernel), List.mem_of_getElem? (i := 993) (by decide +kernel)⟩
def lw_privs_3 : List (MethodName × Nat) := [(⟨"HostageRoundModel", "firstDay", "(I)I"⟩, 27), (⟨"HostageRoundModel", "isThere", "(IIII)Z"⟩, 27), (⟨"HostageRoundModel", "isWar", "(II)Z"⟩, 27), (⟨"HostageRoundModel", "codes", "()I"⟩, 27), (⟨"HostageRoundModel", "isRow", "(I)Z"⟩, 27), (⟨"HostageRoundModel", "deals", "(I)Z"⟩, 27), (⟨"HostageRoundModel", "living", "()I"⟩, 27), (⟨"HostageRoundModel", "coughOf", "(I)I"⟩, 27), (⟨"HostageRoundModel", "doMeet", "(III)Z"⟩, 27), (⟨"HostageRoundModel", "alive", "()I"⟩, 27)]
theorem lw_r3 : ∀ q ∈ lw_privs_3, lw_okq q := List.forall_mem_cons.mpr ⟨lw_p32, List.forall_mem_cons.mpr ⟨lw_p33, List.forall_mem_cons.mpr ⟨lw_p34, List.forall_mem_cons.mpr ⟨lw_p35, List.forall_mem_cons.mpr ⟨lw_p36, List.forall_mem_cons.mpr ⟨lw_p37, List.forall_mem_cons.mpr ⟨lw_p38, List.forall_mem_cons.mpr ⟨lw_p39, List.forall_mem_cons.mpr ⟨lw_p40, List.forall_mem_cons.mpr ⟨lw_p41, fun _ h => absurd h List.not_mem_nil⟩⟩⟩⟩⟩⟩⟩⟩⟩⟩
def lw_privs : List (MethodName × Nat) := lw_privs_1 ++ (lw_privs_2 ++ (lw_privs_3))
def lw_tbl : List Cond := k2_sels lw_privs ++ tables_1
theorem lw_privs_ok : ∀ q ∈ lw_privs, lw_okq q := by
  show ∀ q ∈ lw_privs_1 ++ (lw_privs_2 ++ (lw_privs_3)), lw_okq q
  exact List.forall_mem_append.mpr ⟨lw_r1, List.forall_mem_append.mpr ⟨lw_r2, lw_r3⟩⟩
end
section
-- names, fields: printed by the TURN, copied
def RX0 : String := "HostageRound$Deal"
def TX0 : u_T := fun k => match k with
  | 0 => ("HostageRound$Deal", "wants", "LHostageRound$Row;", true)
  | 1 => ("HostageRound$Deal", "openNames", "I", false)
  | 2 => ("HostageRound$Deal", "coughing", "I", false)
  | 3 => ("HostageRound$Deal", "quiet", "I", false)
  | 4 => ("HostageRound$Deal", "wantCough", "I", false)
  | 5 => ("HostageRound$Deal", "wantQuiet", "I", false)
  | _ => ("HostageRound$Deal", "nothingFits", "Z", false)
def tyX0 : Nat → FieldType := fun k => match k with
  | 0 => .object "HostageRound$Row"
  | 1 => .int
  | 2 => .int
  | 3 => .int
  | 4 => .int
  | 5 => .int
  | _ => .boolean
abbrev wsX00 : List Cond := u_ws RX0 TX0 7
theorem nmX0 : ∀ a, a < 7 → ∀ b, b < 7 → a ≠ b → (TX0 a).2.1 ≠ (TX0 b).2.1 := by decide +kernel
theorem tyX0_ok : ∀ k, k < 7 → parseFieldDescriptor (TX0 k).2.2.1 = some (tyX0 k) := by decide +kernel
abbrev cX0_init : ByteArray := prog_2_method_1_code
def yX0_init : MethodName := ⟨RX0, "<init>", "()V"⟩
abbrev cX0_prepare : ByteArray := prog_2_method_2_code
def yX0_prepare : MethodName := ⟨RX0, "prepare", "(LHostageRound$Round;)V"⟩
abbrev cX0_heed : ByteArray := prog_2_method_3_code
def yX0_heed : MethodName := ⟨RX0, "heed", "(IZ)V"⟩
abbrev cX0_isOpen : ByteArray := prog_2_method_4_code
def yX0_isOpen : MethodName := ⟨RX0, "isOpen", "(I)Z"⟩
abbrev cX0_suits : ByteArray := prog_2_method_5_code
def yX0_suits : MethodName := ⟨RX0, "suits", "(IZ)Z"⟩
abbrev cX0_countWant : ByteArray := prog_2_method_6_code
def yX0_countWant : MethodName := ⟨RX0, "countWant", "(II)V"⟩
abbrev cX0_countBearer : ByteArray := prog_2_method_7_code
def yX0_countBearer : MethodName := ⟨RX0, "countBearer", "(ZI)V"⟩
abbrev cX0_give : ByteArray := prog_2_method_8_code
def yX0_give : MethodName := ⟨RX0, "give", "(IZ)V"⟩
abbrev cX0_takeBack : ByteArray := prog_2_method_9_code
def yX0_takeBack : MethodName := ⟨RX0, "takeBack", "(IZ)V"⟩
abbrev cX0_ways : ByteArray := prog_2_method_10_code
def yX0_ways : MethodName := ⟨RX0, "ways", "()I"⟩
abbrev cX0_waysIf : ByteArray := prog_2_method_11_code
def yX0_waysIf : MethodName := ⟨RX0, "waysIf", "(II)I"⟩
abbrev cX0_picks : ByteArray := prog_2_method_12_code
def yX0_picks : MethodName := ⟨RX0, "picks", "(II)I"⟩
abbrev cX0_rowAt : ByteArray := prog_2_method_13_code
def yX0_rowAt : MethodName := ⟨RX0, "rowAt", "(LHostageRound$Round;I)I"⟩
abbrev cX0_waysWith : ByteArray := prog_2_method_14_code
def yX0_waysWith : MethodName := ⟨RX0, "waysWith", "(IZ)I"⟩
abbrev cX0_namesFor : ByteArray := prog_2_method_15_code
def yX0_namesFor : MethodName := ⟨RX0, "namesFor", "(LHostageRound$Round;I)I"⟩
abbrev cX0_nameToHear : ByteArray := prog_2_method_16_code
def yX0_nameToHear : MethodName := ⟨RX0, "nameToHear", "(I)I"⟩
abbrev cX0_mostLeftBy : ByteArray := prog_2_method_17_code
def yX0_mostLeftBy : MethodName := ⟨RX0, "mostLeftBy", "(I)I"⟩
def RX1 : String := "HostageRound$Pad"
def TX1 : u_T := fun k => match k with
  | 0 => ("HostageRound$Pad", "text", "LHostageRound$Row;", true)
  | _ => ("HostageRound$Pad", "signs", "I", false)
def tyX1 : Nat → FieldType := fun k => match k with
  | 0 => .object "HostageRound$Row"
  | _ => .int
abbrev wsX10 : List Cond := u_ws RX1 TX1 2
theorem nmX1 : ∀ a, a < 2 → ∀ b, b < 2 → a ≠ b → (TX1 a).2.1 ≠ (TX1 b).2.1 := by decide +kernel
theorem tyX1_ok : ∀ k, k < 2 → parseFieldDescriptor (TX1 k).2.2.1 = some (tyX1 k) := by decide +kernel
abbrev cX1_init : ByteArray := prog_3_method_1_code
def yX1_init : MethodName := ⟨RX1, "<init>", "()V"⟩
abbrev cX1_add : ByteArray := prog_3_method_2_code
def yX1_add : MethodName := ⟨RX1, "add", "(I)I"⟩
abbrev cX1_clear : ByteArray := prog_3_method_3_code
def yX1_clear : MethodName := ⟨RX1, "clear", "()I"⟩
abbrev cX1_firstFault : ByteArray := prog_3_method_4_code
def yX1_firstFault : MethodName := ⟨RX1, "firstFault", "(I)I"⟩
abbrev cX1_isTime : ByteArray := prog_3_method_5_code
def yX1_isTime : MethodName := ⟨RX1, "isTime", "(I)Z"⟩
abbrev cX1_isFate : ByteArray := prog_3_method_6_code
def yX1_isFate : MethodName := ⟨RX1, "isFate", "(I)Z"⟩
abbrev cX1_isChild : ByteArray := prog_3_method_7_code
def yX1_isChild : MethodName := ⟨RX1, "isChild", "(II)Z"⟩
def RX2 : String := "HostageRound$Round"
def TX2 : u_T := fun k => match k with
  | 0 => ("HostageRound$Round", "lands", "I", false)
  | 1 => ("HostageRound$Round", "longDays", "I", false)
  | 2 => ("HostageRound$Round", "day", "I", false)
  | 3 => ("HostageRound$Round", "dayOfSeason", "I", false)
  | 4 => ("HostageRound$Round", "season", "I", false)
  | 5 => ("HostageRound$Round", "living", "I", false)
  | 6 => ("HostageRound$Round", "sights", "I", false)
  | 7 => ("HostageRound$Round", "place", "LHostageRound$Row;", true)
  | 8 => ("HostageRound$Round", "name", "LHostageRound$Row;", true)
  | 9 => ("HostageRound$Round", "bond", "LHostageRound$Row;", true)
  | 10 => ("HostageRound$Round", "went", "LHostageRound$Row;", true)
  | 11 => ("HostageRound$Round", "coughs", "LHostageRound$Row;", true)
  | 12 => ("HostageRound$Round", "cold", "LHostageRound$Row;", true)
  | 13 => ("HostageRound$Round", "sightName", "LHostageRound$Row;", true)
  | _ => ("HostageRound$Round", "sightCoughed", "LHostageRound$Row;", true)
def tyX2 : Nat → FieldType := fun k => match k with
  | 0 => .int
  | 1 => .int
  | 2 => .int
  | 3 => .int
  | 4 => .int
  | 5 => .int
  | 6 => .int
  | 7 => .object "HostageRound$Row"
  | 8 => .object "HostageRound$Row"
  | 9 => .object "HostageRound$Row"
  | 10 => .object "HostageRound$Row"
  | 11 => .object "HostageRound$Row"
  | 12 => .object "HostageRound$Row"
  | 13 => .object "HostageRound$Row"
  | _ => .object "HostageRound$Row"
abbrev wsX20 : List Cond := u_ws RX2 TX2 15
theorem nmX2 : ∀ a, a < 15 → ∀ b, b < 15 → a ≠ b → (TX2 a).2.1 ≠ (TX2 b).2.1 := by decide +kernel
theorem tyX2_ok : ∀ k, k < 15 → parseFieldDescriptor (TX2 k).2.2.1 = some (tyX2 k) := by decide +kernel
abbrev cX2_init : ByteArray := prog_4_method_1_code
def yX2_init : MethodName := ⟨RX2, "<init>", "()V"⟩
abbrev cX2_startAnew : ByteArray := prog_4_method_2_code
def yX2_startAnew : MethodName := ⟨RX2, "startAnew", "(I)V"⟩
abbrev cX2_takeOver : ByteArray := prog_4_method_3_code
def yX2_takeOver : MethodName := ⟨RX2, "takeOver", "(LHostageRound$Round;)V"⟩
abbrev cX2_has : ByteArray := prog_4_method_4_code
def yX2_has : MethodName := ⟨RX2, "has", "(I)Z"⟩
abbrev cX2_hasBoth : ByteArray := prog_4_method_5_code
def yX2_hasBoth : MethodName := ⟨RX2, "hasBoth", "(II)Z"⟩
abbrev cX2_lives : ByteArray := prog_4_method_6_code
def yX2_lives : MethodName := ⟨RX2, "lives", "(I)Z"⟩
abbrev cX2_bearerOf : ByteArray := prog_4_method_7_code
def yX2_bearerOf : MethodName := ⟨RX2, "bearerOf", "(I)I"⟩
abbrev cX2_die : ByteArray := prog_4_method_8_code
def yX2_die : MethodName := ⟨RX2, "die", "(I)I"⟩
abbrev cX2_bind : ByteArray := prog_4_method_9_code
def yX2_bind : MethodName := ⟨RX2, "bind", "(II)I"⟩
abbrev cX2_changeHats : ByteArray := prog_4_method_10_code
def yX2_changeHats : MethodName := ⟨RX2, "changeHats", "(II)I"⟩
abbrev cX2_swapNames : ByteArray := prog_4_method_11_code
def yX2_swapNames : MethodName := ⟨RX2, "swapNames", "(II)V"⟩
abbrev cX2_passDays : ByteArray := prog_4_method_12_code
def yX2_passDays : MethodName := ⟨RX2, "passDays", "(I)V"⟩
abbrev cX2_passSeason : ByteArray := prog_4_method_13_code
def yX2_passSeason : MethodName := ⟨RX2, "passSeason", "()V"⟩
abbrev cX2_passEquinox : ByteArray := prog_4_method_14_code
def yX2_passEquinox : MethodName := ⟨RX2, "passEquinox", "()V"⟩
abbrev cX2_landAfter : ByteArray := prog_4_method_15_code
def yX2_landAfter : MethodName := ⟨RX2, "landAfter", "(II)I"⟩
abbrev cX2_guestsAfter : ByteArray := prog_4_method_16_code
def yX2_guestsAfter : MethodName := ⟨RX2, "guestsAfter", "(II)I"⟩
abbrev cX2_shareALand : ByteArray := prog_4_method_17_code
def yX2_shareALand : MethodName := ⟨RX2, "shareALand", "(III)Z"⟩
abbrev cX2_equinoxesTill : ByteArray := prog_4_method_18_code
def yX2_equinoxesTill : MethodName := ⟨RX2, "equinoxesTill", "(I)I"⟩
abbrev cX2_firstDayAfter : ByteArray := prog_4_method_19_code
def yX2_firstDayAfter : MethodName := ⟨RX2, "firstDayAfter", "(I)I"⟩
abbrev cX2_daysLikeSeason : ByteArray := prog_4_method_20_code
def yX2_daysLikeSeason : MethodName := ⟨RX2, "daysLikeSeason", "(II)I"⟩
abbrev cX2_daysAway : ByteArray := prog_4_method_21_code
def yX2_daysAway : MethodName := ⟨RX2, "daysAway", "(III)I"⟩
abbrev cX2_firstWar : ByteArray := prog_4_method_22_code
def yX2_firstWar : MethodName := ⟨RX2, "firstWar", "(III)I"⟩
abbrev cX2_fursAfter : ByteArray := prog_4_method_23_code
def yX2_fursAfter : MethodName := ⟨RX2, "fursAfter", "(I)I"⟩
abbrev cX2_ownNames : ByteArray := prog_4_method_24_code
def yX2_ownNames : MethodName := ⟨RX2, "ownNames", "()I"⟩
abbrev cX2_emptyLands : ByteArray := prog_4_method_25_code
def yX2_emptyLands : MethodName := ⟨RX2, "emptyLands", "()I"⟩
def RX3 : String := "HostageRound$Row"
def TX3 : u_T := fun k => match k with
  | _ => ("HostageRound$Row", "cells", "[I", true)
def tyX3 : Nat → FieldType := fun k => match k with
  | _ => .array .int
abbrev wsX30 : List Cond := u_ws RX3 TX3 1
theorem nmX3 : ∀ a, a < 1 → ∀ b, b < 1 → a ≠ b → (TX3 a).2.1 ≠ (TX3 b).2.1 := by decide +kernel
theorem tyX3_ok : ∀ k, k < 1 → parseFieldDescriptor (TX3 k).2.2.1 = some (tyX3 k) := by decide +kernel
abbrev cX3_init : ByteArray := prog_5_method_1_code
def yX3_init : MethodName := ⟨RX3, "<init>", "(I)V"⟩
abbrev cX3_get : ByteArray := prog_5_method_2_code
def yX3_get : MethodName := ⟨RX3, "get", "(I)I"⟩
abbrev cX3_put : ByteArray := prog_5_method_3_code
def yX3_put : MethodName := ⟨RX3, "put", "(II)V"⟩
abbrev cX3_fill : ByteArray := prog_5_method_4_code
def yX3_fill : MethodName := ⟨RX3, "fill", "(I)V"⟩
abbrev cX3_takeOver : ByteArray := prog_5_method_5_code
def yX3_takeOver : MethodName := ⟨RX3, "takeOver", "(LHostageRound$Row;)V"⟩
def RX4 : String := "HostageRound$Weddings"
def TX4 : u_T := fun k => match k with
  | 0 => ("HostageRound$Weddings", "mates", "LHostageRound$Row;", true)
  | _ => ("HostageRound$Weddings", "twosOf", "LHostageRound$Row;", true)
def tyX4 : Nat → FieldType := fun k => match k with
  | 0 => .object "HostageRound$Row"
  | _ => .object "HostageRound$Row"
abbrev wsX40 : List Cond := u_ws RX4 TX4 2
theorem nmX4 : ∀ a, a < 2 → ∀ b, b < 2 → a ≠ b → (TX4 a).2.1 ≠ (TX4 b).2.1 := by decide +kernel
theorem tyX4_ok : ∀ k, k < 2 → parseFieldDescriptor (TX4 k).2.2.1 = some (tyX4 k) := by decide +kernel
abbrev cX4_init : ByteArray := prog_6_method_1_code
def yX4_init : MethodName := ⟨RX4, "<init>", "()V"⟩
abbrev cX4_mostTwos : ByteArray := prog_6_method_2_code
def yX4_mostTwos : MethodName := ⟨RX4, "mostTwos", "(LHostageRound$Round;I)I"⟩
abbrev cX4_bestOf : ByteArray := prog_6_method_3_code
def yX4_bestOf : MethodName := ⟨RX4, "bestOf", "(I)I"⟩
abbrev cX4_matesOf : ByteArray := prog_6_method_4_code
def yX4_matesOf : MethodName := ⟨RX4, "matesOf", "(LHostageRound$Round;II)I"⟩
abbrev cX4_isFree : ByteArray := prog_6_method_5_code
def yX4_isFree : MethodName := ⟨RX4, "isFree", "(LHostageRound$Round;I)Z"⟩
abbrev cX4_areApart : ByteArray := prog_6_method_6_code
def yX4_areApart : MethodName := ⟨RX4, "areApart", "(LHostageRound$Round;III)Z"⟩
def RX5 : String := "HostageRound$Years"
def TX5 : u_T := fun k => match k with
  | 0 => ("HostageRound$Years", "acts", "I", false)
  | _ => ("HostageRound$Years", "why", "I", false)
def tyX5 : Nat → FieldType := fun k => match k with
  | 0 => .int
  | _ => .int
abbrev wsX50 : List Cond := u_ws RX5 TX5 2
theorem nmX5 : ∀ a, a < 2 → ∀ b, b < 2 → a ≠ b → (TX5 a).2.1 ≠ (TX5 b).2.1 := by decide +kernel
theorem tyX5_ok : ∀ k, k < 2 → parseFieldDescriptor (TX5 k).2.2.1 = some (tyX5 k) := by decide +kernel
abbrev cX5_init : ByteArray := prog_7_method_1_code
def yX5_init : MethodName := ⟨RX5, "<init>", "()V"⟩
abbrev cX5_canBe : ByteArray := prog_7_method_2_code
def yX5_canBe : MethodName := ⟨RX5, "canBe", "(LHostageRound$Round;LHostageRound$Round;LHostageRound$Pad;)Z"⟩
abbrev cX5_passTime : ByteArray := prog_7_method_3_code
def yX5_passTime : MethodName := ⟨RX5, "passTime", "(LHostageRound$Round;I)V"⟩
abbrev cX5_befall : ByteArray := prog_7_method_4_code
def yX5_befall : MethodName := ⟨RX5, "befall", "(LHostageRound$Round;II)I"⟩
def RX6 : String := "HostageRound"
def TX6 : u_T := fun k => match k with
  | 0 => ("HostageRound", "now", "LHostageRound$Round;", true)
  | 1 => ("HostageRound", "tried", "LHostageRound$Round;", true)
  | 2 => ("HostageRound", "firstImage", "LHostageRound$Round;", true)
  | 3 => ("HostageRound", "secondImage", "LHostageRound$Round;", true)
  | 4 => ("HostageRound", "kept", "LHostageRound$Row;", true)
  | 5 => ("HostageRound", "pad", "LHostageRound$Pad;", true)
  | 6 => ("HostageRound", "years", "LHostageRound$Years;", true)
  | 7 => ("HostageRound", "deal", "LHostageRound$Deal;", true)
  | _ => ("HostageRound", "weddings", "LHostageRound$Weddings;", true)
def tyX6 : Nat → FieldType := fun k => match k with
  | 0 => .object "HostageRound$Round"
  | 1 => .object "HostageRound$Round"
  | 2 => .object "HostageRound$Round"
  | 3 => .object "HostageRound$Round"
  | 4 => .object "HostageRound$Row"
  | 5 => .object "HostageRound$Pad"
  | 6 => .object "HostageRound$Years"
  | 7 => .object "HostageRound$Deal"
  | _ => .object "HostageRound$Weddings"
abbrev wsX60 : List Cond := u_ws RX6 TX6 9
theorem nmX6 : ∀ a, a < 9 → ∀ b, b < 9 → a ≠ b → (TX6 a).2.1 ≠ (TX6 b).2.1 := by decide +kernel
theorem tyX6_ok : ∀ k, k < 9 → parseFieldDescriptor (TX6 k).2.2.1 = some (tyX6 k) := by decide +kernel
abbrev cX6_init : ByteArray := prog_1_method_1_code
def yX6_init : MethodName := ⟨RX6, "<init>", "()V"⟩
abbrev cX6_lands : ByteArray := prog_1_method_2_code
def yX6_lands : MethodName := ⟨RX6, "lands", "(I)I"⟩
abbrev cX6_season : ByteArray := prog_1_method_3_code
def yX6_season : MethodName := ⟨RX6, "season", "(I)I"⟩
abbrev cX6_set : ByteArray := prog_1_method_4_code
def yX6_set : MethodName := ⟨RX6, "set", "(III)I"⟩
abbrev cX6_say : ByteArray := prog_1_method_5_code
def yX6_say : MethodName := ⟨RX6, "say", "(I)I"⟩
abbrev cX6_wipe : ByteArray := prog_1_method_6_code
def yX6_wipe : MethodName := ⟨RX6, "wipe", "()I"⟩
abbrev cX6_fault : ByteArray := prog_1_method_7_code
def yX6_fault : MethodName := ⟨RX6, "fault", "()I"⟩
abbrev cX6_judge : ByteArray := prog_1_method_8_code
def yX6_judge : MethodName := ⟨RX6, "judge", "(I)I"⟩
abbrev cX6_done : ByteArray := prog_1_method_9_code
def yX6_done : MethodName := ⟨RX6, "done", "()I"⟩
abbrev cX6_state : ByteArray := prog_1_method_10_code
def yX6_state : MethodName := ⟨RX6, "state", "(II)I"⟩
abbrev cX6_behind : ByteArray := prog_1_method_11_code
def yX6_behind : MethodName := ⟨RX6, "behind", "(II)I"⟩
abbrev cX6_day : ByteArray := prog_1_method_12_code
def yX6_day : MethodName := ⟨RX6, "day", "()I"⟩
abbrev cX6_where : ByteArray := prog_1_method_13_code
def yX6_where : MethodName := ⟨RX6, "where", "(II)I"⟩
abbrev cX6_who : ByteArray := prog_1_method_14_code
def yX6_who : MethodName := ⟨RX6, "who", "(II)I"⟩
abbrev cX6_meet : ByteArray := prog_1_method_15_code
def yX6_meet : MethodName := ⟨RX6, "meet", "(II)I"⟩
abbrev cX6_together : ByteArray := prog_1_method_16_code
def yX6_together : MethodName := ⟨RX6, "together", "(III)I"⟩
abbrev cX6_begin : ByteArray := prog_1_method_17_code
def yX6_begin : MethodName := ⟨RX6, "begin", "(III)I"⟩
abbrev cX6_longest : ByteArray := prog_1_method_18_code
def yX6_longest : MethodName := ⟨RX6, "longest", "(III)I"⟩
abbrev cX6_struck : ByteArray := prog_1_method_19_code
def yX6_struck : MethodName := ⟨RX6, "struck", "(III)I"⟩
abbrev cX6_sure : ByteArray := prog_1_method_20_code
def yX6_sure : MethodName := ⟨RX6, "sure", "(I)I"⟩
abbrev cX6_fooled : ByteArray := prog_1_method_21_code
def yX6_fooled : MethodName := ⟨RX6, "fooled", "(III)I"⟩
abbrev cX6_letter : ByteArray := prog_1_method_22_code
def yX6_letter : MethodName := ⟨RX6, "letter", "(II)I"⟩
abbrev cX6_copy : ByteArray := prog_1_method_23_code
def yX6_copy : MethodName := ⟨RX6, "copy", "(I)I"⟩
abbrev cX6_furs : ByteArray := prog_1_method_24_code
def yX6_furs : MethodName := ⟨RX6, "furs", "(II)I"⟩
abbrev cX6_seen : ByteArray := prog_1_method_25_code
def yX6_seen : MethodName := ⟨RX6, "seen", "(IZ)I"⟩
abbrev cX6_forget : ByteArray := prog_1_method_26_code
def yX6_forget : MethodName := ⟨RX6, "forget", "()I"⟩
abbrev cX6_changed : ByteArray := prog_1_method_27_code
def yX6_changed : MethodName := ⟨RX6, "changed", "(I)I"⟩
abbrev cX6_names : ByteArray := prog_1_method_28_code
def yX6_names : MethodName := ⟨RX6, "names", "(I)I"⟩
abbrev cX6_hear : ByteArray := prog_1_method_29_code
def yX6_hear : MethodName := ⟨RX6, "hear", "(I)I"⟩
abbrev cX6_undo : ByteArray := prog_1_method_30_code
def yX6_undo : MethodName := ⟨RX6, "undo", "()I"⟩
abbrev cX6_marriages : ByteArray := prog_1_method_31_code
def yX6_marriages : MethodName := ⟨RX6, "marriages", "(I)I"⟩
abbrev cX6_deaths : ByteArray := prog_1_method_32_code
def yX6_deaths : MethodName := ⟨RX6, "deaths", "(IIII)J"⟩
abbrev cX6_year : ByteArray := prog_1_method_33_code
def yX6_year : MethodName := ⟨RX6, "year", "(III)I"⟩
abbrev cX6_image : ByteArray := prog_1_method_34_code
def yX6_image : MethodName := ⟨RX6, "image", "(I)I"⟩
abbrev cX6_restore : ByteArray := prog_1_method_35_code
def yX6_restore : MethodName := ⟨RX6, "restore", "(I)I"⟩
abbrev cX6_told : ByteArray := prog_1_method_36_code
def yX6_told : MethodName := ⟨RX6, "told", "(I)I"⟩
abbrev cX6_toldOfOne : ByteArray := prog_1_method_37_code
def yX6_toldOfOne : MethodName := ⟨RX6, "toldOfOne", "(I)I"⟩
abbrev cX6_imageAt : ByteArray := prog_1_method_38_code
def yX6_imageAt : MethodName := ⟨RX6, "imageAt", "(I)LHostageRound$Round;"⟩
abbrev cX6_yearsCanBe : ByteArray := prog_1_method_39_code
def yX6_yearsCanBe : MethodName := ⟨RX6, "yearsCanBe", "()Z"⟩
abbrev cX6_drawYear : ByteArray := prog_1_method_40_code
def yX6_drawYear : MethodName := ⟨RX6, "drawYear", "(II)V"⟩
abbrev cX6_drawAct : ByteArray := prog_1_method_41_code
def yX6_drawAct : MethodName := ⟨RX6, "drawAct", "(I)V"⟩
abbrev cX6_within : ByteArray := prog_1_method_42_code
def yX6_within : MethodName := ⟨RX6, "within", "(III)Z"⟩
abbrev cX6_leftOver : ByteArray := prog_1_method_43_code
def yX6_leftOver : MethodName := ⟨RX6, "leftOver", "(II)I"⟩
abbrev cX6_cut : ByteArray := prog_1_method_44_code
def yX6_cut : MethodName := ⟨RX6, "cut", "(II)I"⟩
abbrev cX6_cut_ : ByteArray := prog_1_method_45_code
def yX6_cut_ : MethodName := ⟨RX6, "cut", "(JJ)J"⟩
abbrev cX6_commonDivisor : ByteArray := prog_1_method_46_code
def yX6_commonDivisor : MethodName := ⟨RX6, "commonDivisor", "(JJ)J"⟩
abbrev cX6_power : ByteArray := prog_1_method_47_code
def yX6_power : MethodName := ⟨RX6, "power", "(JI)J"⟩
def RX7 : String := "HostageRoundModel"
def TX7 : u_T := fun k => match k with
  | 0 => ("HostageRoundModel", "n", "I", false)
  | 1 => ("HostageRoundModel", "length", "I", false)
  | 2 => ("HostageRoundModel", "day", "I", false)
  | 3 => ("HostageRoundModel", "season", "I", false)
  | 4 => ("HostageRoundModel", "within", "I", false)
  | 5 => ("HostageRoundModel", "land", "[I", true)
  | 6 => ("HostageRoundModel", "name", "[I", true)
  | 7 => ("HostageRoundModel", "stays", "[I", true)
  | 8 => ("HostageRoundModel", "cold", "[I", true)
  | 9 => ("HostageRoundModel", "coughs", "[I", true)
  | 10 => ("HostageRoundModel", "sights", "I", false)
  | 11 => ("HostageRoundModel", "sight", "[I", true)
  | 12 => ("HostageRoundModel", "signs", "I", false)
  | 13 => ("HostageRoundModel", "pad", "[I", true)
  | 14 => ("HostageRoundModel", "dayNow", "I", false)
  | 15 => ("HostageRoundModel", "seasonNow", "I", false)
  | 16 => ("HostageRoundModel", "withinNow", "I", false)
  | 17 => ("HostageRoundModel", "at", "[I", true)
  | 18 => ("HostageRoundModel", "called", "[I", true)
  | 19 => ("HostageRoundModel", "still", "[I", true)
  | 20 => ("HostageRoundModel", "went", "[I", true)
  | 21 => ("HostageRoundModel", "reason", "I", false)
  | 22 => ("HostageRoundModel", "acts", "I", false)
  | 23 => ("HostageRoundModel", "row", "[I", true)
  | 24 => ("HostageRoundModel", "coughing", "[I", true)
  | 25 => ("HostageRoundModel", "image", "[I", true)
  | _ => ("HostageRoundModel", "isKept", "[Z", true)
def tyX7 : Nat → FieldType := fun k => match k with
  | 0 => .int
  | 1 => .int
  | 2 => .int
  | 3 => .int
  | 4 => .int
  | 5 => .array .int
  | 6 => .array .int
  | 7 => .array .int
  | 8 => .array .int
  | 9 => .array .int
  | 10 => .int
  | 11 => .array .int
  | 12 => .int
  | 13 => .array .int
  | 14 => .int
  | 15 => .int
  | 16 => .int
  | 17 => .array .int
  | 18 => .array .int
  | 19 => .array .int
  | 20 => .array .int
  | 21 => .int
  | 22 => .int
  | 23 => .array .int
  | 24 => .array .int
  | 25 => .array .int
  | _ => .array .boolean
abbrev wsX70 : List Cond := u_ws RX7 TX7 27
theorem nmX7 : ∀ a, a < 27 → ∀ b, b < 27 → a ≠ b → (TX7 a).2.1 ≠ (TX7 b).2.1 := by decide +kernel
theorem tyX7_ok : ∀ k, k < 27 → parseFieldDescriptor (TX7 k).2.2.1 = some (tyX7 k) := by decide +kernel
abbrev cX7_init : ByteArray := prog_9_method_1_code
def yX7_init : MethodName := ⟨RX7, "<init>", "()V"⟩
abbrev cX7_clear : ByteArray := prog_9_method_2_code
def yX7_clear : MethodName := ⟨RX7, "clear", "()V"⟩
abbrev cX7_in : ByteArray := prog_9_method_3_code
def yX7_in : MethodName := ⟨RX7, "in", "(III)Z"⟩
abbrev cX7_has : ByteArray := prog_9_method_4_code
def yX7_has : MethodName := ⟨RX7, "has", "(II)Z"⟩
abbrev cX7_isOne : ByteArray := prog_9_method_5_code
def yX7_isOne : MethodName := ⟨RX7, "isOne", "(I)Z"⟩
abbrev cX7_areTwo : ByteArray := prog_9_method_6_code
def yX7_areTwo : MethodName := ⟨RX7, "areTwo", "(II)Z"⟩
abbrev cX7_lands : ByteArray := prog_9_method_7_code
def yX7_lands : MethodName := ⟨RX7, "lands", "(I)I"⟩
abbrev cX7_season : ByteArray := prog_9_method_8_code
def yX7_season : MethodName := ⟨RX7, "season", "(I)I"⟩
abbrev cX7_set : ByteArray := prog_9_method_9_code
def yX7_set : MethodName := ⟨RX7, "set", "(III)I"⟩
abbrev cX7_say : ByteArray := prog_9_method_10_code
def yX7_say : MethodName := ⟨RX7, "say", "(I)I"⟩
abbrev cX7_wipe : ByteArray := prog_9_method_11_code
def yX7_wipe : MethodName := ⟨RX7, "wipe", "()I"⟩
abbrev cX7_isChild : ByteArray := prog_9_method_12_code
def yX7_isChild : MethodName := ⟨RX7, "isChild", "(I)Z"⟩
abbrev cX7_faultOf : ByteArray := prog_9_method_13_code
def yX7_faultOf : MethodName := ⟨RX7, "faultOf", "()I"⟩
abbrev cX7_fault : ByteArray := prog_9_method_14_code
def yX7_fault : MethodName := ⟨RX7, "fault", "()I"⟩
abbrev cX7_asNow : ByteArray := prog_9_method_15_code
def yX7_asNow : MethodName := ⟨RX7, "asNow", "()V"⟩
abbrev cX7_equinox : ByteArray := prog_9_method_16_code
def yX7_equinox : MethodName := ⟨RX7, "equinox", "()V"⟩
abbrev cX7_days : ByteArray := prog_9_method_17_code
def yX7_days : MethodName := ⟨RX7, "days", "(I)V"⟩
abbrev cX7_whyNoHats : ByteArray := prog_9_method_18_code
def yX7_whyNoHats : MethodName := ⟨RX7, "whyNoHats", "(II)I"⟩
abbrev cX7_hats : ByteArray := prog_9_method_19_code
def yX7_hats : MethodName := ⟨RX7, "hats", "(II)V"⟩
abbrev cX7_whyNot : ByteArray := prog_9_method_20_code
def yX7_whyNot : MethodName := ⟨RX7, "whyNot", "(II)I"⟩
abbrev cX7_goYears : ByteArray := prog_9_method_21_code
def yX7_goYears : MethodName := ⟨RX7, "goYears", "()I"⟩
abbrev cX7_judge : ByteArray := prog_9_method_22_code
def yX7_judge : MethodName := ⟨RX7, "judge", "(I)I"⟩
abbrev cX7_barOfYears : ByteArray := prog_9_method_23_code
def yX7_barOfYears : MethodName := ⟨RX7, "barOfYears", "()I"⟩
abbrev cX7_done : ByteArray := prog_9_method_24_code
def yX7_done : MethodName := ⟨RX7, "done", "()I"⟩
abbrev cX7_state : ByteArray := prog_9_method_25_code
def yX7_state : MethodName := ⟨RX7, "state", "(II)I"⟩
abbrev cX7_behind : ByteArray := prog_9_method_26_code
def yX7_behind : MethodName := ⟨RX7, "behind", "(II)I"⟩
abbrev cX7_day : ByteArray := prog_9_method_27_code
def yX7_day : MethodName := ⟨RX7, "day", "()I"⟩
abbrev cX7_whereBehind : ByteArray := prog_9_method_28_code
def yX7_whereBehind : MethodName := ⟨RX7, "whereBehind", "(II)I"⟩
abbrev cX7_equinoxes : ByteArray := prog_9_method_29_code
def yX7_equinoxes : MethodName := ⟨RX7, "equinoxes", "(I)I"⟩
abbrev cX7_firstDay : ByteArray := prog_9_method_30_code
def yX7_firstDay : MethodName := ⟨RX7, "firstDay", "(I)I"⟩
abbrev cX7_where : ByteArray := prog_9_method_31_code
def yX7_where : MethodName := ⟨RX7, "where", "(II)I"⟩
abbrev cX7_who : ByteArray := prog_9_method_32_code
def yX7_who : MethodName := ⟨RX7, "who", "(II)I"⟩
abbrev cX7_areIn : ByteArray := prog_9_method_33_code
def yX7_areIn : MethodName := ⟨RX7, "areIn", "(III)Z"⟩
abbrev cX7_meet : ByteArray := prog_9_method_34_code
def yX7_meet : MethodName := ⟨RX7, "meet", "(II)I"⟩
abbrev cX7_together : ByteArray := prog_9_method_35_code
def yX7_together : MethodName := ⟨RX7, "together", "(III)I"⟩
abbrev cX7_isThere : ByteArray := prog_9_method_36_code
def yX7_isThere : MethodName := ⟨RX7, "isThere", "(IIII)Z"⟩
abbrev cX7_begin : ByteArray := prog_9_method_37_code
def yX7_begin : MethodName := ⟨RX7, "begin", "(III)I"⟩
abbrev cX7_longest : ByteArray := prog_9_method_38_code
def yX7_longest : MethodName := ⟨RX7, "longest", "(III)I"⟩
abbrev cX7_isWar : ByteArray := prog_9_method_39_code
def yX7_isWar : MethodName := ⟨RX7, "isWar", "(II)Z"⟩
abbrev cX7_struck : ByteArray := prog_9_method_40_code
def yX7_struck : MethodName := ⟨RX7, "struck", "(III)I"⟩
abbrev cX7_sure : ByteArray := prog_9_method_41_code
def yX7_sure : MethodName := ⟨RX7, "sure", "(I)I"⟩
abbrev cX7_fooled : ByteArray := prog_9_method_42_code
def yX7_fooled : MethodName := ⟨RX7, "fooled", "(III)I"⟩
abbrev cX7_letter : ByteArray := prog_9_method_43_code
def yX7_letter : MethodName := ⟨RX7, "letter", "(II)I"⟩
abbrev cX7_copy : ByteArray := prog_9_method_44_code
def yX7_copy : MethodName := ⟨RX7, "copy", "(I)I"⟩
abbrev cX7_furs : ByteArray := prog_9_method_45_code
def yX7_furs : MethodName := ⟨RX7, "furs", "(II)I"⟩
abbrev cX7_seen : ByteArray := prog_9_method_46_code
def yX7_seen : MethodName := ⟨RX7, "seen", "(IZ)I"⟩
abbrev cX7_forget : ByteArray := prog_9_method_47_code
def yX7_forget : MethodName := ⟨RX7, "forget", "()I"⟩
abbrev cX7_living : ByteArray := prog_9_method_48_code
def yX7_living : MethodName := ⟨RX7, "living", "()I"⟩
abbrev cX7_deals : ByteArray := prog_9_method_50_code
def yX7_deals : MethodName := ⟨RX7, "deals", "(I)Z"⟩
abbrev cX7_coughOf : ByteArray := prog_9_method_51_code
def yX7_coughOf : MethodName := ⟨RX7, "coughOf", "(I)I"⟩
abbrev cX7_codes : ByteArray := prog_9_method_52_code
def yX7_codes : MethodName := ⟨RX7, "codes", "()I"⟩
abbrev cX7_isRow : ByteArray := prog_9_method_53_code
def yX7_isRow : MethodName := ⟨RX7, "isRow", "(I)Z"⟩
abbrev cX7_changed : ByteArray := prog_9_method_54_code
def yX7_changed : MethodName := ⟨RX7, "changed", "(I)I"⟩
abbrev cX7_names : ByteArray := prog_9_method_55_code
def yX7_names : MethodName := ⟨RX7, "names", "(I)I"⟩
abbrev cX7_hear : ByteArray := prog_9_method_56_code
def yX7_hear : MethodName := ⟨RX7, "hear", "(I)I"⟩
abbrev cX7_undo : ByteArray := prog_9_method_57_code
def yX7_undo : MethodName := ⟨RX7, "undo", "()I"⟩
abbrev cX7_marriages : ByteArray := prog_9_method_58_code
def yX7_marriages : MethodName := ⟨RX7, "marriages", "(I)I"⟩
abbrev cX7_doMeet : ByteArray := prog_9_method_59_code
def yX7_doMeet : MethodName := ⟨RX7, "doMeet", "(III)Z"⟩
abbrev cX7_alive : ByteArray := prog_9_method_60_code
def yX7_alive : MethodName := ⟨RX7, "alive", "()I"⟩
abbrev cX7_deaths : ByteArray := prog_9_method_61_code
def yX7_deaths : MethodName := ⟨RX7, "deaths", "(IIII)J"⟩
abbrev cX7_year : ByteArray := prog_9_method_62_code
def yX7_year : MethodName := ⟨RX7, "year", "(III)I"⟩
abbrev cX7_image : ByteArray := prog_9_method_63_code
def yX7_image : MethodName := ⟨RX7, "image", "(I)I"⟩
abbrev cX7_restore : ByteArray := prog_9_method_64_code
def yX7_restore : MethodName := ⟨RX7, "restore", "(I)I"⟩
abbrev cX7_told : ByteArray := prog_9_method_65_code
def yX7_told : MethodName := ⟨RX7, "told", "(I)I"⟩
def RJ6 : String := "java/lang/Integer"
def TJ6 : u_T := fun k => match k with
  | _ => ("", "", "", false)
def tyJ6 : Nat → FieldType := fun k => match k with
  | _ => .int
abbrev wsJ60 : List Cond := u_ws RJ6 TJ6 0
theorem nmJ6 : ∀ a, a < 0 → ∀ b, b < 0 → a ≠ b → (TJ6 a).2.1 ≠ (TJ6 b).2.1 := by decide +kernel
theorem tyJ6_ok : ∀ k, k < 0 → parseFieldDescriptor (TJ6 k).2.2.1 = some (tyJ6 k) := by decide +kernel
abbrev cJ6_numberOfTrailingZeros_0f7a4 : ByteArray := prog_10_method_48_code
def yJ6_numberOfTrailingZeros_0f7a4 : MethodName := ⟨RJ6, "numberOfTrailingZeros", "(I)I"⟩
abbrev cJ6_bitCount_0f7a4 : ByteArray := prog_10_method_49_code
def yJ6_bitCount_0f7a4 : MethodName := ⟨RJ6, "bitCount", "(I)I"⟩
def RJ9 : String := "java/lang/Math"
def TJ9 : u_T := fun k => match k with
  | _ => ("", "", "", false)
def tyJ9 : Nat → FieldType := fun k => match k with
  | _ => .int
abbrev wsJ90 : List Cond := u_ws RJ9 TJ9 0
theorem nmJ9 : ∀ a, a < 0 → ∀ b, b < 0 → a ≠ b → (TJ9 a).2.1 ≠ (TJ9 b).2.1 := by decide +kernel
theorem tyJ9_ok : ∀ k, k < 0 → parseFieldDescriptor (TJ9 k).2.2.1 = some (tyJ9 k) := by decide +kernel
abbrev cJ9_max_7cf53 : ByteArray := prog_11_method_65_code
def yJ9_max_7cf53 : MethodName := ⟨RJ9, "max", "(II)I"⟩
abbrev cJ9_min_7cf53 : ByteArray := prog_11_method_69_code
def yJ9_min_7cf53 : MethodName := ⟨RJ9, "min", "(II)I"⟩
def RL : String := "HostageRoundLaw"
abbrev cL_law : ByteArray := code
def yL_law : MethodName := ⟨RL, "law", "([I)Z"⟩
end
section
-- decode rows: printed by the TURN, copied
theorem dX0_init_0 : decode cX0_init 0 = .ok (.aload_n 0, 1) := by decide +kernel
theorem dX0_init_1 : decode cX0_init 1 = .ok (.invokespecial 3, 3) := by decide +kernel
theorem dX0_init_4 : decode cX0_init 4 = .ok (.aload_n 0, 1) := by decide +kernel
theorem dX0_init_5 : decode cX0_init 5 = .ok (.new 9, 3) := by decide +kernel
theorem dX0_init_8 : decode cX0_init 8 = .ok (.dup, 1) := by decide +kernel
theorem dX0_init_9 : decode cX0_init 9 = .ok (.bipush 6, 2) := by decide +kernel
theorem dX0_init_11 : decode cX0_init 11 = .ok (.invokespecial 11, 3) := by decide +kernel
theorem dX0_init_14 : decode cX0_init 14 = .ok (.putfield 14, 3) := by decide +kernel
theorem dX0_init_17 : decode cX0_init 17 = .ok (.return_, 1) := by decide +kernel
theorem dX0_prepare_0 : decode cX0_prepare 0 = .ok (.aload_n 0, 1) := by decide +kernel
theorem dX0_prepare_1 : decode cX0_prepare 1 = .ok (.iconst 0, 1) := by decide +kernel
theorem dX0_prepare_2 : decode cX0_prepare 2 = .ok (.putfield 20, 3) := by decide +kernel
theorem dX0_prepare_5 : decode cX0_prepare 5 = .ok (.aload_n 0, 1) := by decide +kernel
theorem dX0_prepare_6 : decode cX0_prepare 6 = .ok (.iconst 0, 1) := by decide +kernel
theorem dX0_prepare_7 : decode cX0_prepare 7 = .ok (.putfield 24, 3) := by decide +kernel
theorem dX0_prepare_10 : decode cX0_prepare 10 = .ok (.aload_n 0, 1) := by decide +kernel
theorem dX0_prepare_11 : decode cX0_prepare 11 = .ok (.iconst 0, 1) := by decide +kernel
theorem dX0_prepare_12 : decode cX0_prepare 12 = .ok (.putfield 27, 3) := by decide +kernel
theorem dX0_prepare_15 : decode cX0_prepare 15 = .ok (.aload_n 0, 1) := by decide +kernel
theorem dX0_prepare_16 : decode cX0_prepare 16 = .ok (.iconst 0, 1) := by decide +kernel
theorem dX0_prepare_17 : decode cX0_prepare 17 = .ok (.putfield 30, 3) := by decide +kernel
theorem dX0_prepare_20 : decode cX0_prepare 20 = .ok (.aload_n 0, 1) := by decide +kernel
theorem dX0_prepare_21 : decode cX0_prepare 21 = .ok (.iconst 0, 1) := by decide +kernel
theorem dX0_prepare_22 : decode cX0_prepare 22 = .ok (.putfield 33, 3) := by decide +kernel
theorem dX0_prepare_25 : decode cX0_prepare 25 = .ok (.aload_n 0, 1) := by decide +kernel
theorem dX0_prepare_26 : decode cX0_prepare 26 = .ok (.iconst 0, 1) := by decide +kernel
theorem dX0_prepare_27 : decode cX0_prepare 27 = .ok (.putfield 36, 3) := by decide +kernel
theorem dX0_prepare_30 : decode cX0_prepare 30 = .ok (.aload_n 0, 1) := by decide +kernel
theorem dX0_prepare_31 : decode cX0_prepare 31 = .ok (.getfield 14, 3) := by decide +kernel
theorem dX0_prepare_34 : decode cX0_prepare 34 = .ok (.iconst 0, 1) := by decide +kernel
theorem dX0_prepare_35 : decode cX0_prepare 35 = .ok (.invokevirtual 40, 3) := by decide +kernel
theorem dX0_prepare_38 : decode cX0_prepare 38 = .ok (.iconst 0, 1) := by decide +kernel
theorem dX0_prepare_39 : decode cX0_prepare 39 = .ok (.istore_n 2, 1) := by decide +kernel
theorem dX0_prepare_40 : decode cX0_prepare 40 = .ok (.iload_n 2, 1) := by decide +kernel
theorem dX0_prepare_41 : decode cX0_prepare 41 = .ok (.aload_n 1, 1) := by decide +kernel
theorem dX0_prepare_42 : decode cX0_prepare 42 = .ok (.getfield 43, 3) := by decide +kernel
theorem dX0_prepare_45 : decode cX0_prepare 45 = .ok (.if_icmp .ge 46, 3) := by decide +kernel
theorem dX0_prepare_48 : decode cX0_prepare 48 = .ok (.aload_n 1, 1) := by decide +kernel
theorem dX0_prepare_49 : decode cX0_prepare 49 = .ok (.iload_n 2, 1) := by decide +kernel
theorem dX0_prepare_50 : decode cX0_prepare 50 = .ok (.invokevirtual 48, 3) := by decide +kernel
theorem dX0_prepare_53 : decode cX0_prepare 53 = .ok (.ifCond .eq 32, 3) := by decide +kernel
theorem dX0_prepare_56 : decode cX0_prepare 56 = .ok (.aload_n 0, 1) := by decide +kernel
theorem dX0_prepare_57 : decode cX0_prepare 57 = .ok (.aload_n 1, 1) := by decide +kernel
theorem dX0_prepare_58 : decode cX0_prepare 58 = .ok (.getfield 52, 3) := by decide +kernel
theorem dX0_prepare_61 : decode cX0_prepare 61 = .ok (.iload_n 2, 1) := by decide +kernel
theorem dX0_prepare_62 : decode cX0_prepare 62 = .ok (.invokevirtual 55, 3) := by decide +kernel
theorem dX0_prepare_65 : decode cX0_prepare 65 = .ok (.aload_n 1, 1) := by decide +kernel
theorem dX0_prepare_66 : decode cX0_prepare 66 = .ok (.getfield 59, 3) := by decide +kernel
theorem dX0_prepare_69 : decode cX0_prepare 69 = .ok (.iload_n 2, 1) := by decide +kernel
theorem dX0_prepare_70 : decode cX0_prepare 70 = .ok (.invokevirtual 55, 3) := by decide +kernel
theorem dX0_prepare_73 : decode cX0_prepare 73 = .ok (.iconst 1, 1) := by decide +kernel
theorem dX0_prepare_74 : decode cX0_prepare 74 = .ok (.if_icmp .ne 7, 3) := by decide +kernel
theorem dX0_prepare_77 : decode cX0_prepare 77 = .ok (.iconst 1, 1) := by decide +kernel
theorem dX0_prepare_78 : decode cX0_prepare 78 = .ok (.goto 4, 3) := by decide +kernel
theorem dX0_prepare_81 : decode cX0_prepare 81 = .ok (.iconst 0, 1) := by decide +kernel
theorem dX0_prepare_82 : decode cX0_prepare 82 = .ok (.invokevirtual 62, 3) := by decide +kernel
theorem dX0_prepare_85 : decode cX0_prepare 85 = .ok (.iinc 2 1, 3) := by decide +kernel
theorem dX0_prepare_88 : decode cX0_prepare 88 = .ok (.goto (-48), 3) := by decide +kernel
theorem dX0_prepare_91 : decode cX0_prepare 91 = .ok (.iconst 0, 1) := by decide +kernel
theorem dX0_prepare_92 : decode cX0_prepare 92 = .ok (.istore_n 2, 1) := by decide +kernel
theorem dX0_prepare_93 : decode cX0_prepare 93 = .ok (.iload_n 2, 1) := by decide +kernel
theorem dX0_prepare_94 : decode cX0_prepare 94 = .ok (.aload_n 1, 1) := by decide +kernel
theorem dX0_prepare_95 : decode cX0_prepare 95 = .ok (.getfield 66, 3) := by decide +kernel
theorem dX0_prepare_98 : decode cX0_prepare 98 = .ok (.if_icmp .ge 38, 3) := by decide +kernel
theorem dX0_prepare_101 : decode cX0_prepare 101 = .ok (.aload_n 0, 1) := by decide +kernel
theorem dX0_prepare_102 : decode cX0_prepare 102 = .ok (.aload_n 1, 1) := by decide +kernel
theorem dX0_prepare_103 : decode cX0_prepare 103 = .ok (.getfield 69, 3) := by decide +kernel
theorem dX0_prepare_106 : decode cX0_prepare 106 = .ok (.iload_n 2, 1) := by decide +kernel
theorem dX0_prepare_107 : decode cX0_prepare 107 = .ok (.invokevirtual 55, 3) := by decide +kernel
theorem dX0_prepare_110 : decode cX0_prepare 110 = .ok (.aload_n 1, 1) := by decide +kernel
theorem dX0_prepare_111 : decode cX0_prepare 111 = .ok (.getfield 72, 3) := by decide +kernel
theorem dX0_prepare_114 : decode cX0_prepare 114 = .ok (.iload_n 2, 1) := by decide +kernel
theorem dX0_prepare_115 : decode cX0_prepare 115 = .ok (.invokevirtual 55, 3) := by decide +kernel
theorem dX0_prepare_118 : decode cX0_prepare 118 = .ok (.iconst 1, 1) := by decide +kernel
theorem dX0_prepare_119 : decode cX0_prepare 119 = .ok (.if_icmp .ne 7, 3) := by decide +kernel
theorem dX0_prepare_122 : decode cX0_prepare 122 = .ok (.iconst 1, 1) := by decide +kernel
theorem dX0_prepare_123 : decode cX0_prepare 123 = .ok (.goto 4, 3) := by decide +kernel
theorem dX0_prepare_126 : decode cX0_prepare 126 = .ok (.iconst 0, 1) := by decide +kernel
theorem dX0_prepare_127 : decode cX0_prepare 127 = .ok (.invokevirtual 75, 3) := by decide +kernel
theorem dX0_prepare_130 : decode cX0_prepare 130 = .ok (.iinc 2 1, 3) := by decide +kernel
theorem dX0_prepare_133 : decode cX0_prepare 133 = .ok (.goto (-40), 3) := by decide +kernel
theorem dX0_prepare_136 : decode cX0_prepare 136 = .ok (.return_, 1) := by decide +kernel
theorem dX0_heed_0 : decode cX0_heed 0 = .ok (.iload_n 2, 1) := by decide +kernel
theorem dX0_heed_1 : decode cX0_heed 1 = .ok (.ifCond .eq 7, 3) := by decide +kernel
theorem dX0_heed_4 : decode cX0_heed 4 = .ok (.iconst 1, 1) := by decide +kernel
theorem dX0_heed_5 : decode cX0_heed 5 = .ok (.goto 4, 3) := by decide +kernel
theorem dX0_heed_8 : decode cX0_heed 8 = .ok (.iconst 2, 1) := by decide +kernel
theorem dX0_heed_9 : decode cX0_heed 9 = .ok (.istore_n 3, 1) := by decide +kernel
theorem dX0_heed_10 : decode cX0_heed 10 = .ok (.aload_n 0, 1) := by decide +kernel
theorem dX0_heed_11 : decode cX0_heed 11 = .ok (.iload_n 1, 1) := by decide +kernel
theorem dX0_heed_12 : decode cX0_heed 12 = .ok (.invokevirtual 78, 3) := by decide +kernel
theorem dX0_heed_15 : decode cX0_heed 15 = .ok (.ifCond .ne 11, 3) := by decide +kernel
theorem dX0_heed_18 : decode cX0_heed 18 = .ok (.aload_n 0, 1) := by decide +kernel
theorem dX0_heed_19 : decode cX0_heed 19 = .ok (.iconst 1, 1) := by decide +kernel
theorem dX0_heed_20 : decode cX0_heed 20 = .ok (.putfield 36, 3) := by decide +kernel
theorem dX0_heed_23 : decode cX0_heed 23 = .ok (.goto 49, 3) := by decide +kernel
theorem dX0_heed_26 : decode cX0_heed 26 = .ok (.aload_n 0, 1) := by decide +kernel
theorem dX0_heed_27 : decode cX0_heed 27 = .ok (.getfield 14, 3) := by decide +kernel
theorem dX0_heed_30 : decode cX0_heed 30 = .ok (.iload_n 1, 1) := by decide +kernel
theorem dX0_heed_31 : decode cX0_heed 31 = .ok (.invokevirtual 55, 3) := by decide +kernel
theorem dX0_heed_34 : decode cX0_heed 34 = .ok (.ifCond .ne 21, 3) := by decide +kernel
theorem dX0_heed_37 : decode cX0_heed 37 = .ok (.aload_n 0, 1) := by decide +kernel
theorem dX0_heed_38 : decode cX0_heed 38 = .ok (.getfield 14, 3) := by decide +kernel
theorem dX0_heed_41 : decode cX0_heed 41 = .ok (.iload_n 1, 1) := by decide +kernel
theorem dX0_heed_42 : decode cX0_heed 42 = .ok (.iload_n 3, 1) := by decide +kernel
theorem dX0_heed_43 : decode cX0_heed 43 = .ok (.invokevirtual 81, 3) := by decide +kernel
theorem dX0_heed_46 : decode cX0_heed 46 = .ok (.aload_n 0, 1) := by decide +kernel
theorem dX0_heed_47 : decode cX0_heed 47 = .ok (.iload_n 1, 1) := by decide +kernel
theorem dX0_heed_48 : decode cX0_heed 48 = .ok (.iconst 1, 1) := by decide +kernel
theorem dX0_heed_49 : decode cX0_heed 49 = .ok (.invokevirtual 85, 3) := by decide +kernel
theorem dX0_heed_52 : decode cX0_heed 52 = .ok (.goto 20, 3) := by decide +kernel
theorem dX0_heed_55 : decode cX0_heed 55 = .ok (.aload_n 0, 1) := by decide +kernel
theorem dX0_heed_56 : decode cX0_heed 56 = .ok (.getfield 14, 3) := by decide +kernel
theorem dX0_heed_59 : decode cX0_heed 59 = .ok (.iload_n 1, 1) := by decide +kernel
theorem dX0_heed_60 : decode cX0_heed 60 = .ok (.invokevirtual 55, 3) := by decide +kernel
theorem dX0_heed_63 : decode cX0_heed 63 = .ok (.iload_n 3, 1) := by decide +kernel
theorem dX0_heed_64 : decode cX0_heed 64 = .ok (.if_icmp .eq 8, 3) := by decide +kernel
theorem dX0_heed_67 : decode cX0_heed 67 = .ok (.aload_n 0, 1) := by decide +kernel
theorem dX0_heed_68 : decode cX0_heed 68 = .ok (.iconst 1, 1) := by decide +kernel
theorem dX0_heed_69 : decode cX0_heed 69 = .ok (.putfield 36, 3) := by decide +kernel
theorem dX0_heed_72 : decode cX0_heed 72 = .ok (.return_, 1) := by decide +kernel
theorem dX0_isOpen_0 : decode cX0_isOpen 0 = .ok (.aload_n 0, 1) := by decide +kernel
theorem dX0_isOpen_1 : decode cX0_isOpen 1 = .ok (.getfield 20, 3) := by decide +kernel
theorem dX0_isOpen_4 : decode cX0_isOpen 4 = .ok (.iload_n 1, 1) := by decide +kernel
theorem dX0_isOpen_5 : decode cX0_isOpen 5 = .ok (.ishr, 1) := by decide +kernel
theorem dX0_isOpen_6 : decode cX0_isOpen 6 = .ok (.iconst 1, 1) := by decide +kernel
theorem dX0_isOpen_7 : decode cX0_isOpen 7 = .ok (.iand, 1) := by decide +kernel
theorem dX0_isOpen_8 : decode cX0_isOpen 8 = .ok (.iconst 1, 1) := by decide +kernel
theorem dX0_isOpen_9 : decode cX0_isOpen 9 = .ok (.if_icmp .ne 7, 3) := by decide +kernel
theorem dX0_isOpen_12 : decode cX0_isOpen 12 = .ok (.iconst 1, 1) := by decide +kernel
theorem dX0_isOpen_13 : decode cX0_isOpen 13 = .ok (.goto 4, 3) := by decide +kernel
theorem dX0_isOpen_16 : decode cX0_isOpen 16 = .ok (.iconst 0, 1) := by decide +kernel
theorem dX0_isOpen_17 : decode cX0_isOpen 17 = .ok (.ireturn, 1) := by decide +kernel
theorem dX0_suits_0 : decode cX0_suits 0 = .ok (.aload_n 0, 1) := by decide +kernel
theorem dX0_suits_1 : decode cX0_suits 1 = .ok (.iload_n 1, 1) := by decide +kernel
theorem dX0_suits_2 : decode cX0_suits 2 = .ok (.invokevirtual 78, 3) := by decide +kernel
theorem dX0_suits_5 : decode cX0_suits 5 = .ok (.ifCond .eq 27, 3) := by decide +kernel
theorem dX0_suits_8 : decode cX0_suits 8 = .ok (.aload_n 0, 1) := by decide +kernel
theorem dX0_suits_9 : decode cX0_suits 9 = .ok (.getfield 14, 3) := by decide +kernel
theorem dX0_suits_12 : decode cX0_suits 12 = .ok (.iload_n 1, 1) := by decide +kernel
theorem dX0_suits_13 : decode cX0_suits 13 = .ok (.invokevirtual 55, 3) := by decide +kernel
theorem dX0_suits_16 : decode cX0_suits 16 = .ok (.iload_n 2, 1) := by decide +kernel
theorem dX0_suits_17 : decode cX0_suits 17 = .ok (.ifCond .eq 7, 3) := by decide +kernel
theorem dX0_suits_20 : decode cX0_suits 20 = .ok (.iconst 2, 1) := by decide +kernel
theorem dX0_suits_21 : decode cX0_suits 21 = .ok (.goto 4, 3) := by decide +kernel
theorem dX0_suits_24 : decode cX0_suits 24 = .ok (.iconst 1, 1) := by decide +kernel
theorem dX0_suits_25 : decode cX0_suits 25 = .ok (.if_icmp .eq 7, 3) := by decide +kernel
theorem dX0_suits_28 : decode cX0_suits 28 = .ok (.iconst 1, 1) := by decide +kernel
theorem dX0_suits_29 : decode cX0_suits 29 = .ok (.goto 4, 3) := by decide +kernel
theorem dX0_suits_32 : decode cX0_suits 32 = .ok (.iconst 0, 1) := by decide +kernel
theorem dX0_suits_33 : decode cX0_suits 33 = .ok (.ireturn, 1) := by decide +kernel
theorem dX0_countWant_0 : decode cX0_countWant 0 = .ok (.aload_n 0, 1) := by decide +kernel
theorem dX0_countWant_1 : decode cX0_countWant 1 = .ok (.getfield 14, 3) := by decide +kernel
theorem dX0_countWant_4 : decode cX0_countWant 4 = .ok (.iload_n 1, 1) := by decide +kernel
theorem dX0_countWant_5 : decode cX0_countWant 5 = .ok (.invokevirtual 55, 3) := by decide +kernel
theorem dX0_countWant_8 : decode cX0_countWant 8 = .ok (.iconst 1, 1) := by decide +kernel
theorem dX0_countWant_9 : decode cX0_countWant 9 = .ok (.if_icmp .ne 16, 3) := by decide +kernel
theorem dX0_countWant_12 : decode cX0_countWant 12 = .ok (.aload_n 0, 1) := by decide +kernel
theorem dX0_countWant_13 : decode cX0_countWant 13 = .ok (.dup, 1) := by decide +kernel
theorem dX0_countWant_14 : decode cX0_countWant 14 = .ok (.getfield 30, 3) := by decide +kernel
theorem dX0_countWant_17 : decode cX0_countWant 17 = .ok (.iload_n 2, 1) := by decide +kernel
theorem dX0_countWant_18 : decode cX0_countWant 18 = .ok (.iadd, 1) := by decide +kernel
theorem dX0_countWant_19 : decode cX0_countWant 19 = .ok (.putfield 30, 3) := by decide +kernel
theorem dX0_countWant_22 : decode cX0_countWant 22 = .ok (.goto 25, 3) := by decide +kernel
theorem dX0_countWant_25 : decode cX0_countWant 25 = .ok (.aload_n 0, 1) := by decide +kernel
theorem dX0_countWant_26 : decode cX0_countWant 26 = .ok (.getfield 14, 3) := by decide +kernel
theorem dX0_countWant_29 : decode cX0_countWant 29 = .ok (.iload_n 1, 1) := by decide +kernel
theorem dX0_countWant_30 : decode cX0_countWant 30 = .ok (.invokevirtual 55, 3) := by decide +kernel
theorem dX0_countWant_33 : decode cX0_countWant 33 = .ok (.iconst 2, 1) := by decide +kernel
theorem dX0_countWant_34 : decode cX0_countWant 34 = .ok (.if_icmp .ne 13, 3) := by decide +kernel
theorem dX0_countWant_37 : decode cX0_countWant 37 = .ok (.aload_n 0, 1) := by decide +kernel
theorem dX0_countWant_38 : decode cX0_countWant 38 = .ok (.dup, 1) := by decide +kernel
theorem dX0_countWant_39 : decode cX0_countWant 39 = .ok (.getfield 33, 3) := by decide +kernel
theorem dX0_countWant_42 : decode cX0_countWant 42 = .ok (.iload_n 2, 1) := by decide +kernel
theorem dX0_countWant_43 : decode cX0_countWant 43 = .ok (.iadd, 1) := by decide +kernel
theorem dX0_countWant_44 : decode cX0_countWant 44 = .ok (.putfield 33, 3) := by decide +kernel
theorem dX0_countWant_47 : decode cX0_countWant 47 = .ok (.return_, 1) := by decide +kernel
theorem dX0_countBearer_0 : decode cX0_countBearer 0 = .ok (.iload_n 1, 1) := by decide +kernel
theorem dX0_countBearer_1 : decode cX0_countBearer 1 = .ok (.ifCond .eq 16, 3) := by decide +kernel
theorem dX0_countBearer_4 : decode cX0_countBearer 4 = .ok (.aload_n 0, 1) := by decide +kernel
theorem dX0_countBearer_5 : decode cX0_countBearer 5 = .ok (.dup, 1) := by decide +kernel
theorem dX0_countBearer_6 : decode cX0_countBearer 6 = .ok (.getfield 24, 3) := by decide +kernel
theorem dX0_countBearer_9 : decode cX0_countBearer 9 = .ok (.iload_n 2, 1) := by decide +kernel
theorem dX0_countBearer_10 : decode cX0_countBearer 10 = .ok (.iadd, 1) := by decide +kernel
theorem dX0_countBearer_11 : decode cX0_countBearer 11 = .ok (.putfield 24, 3) := by decide +kernel
theorem dX0_countBearer_14 : decode cX0_countBearer 14 = .ok (.goto 13, 3) := by decide +kernel
theorem dX0_countBearer_17 : decode cX0_countBearer 17 = .ok (.aload_n 0, 1) := by decide +kernel
theorem dX0_countBearer_18 : decode cX0_countBearer 18 = .ok (.dup, 1) := by decide +kernel
theorem dX0_countBearer_19 : decode cX0_countBearer 19 = .ok (.getfield 27, 3) := by decide +kernel
theorem dX0_countBearer_22 : decode cX0_countBearer 22 = .ok (.iload_n 2, 1) := by decide +kernel
theorem dX0_countBearer_23 : decode cX0_countBearer 23 = .ok (.iadd, 1) := by decide +kernel
theorem dX0_countBearer_24 : decode cX0_countBearer 24 = .ok (.putfield 27, 3) := by decide +kernel
theorem dX0_countBearer_27 : decode cX0_countBearer 27 = .ok (.return_, 1) := by decide +kernel
theorem dX0_give_0 : decode cX0_give 0 = .ok (.aload_n 0, 1) := by decide +kernel
theorem dX0_give_1 : decode cX0_give 1 = .ok (.dup, 1) := by decide +kernel
theorem dX0_give_2 : decode cX0_give 2 = .ok (.getfield 20, 3) := by decide +kernel
theorem dX0_give_5 : decode cX0_give 5 = .ok (.iconst 1, 1) := by decide +kernel
theorem dX0_give_6 : decode cX0_give 6 = .ok (.iload_n 1, 1) := by decide +kernel
theorem dX0_give_7 : decode cX0_give 7 = .ok (.ishl, 1) := by decide +kernel
theorem dX0_give_8 : decode cX0_give 8 = .ok (.iconst (-1), 1) := by decide +kernel
theorem dX0_give_9 : decode cX0_give 9 = .ok (.ixor, 1) := by decide +kernel
theorem dX0_give_10 : decode cX0_give 10 = .ok (.iand, 1) := by decide +kernel
theorem dX0_give_11 : decode cX0_give 11 = .ok (.putfield 20, 3) := by decide +kernel
theorem dX0_give_14 : decode cX0_give 14 = .ok (.aload_n 0, 1) := by decide +kernel
theorem dX0_give_15 : decode cX0_give 15 = .ok (.iload_n 1, 1) := by decide +kernel
theorem dX0_give_16 : decode cX0_give 16 = .ok (.iconst (-1), 1) := by decide +kernel
theorem dX0_give_17 : decode cX0_give 17 = .ok (.invokevirtual 85, 3) := by decide +kernel
theorem dX0_give_20 : decode cX0_give 20 = .ok (.aload_n 0, 1) := by decide +kernel
theorem dX0_give_21 : decode cX0_give 21 = .ok (.iload_n 2, 1) := by decide +kernel
theorem dX0_give_22 : decode cX0_give 22 = .ok (.iconst (-1), 1) := by decide +kernel
theorem dX0_give_23 : decode cX0_give 23 = .ok (.invokevirtual 88, 3) := by decide +kernel
theorem dX0_give_26 : decode cX0_give 26 = .ok (.return_, 1) := by decide +kernel
theorem dX0_takeBack_0 : decode cX0_takeBack 0 = .ok (.aload_n 0, 1) := by decide +kernel
theorem dX0_takeBack_1 : decode cX0_takeBack 1 = .ok (.dup, 1) := by decide +kernel
theorem dX0_takeBack_2 : decode cX0_takeBack 2 = .ok (.getfield 20, 3) := by decide +kernel
theorem dX0_takeBack_5 : decode cX0_takeBack 5 = .ok (.iconst 1, 1) := by decide +kernel
theorem dX0_takeBack_6 : decode cX0_takeBack 6 = .ok (.iload_n 1, 1) := by decide +kernel
theorem dX0_takeBack_7 : decode cX0_takeBack 7 = .ok (.ishl, 1) := by decide +kernel
theorem dX0_takeBack_8 : decode cX0_takeBack 8 = .ok (.ior, 1) := by decide +kernel
theorem dX0_takeBack_9 : decode cX0_takeBack 9 = .ok (.putfield 20, 3) := by decide +kernel
theorem dX0_takeBack_12 : decode cX0_takeBack 12 = .ok (.aload_n 0, 1) := by decide +kernel
theorem dX0_takeBack_13 : decode cX0_takeBack 13 = .ok (.iload_n 1, 1) := by decide +kernel
theorem dX0_takeBack_14 : decode cX0_takeBack 14 = .ok (.iconst 1, 1) := by decide +kernel
theorem dX0_takeBack_15 : decode cX0_takeBack 15 = .ok (.invokevirtual 85, 3) := by decide +kernel
theorem dX0_takeBack_18 : decode cX0_takeBack 18 = .ok (.aload_n 0, 1) := by decide +kernel
theorem dX0_takeBack_19 : decode cX0_takeBack 19 = .ok (.iload_n 2, 1) := by decide +kernel
theorem dX0_takeBack_20 : decode cX0_takeBack 20 = .ok (.iconst 1, 1) := by decide +kernel
theorem dX0_takeBack_21 : decode cX0_takeBack 21 = .ok (.invokevirtual 88, 3) := by decide +kernel
theorem dX0_takeBack_24 : decode cX0_takeBack 24 = .ok (.return_, 1) := by decide +kernel
theorem dX0_ways_0 : decode cX0_ways 0 = .ok (.aload_n 0, 1) := by decide +kernel
theorem dX0_ways_1 : decode cX0_ways 1 = .ok (.getfield 36, 3) := by decide +kernel
theorem dX0_ways_4 : decode cX0_ways 4 = .ok (.ifCond .eq 7, 3) := by decide +kernel
theorem dX0_ways_7 : decode cX0_ways 7 = .ok (.iconst 0, 1) := by decide +kernel
theorem dX0_ways_8 : decode cX0_ways 8 = .ok (.goto 15, 3) := by decide +kernel
theorem dX0_ways_11 : decode cX0_ways 11 = .ok (.aload_n 0, 1) := by decide +kernel
theorem dX0_ways_12 : decode cX0_ways 12 = .ok (.aload_n 0, 1) := by decide +kernel
theorem dX0_ways_13 : decode cX0_ways 13 = .ok (.getfield 30, 3) := by decide +kernel
theorem dX0_ways_16 : decode cX0_ways 16 = .ok (.aload_n 0, 1) := by decide +kernel
theorem dX0_ways_17 : decode cX0_ways 17 = .ok (.getfield 33, 3) := by decide +kernel
theorem dX0_ways_20 : decode cX0_ways 20 = .ok (.invokevirtual 92, 3) := by decide +kernel
theorem dX0_ways_23 : decode cX0_ways 23 = .ok (.ireturn, 1) := by decide +kernel
theorem dX0_waysIf_0 : decode cX0_waysIf 0 = .ok (.aload_n 0, 1) := by decide +kernel
theorem dX0_waysIf_1 : decode cX0_waysIf 1 = .ok (.getfield 24, 3) := by decide +kernel
theorem dX0_waysIf_4 : decode cX0_waysIf 4 = .ok (.aload_n 0, 1) := by decide +kernel
theorem dX0_waysIf_5 : decode cX0_waysIf 5 = .ok (.getfield 27, 3) := by decide +kernel
theorem dX0_waysIf_8 : decode cX0_waysIf 8 = .ok (.iadd, 1) := by decide +kernel
theorem dX0_waysIf_9 : decode cX0_waysIf 9 = .ok (.iload_n 1, 1) := by decide +kernel
theorem dX0_waysIf_10 : decode cX0_waysIf 10 = .ok (.isub, 1) := by decide +kernel
theorem dX0_waysIf_11 : decode cX0_waysIf 11 = .ok (.iload_n 2, 1) := by decide +kernel
theorem dX0_waysIf_12 : decode cX0_waysIf 12 = .ok (.isub, 1) := by decide +kernel
theorem dX0_waysIf_13 : decode cX0_waysIf 13 = .ok (.istore_n 3, 1) := by decide +kernel
theorem dX0_waysIf_14 : decode cX0_waysIf 14 = .ok (.aload_n 0, 1) := by decide +kernel
theorem dX0_waysIf_15 : decode cX0_waysIf 15 = .ok (.getfield 24, 3) := by decide +kernel
theorem dX0_waysIf_18 : decode cX0_waysIf 18 = .ok (.iload_n 1, 1) := by decide +kernel
theorem dX0_waysIf_19 : decode cX0_waysIf 19 = .ok (.invokestatic 96, 3) := by decide +kernel
theorem dX0_waysIf_22 : decode cX0_waysIf 22 = .ok (.aload_n 0, 1) := by decide +kernel
theorem dX0_waysIf_23 : decode cX0_waysIf 23 = .ok (.getfield 27, 3) := by decide +kernel
theorem dX0_waysIf_26 : decode cX0_waysIf 26 = .ok (.iload_n 2, 1) := by decide +kernel
theorem dX0_waysIf_27 : decode cX0_waysIf 27 = .ok (.invokestatic 96, 3) := by decide +kernel
theorem dX0_waysIf_30 : decode cX0_waysIf 30 = .ok (.imul, 1) := by decide +kernel
theorem dX0_waysIf_31 : decode cX0_waysIf 31 = .ok (.iload_n 3, 1) := by decide +kernel
theorem dX0_waysIf_32 : decode cX0_waysIf 32 = .ok (.iload_n 3, 1) := by decide +kernel
theorem dX0_waysIf_33 : decode cX0_waysIf 33 = .ok (.invokestatic 96, 3) := by decide +kernel
theorem dX0_waysIf_36 : decode cX0_waysIf 36 = .ok (.imul, 1) := by decide +kernel
theorem dX0_waysIf_37 : decode cX0_waysIf 37 = .ok (.ireturn, 1) := by decide +kernel
theorem dX0_picks_0 : decode cX0_picks 0 = .ok (.iload_n 1, 1) := by decide +kernel
theorem dX0_picks_1 : decode cX0_picks 1 = .ok (.iload_n 0, 1) := by decide +kernel
theorem dX0_picks_2 : decode cX0_picks 2 = .ok (.if_icmp .le 5, 3) := by decide +kernel
theorem dX0_picks_5 : decode cX0_picks 5 = .ok (.iconst 0, 1) := by decide +kernel
theorem dX0_picks_6 : decode cX0_picks 6 = .ok (.ireturn, 1) := by decide +kernel
theorem dX0_picks_7 : decode cX0_picks 7 = .ok (.iconst 1, 1) := by decide +kernel
theorem dX0_picks_8 : decode cX0_picks 8 = .ok (.istore_n 2, 1) := by decide +kernel
theorem dX0_picks_9 : decode cX0_picks 9 = .ok (.iconst 0, 1) := by decide +kernel
theorem dX0_picks_10 : decode cX0_picks 10 = .ok (.istore_n 3, 1) := by decide +kernel
theorem dX0_picks_11 : decode cX0_picks 11 = .ok (.iload_n 3, 1) := by decide +kernel
theorem dX0_picks_12 : decode cX0_picks 12 = .ok (.iload_n 1, 1) := by decide +kernel
theorem dX0_picks_13 : decode cX0_picks 13 = .ok (.if_icmp .ge 15, 3) := by decide +kernel
theorem dX0_picks_16 : decode cX0_picks 16 = .ok (.iload_n 2, 1) := by decide +kernel
theorem dX0_picks_17 : decode cX0_picks 17 = .ok (.iload_n 0, 1) := by decide +kernel
theorem dX0_picks_18 : decode cX0_picks 18 = .ok (.iload_n 3, 1) := by decide +kernel
theorem dX0_picks_19 : decode cX0_picks 19 = .ok (.isub, 1) := by decide +kernel
theorem dX0_picks_20 : decode cX0_picks 20 = .ok (.imul, 1) := by decide +kernel
theorem dX0_picks_21 : decode cX0_picks 21 = .ok (.istore_n 2, 1) := by decide +kernel
theorem dX0_picks_22 : decode cX0_picks 22 = .ok (.iinc 3 1, 3) := by decide +kernel
theorem dX0_picks_25 : decode cX0_picks 25 = .ok (.goto (-14), 3) := by decide +kernel
theorem dX0_picks_28 : decode cX0_picks 28 = .ok (.iload_n 2, 1) := by decide +kernel
theorem dX0_picks_29 : decode cX0_picks 29 = .ok (.ireturn, 1) := by decide +kernel
theorem dX0_rowAt_0 : decode cX0_rowAt 0 = .ok (.iconst 0, 1) := by decide +kernel
theorem dX0_rowAt_1 : decode cX0_rowAt 1 = .ok (.istore_n 3, 1) := by decide +kernel
theorem dX0_rowAt_2 : decode cX0_rowAt 2 = .ok (.iload_n 2, 1) := by decide +kernel
theorem dX0_rowAt_3 : decode cX0_rowAt 3 = .ok (.istore 4, 2) := by decide +kernel
theorem dX0_rowAt_5 : decode cX0_rowAt 5 = .ok (.iconst 0, 1) := by decide +kernel
theorem dX0_rowAt_6 : decode cX0_rowAt 6 = .ok (.istore 5, 2) := by decide +kernel
theorem dX0_rowAt_8 : decode cX0_rowAt 8 = .ok (.iload 5, 2) := by decide +kernel
theorem dX0_rowAt_10 : decode cX0_rowAt 10 = .ok (.aload_n 1, 1) := by decide +kernel
theorem dX0_rowAt_11 : decode cX0_rowAt 11 = .ok (.getfield 43, 3) := by decide +kernel
theorem dX0_rowAt_14 : decode cX0_rowAt 14 = .ok (.if_icmp .ge 106, 3) := by decide +kernel
theorem dX0_rowAt_17 : decode cX0_rowAt 17 = .ok (.bipush 6, 2) := by decide +kernel
theorem dX0_rowAt_19 : decode cX0_rowAt 19 = .ok (.istore 6, 2) := by decide +kernel
theorem dX0_rowAt_21 : decode cX0_rowAt 21 = .ok (.aload_n 1, 1) := by decide +kernel
theorem dX0_rowAt_22 : decode cX0_rowAt 22 = .ok (.iload 5, 2) := by decide +kernel
theorem dX0_rowAt_24 : decode cX0_rowAt 24 = .ok (.invokevirtual 48, 3) := by decide +kernel
theorem dX0_rowAt_27 : decode cX0_rowAt 27 = .ok (.ifCond .eq 79, 3) := by decide +kernel
theorem dX0_rowAt_30 : decode cX0_rowAt 30 = .ok (.aload_n 1, 1) := by decide +kernel
theorem dX0_rowAt_31 : decode cX0_rowAt 31 = .ok (.getfield 59, 3) := by decide +kernel
theorem dX0_rowAt_34 : decode cX0_rowAt 34 = .ok (.iload 5, 2) := by decide +kernel
theorem dX0_rowAt_36 : decode cX0_rowAt 36 = .ok (.invokevirtual 55, 3) := by decide +kernel
theorem dX0_rowAt_39 : decode cX0_rowAt 39 = .ok (.iconst 1, 1) := by decide +kernel
theorem dX0_rowAt_40 : decode cX0_rowAt 40 = .ok (.if_icmp .ne 7, 3) := by decide +kernel
theorem dX0_rowAt_43 : decode cX0_rowAt 43 = .ok (.iconst 1, 1) := by decide +kernel
theorem dX0_rowAt_44 : decode cX0_rowAt 44 = .ok (.goto 4, 3) := by decide +kernel
theorem dX0_rowAt_47 : decode cX0_rowAt 47 = .ok (.iconst 0, 1) := by decide +kernel
theorem dX0_rowAt_48 : decode cX0_rowAt 48 = .ok (.istore 7, 2) := by decide +kernel
theorem dX0_rowAt_50 : decode cX0_rowAt 50 = .ok (.iconst 0, 1) := by decide +kernel
theorem dX0_rowAt_51 : decode cX0_rowAt 51 = .ok (.istore 8, 2) := by decide +kernel
theorem dX0_rowAt_53 : decode cX0_rowAt 53 = .ok (.iload 8, 2) := by decide +kernel
theorem dX0_rowAt_55 : decode cX0_rowAt 55 = .ok (.aload_n 1, 1) := by decide +kernel
theorem dX0_rowAt_56 : decode cX0_rowAt 56 = .ok (.getfield 43, 3) := by decide +kernel
theorem dX0_rowAt_59 : decode cX0_rowAt 59 = .ok (.if_icmp .ge 35, 3) := by decide +kernel
theorem dX0_rowAt_62 : decode cX0_rowAt 62 = .ok (.iload 4, 2) := by decide +kernel
theorem dX0_rowAt_64 : decode cX0_rowAt 64 = .ok (.aload_n 0, 1) := by decide +kernel
theorem dX0_rowAt_65 : decode cX0_rowAt 65 = .ok (.iload 8, 2) := by decide +kernel
theorem dX0_rowAt_67 : decode cX0_rowAt 67 = .ok (.iload 7, 2) := by decide +kernel
theorem dX0_rowAt_69 : decode cX0_rowAt 69 = .ok (.invokevirtual 99, 3) := by decide +kernel
theorem dX0_rowAt_72 : decode cX0_rowAt 72 = .ok (.if_icmp .lt 22, 3) := by decide +kernel
theorem dX0_rowAt_75 : decode cX0_rowAt 75 = .ok (.iload 4, 2) := by decide +kernel
theorem dX0_rowAt_77 : decode cX0_rowAt 77 = .ok (.aload_n 0, 1) := by decide +kernel
theorem dX0_rowAt_78 : decode cX0_rowAt 78 = .ok (.iload 8, 2) := by decide +kernel
theorem dX0_rowAt_80 : decode cX0_rowAt 80 = .ok (.iload 7, 2) := by decide +kernel
theorem dX0_rowAt_82 : decode cX0_rowAt 82 = .ok (.invokevirtual 99, 3) := by decide +kernel
theorem dX0_rowAt_85 : decode cX0_rowAt 85 = .ok (.isub, 1) := by decide +kernel
theorem dX0_rowAt_86 : decode cX0_rowAt 86 = .ok (.istore 4, 2) := by decide +kernel
theorem dX0_rowAt_88 : decode cX0_rowAt 88 = .ok (.iinc 8 1, 3) := by decide +kernel
theorem dX0_rowAt_91 : decode cX0_rowAt 91 = .ok (.goto (-38), 3) := by decide +kernel
theorem dX0_rowAt_94 : decode cX0_rowAt 94 = .ok (.aload_n 0, 1) := by decide +kernel
theorem dX0_rowAt_95 : decode cX0_rowAt 95 = .ok (.iload 8, 2) := by decide +kernel
theorem dX0_rowAt_97 : decode cX0_rowAt 97 = .ok (.iload 7, 2) := by decide +kernel
theorem dX0_rowAt_99 : decode cX0_rowAt 99 = .ok (.invokevirtual 103, 3) := by decide +kernel
theorem dX0_rowAt_102 : decode cX0_rowAt 102 = .ok (.iload 8, 2) := by decide +kernel
theorem dX0_rowAt_104 : decode cX0_rowAt 104 = .ok (.istore 6, 2) := by decide +kernel
theorem dX0_rowAt_106 : decode cX0_rowAt 106 = .ok (.bipush 10, 2) := by decide +kernel
theorem dX0_rowAt_108 : decode cX0_rowAt 108 = .ok (.iload_n 3, 1) := by decide +kernel
theorem dX0_rowAt_109 : decode cX0_rowAt 109 = .ok (.imul, 1) := by decide +kernel
theorem dX0_rowAt_110 : decode cX0_rowAt 110 = .ok (.iload 6, 2) := by decide +kernel
theorem dX0_rowAt_112 : decode cX0_rowAt 112 = .ok (.iadd, 1) := by decide +kernel
theorem dX0_rowAt_113 : decode cX0_rowAt 113 = .ok (.istore_n 3, 1) := by decide +kernel
theorem dX0_rowAt_114 : decode cX0_rowAt 114 = .ok (.iinc 5 1, 3) := by decide +kernel
theorem dX0_rowAt_117 : decode cX0_rowAt 117 = .ok (.goto (-109), 3) := by decide +kernel
theorem dX0_rowAt_120 : decode cX0_rowAt 120 = .ok (.iload_n 3, 1) := by decide +kernel
theorem dX0_rowAt_121 : decode cX0_rowAt 121 = .ok (.ireturn, 1) := by decide +kernel
theorem dX0_waysWith_0 : decode cX0_waysWith 0 = .ok (.aload_n 0, 1) := by decide +kernel
theorem dX0_waysWith_1 : decode cX0_waysWith 1 = .ok (.iload_n 1, 1) := by decide +kernel
theorem dX0_waysWith_2 : decode cX0_waysWith 2 = .ok (.iload_n 2, 1) := by decide +kernel
theorem dX0_waysWith_3 : decode cX0_waysWith 3 = .ok (.invokevirtual 106, 3) := by decide +kernel
theorem dX0_waysWith_6 : decode cX0_waysWith 6 = .ok (.ifCond .ne 5, 3) := by decide +kernel
theorem dX0_waysWith_9 : decode cX0_waysWith 9 = .ok (.iconst 0, 1) := by decide +kernel
theorem dX0_waysWith_10 : decode cX0_waysWith 10 = .ok (.ireturn, 1) := by decide +kernel
theorem dX0_waysWith_11 : decode cX0_waysWith 11 = .ok (.aload_n 0, 1) := by decide +kernel
theorem dX0_waysWith_12 : decode cX0_waysWith 12 = .ok (.iload_n 1, 1) := by decide +kernel
theorem dX0_waysWith_13 : decode cX0_waysWith 13 = .ok (.iload_n 2, 1) := by decide +kernel
theorem dX0_waysWith_14 : decode cX0_waysWith 14 = .ok (.invokevirtual 103, 3) := by decide +kernel
theorem dX0_waysWith_17 : decode cX0_waysWith 17 = .ok (.aload_n 0, 1) := by decide +kernel
theorem dX0_waysWith_18 : decode cX0_waysWith 18 = .ok (.invokevirtual 110, 3) := by decide +kernel
theorem dX0_waysWith_21 : decode cX0_waysWith 21 = .ok (.istore_n 3, 1) := by decide +kernel
theorem dX0_waysWith_22 : decode cX0_waysWith 22 = .ok (.aload_n 0, 1) := by decide +kernel
theorem dX0_waysWith_23 : decode cX0_waysWith 23 = .ok (.iload_n 1, 1) := by decide +kernel
theorem dX0_waysWith_24 : decode cX0_waysWith 24 = .ok (.iload_n 2, 1) := by decide +kernel
theorem dX0_waysWith_25 : decode cX0_waysWith 25 = .ok (.invokevirtual 62, 3) := by decide +kernel
theorem dX0_waysWith_28 : decode cX0_waysWith 28 = .ok (.iload_n 3, 1) := by decide +kernel
theorem dX0_waysWith_29 : decode cX0_waysWith 29 = .ok (.ireturn, 1) := by decide +kernel
theorem dX0_namesFor_0 : decode cX0_namesFor 0 = .ok (.iconst 0, 1) := by decide +kernel
theorem dX0_namesFor_1 : decode cX0_namesFor 1 = .ok (.istore_n 3, 1) := by decide +kernel
theorem dX0_namesFor_2 : decode cX0_namesFor 2 = .ok (.iconst 0, 1) := by decide +kernel
theorem dX0_namesFor_3 : decode cX0_namesFor 3 = .ok (.istore 4, 2) := by decide +kernel
theorem dX0_namesFor_5 : decode cX0_namesFor 5 = .ok (.iload 4, 2) := by decide +kernel
theorem dX0_namesFor_7 : decode cX0_namesFor 7 = .ok (.aload_n 1, 1) := by decide +kernel
theorem dX0_namesFor_8 : decode cX0_namesFor 8 = .ok (.getfield 43, 3) := by decide +kernel
theorem dX0_namesFor_11 : decode cX0_namesFor 11 = .ok (.if_icmp .ge 42, 3) := by decide +kernel
theorem dX0_namesFor_14 : decode cX0_namesFor 14 = .ok (.aload_n 0, 1) := by decide +kernel
theorem dX0_namesFor_15 : decode cX0_namesFor 15 = .ok (.iload 4, 2) := by decide +kernel
theorem dX0_namesFor_17 : decode cX0_namesFor 17 = .ok (.aload_n 1, 1) := by decide +kernel
theorem dX0_namesFor_18 : decode cX0_namesFor 18 = .ok (.getfield 59, 3) := by decide +kernel
theorem dX0_namesFor_21 : decode cX0_namesFor 21 = .ok (.iload_n 2, 1) := by decide +kernel
theorem dX0_namesFor_22 : decode cX0_namesFor 22 = .ok (.invokevirtual 55, 3) := by decide +kernel
theorem dX0_namesFor_25 : decode cX0_namesFor 25 = .ok (.iconst 1, 1) := by decide +kernel
theorem dX0_namesFor_26 : decode cX0_namesFor 26 = .ok (.if_icmp .ne 7, 3) := by decide +kernel
theorem dX0_namesFor_29 : decode cX0_namesFor 29 = .ok (.iconst 1, 1) := by decide +kernel
theorem dX0_namesFor_30 : decode cX0_namesFor 30 = .ok (.goto 4, 3) := by decide +kernel
theorem dX0_namesFor_33 : decode cX0_namesFor 33 = .ok (.iconst 0, 1) := by decide +kernel
theorem dX0_namesFor_34 : decode cX0_namesFor 34 = .ok (.invokevirtual 99, 3) := by decide +kernel
theorem dX0_namesFor_37 : decode cX0_namesFor 37 = .ok (.ifCond .le 10, 3) := by decide +kernel
theorem dX0_namesFor_40 : decode cX0_namesFor 40 = .ok (.iload_n 3, 1) := by decide +kernel
theorem dX0_namesFor_41 : decode cX0_namesFor 41 = .ok (.iconst 1, 1) := by decide +kernel
theorem dX0_namesFor_42 : decode cX0_namesFor 42 = .ok (.iload 4, 2) := by decide +kernel
theorem dX0_namesFor_44 : decode cX0_namesFor 44 = .ok (.ishl, 1) := by decide +kernel
theorem dX0_namesFor_45 : decode cX0_namesFor 45 = .ok (.ior, 1) := by decide +kernel
theorem dX0_namesFor_46 : decode cX0_namesFor 46 = .ok (.istore_n 3, 1) := by decide +kernel
theorem dX0_namesFor_47 : decode cX0_namesFor 47 = .ok (.iinc 4 1, 3) := by decide +kernel
theorem dX0_namesFor_50 : decode cX0_namesFor 50 = .ok (.goto (-45), 3) := by decide +kernel
theorem dX0_namesFor_53 : decode cX0_namesFor 53 = .ok (.iload_n 3, 1) := by decide +kernel
theorem dX0_namesFor_54 : decode cX0_namesFor 54 = .ok (.ireturn, 1) := by decide +kernel
theorem dX0_nameToHear_0 : decode cX0_nameToHear 0 = .ok (.bipush (-6), 2) := by decide +kernel
theorem dX0_nameToHear_2 : decode cX0_nameToHear 2 = .ok (.istore_n 2, 1) := by decide +kernel
theorem dX0_nameToHear_3 : decode cX0_nameToHear 3 = .ok (.iconst 0, 1) := by decide +kernel
theorem dX0_nameToHear_4 : decode cX0_nameToHear 4 = .ok (.istore_n 3, 1) := by decide +kernel
theorem dX0_nameToHear_5 : decode cX0_nameToHear 5 = .ok (.iload_n 3, 1) := by decide +kernel
theorem dX0_nameToHear_6 : decode cX0_nameToHear 6 = .ok (.iload_n 1, 1) := by decide +kernel
theorem dX0_nameToHear_7 : decode cX0_nameToHear 7 = .ok (.if_icmp .ge 57, 3) := by decide +kernel
theorem dX0_nameToHear_10 : decode cX0_nameToHear 10 = .ok (.iload_n 2, 1) := by decide +kernel
theorem dX0_nameToHear_11 : decode cX0_nameToHear 11 = .ok (.bipush (-6), 2) := by decide +kernel
theorem dX0_nameToHear_13 : decode cX0_nameToHear 13 = .ok (.if_icmp .eq 16, 3) := by decide +kernel
theorem dX0_nameToHear_16 : decode cX0_nameToHear 16 = .ok (.aload_n 0, 1) := by decide +kernel
theorem dX0_nameToHear_17 : decode cX0_nameToHear 17 = .ok (.iload_n 3, 1) := by decide +kernel
theorem dX0_nameToHear_18 : decode cX0_nameToHear 18 = .ok (.invokevirtual 114, 3) := by decide +kernel
theorem dX0_nameToHear_21 : decode cX0_nameToHear 21 = .ok (.aload_n 0, 1) := by decide +kernel
theorem dX0_nameToHear_22 : decode cX0_nameToHear 22 = .ok (.iload_n 2, 1) := by decide +kernel
theorem dX0_nameToHear_23 : decode cX0_nameToHear 23 = .ok (.invokevirtual 114, 3) := by decide +kernel
theorem dX0_nameToHear_26 : decode cX0_nameToHear 26 = .ok (.if_icmp .ge 7, 3) := by decide +kernel
theorem dX0_nameToHear_29 : decode cX0_nameToHear 29 = .ok (.iconst 1, 1) := by decide +kernel
theorem dX0_nameToHear_30 : decode cX0_nameToHear 30 = .ok (.goto 4, 3) := by decide +kernel
theorem dX0_nameToHear_33 : decode cX0_nameToHear 33 = .ok (.iconst 0, 1) := by decide +kernel
theorem dX0_nameToHear_34 : decode cX0_nameToHear 34 = .ok (.istore 4, 2) := by decide +kernel
theorem dX0_nameToHear_36 : decode cX0_nameToHear 36 = .ok (.aload_n 0, 1) := by decide +kernel
theorem dX0_nameToHear_37 : decode cX0_nameToHear 37 = .ok (.invokevirtual 110, 3) := by decide +kernel
theorem dX0_nameToHear_40 : decode cX0_nameToHear 40 = .ok (.ifCond .le 18, 3) := by decide +kernel
theorem dX0_nameToHear_43 : decode cX0_nameToHear 43 = .ok (.aload_n 0, 1) := by decide +kernel
theorem dX0_nameToHear_44 : decode cX0_nameToHear 44 = .ok (.iload_n 3, 1) := by decide +kernel
theorem dX0_nameToHear_45 : decode cX0_nameToHear 45 = .ok (.invokevirtual 78, 3) := by decide +kernel
theorem dX0_nameToHear_48 : decode cX0_nameToHear 48 = .ok (.ifCond .eq 10, 3) := by decide +kernel
theorem dX0_nameToHear_51 : decode cX0_nameToHear 51 = .ok (.iload 4, 2) := by decide +kernel
theorem dX0_nameToHear_53 : decode cX0_nameToHear 53 = .ok (.ifCond .eq 5, 3) := by decide +kernel
theorem dX0_nameToHear_56 : decode cX0_nameToHear 56 = .ok (.iload_n 3, 1) := by decide +kernel
theorem dX0_nameToHear_57 : decode cX0_nameToHear 57 = .ok (.istore_n 2, 1) := by decide +kernel
theorem dX0_nameToHear_58 : decode cX0_nameToHear 58 = .ok (.iinc 3 1, 3) := by decide +kernel
theorem dX0_nameToHear_61 : decode cX0_nameToHear 61 = .ok (.goto (-56), 3) := by decide +kernel
theorem dX0_nameToHear_64 : decode cX0_nameToHear 64 = .ok (.iload_n 2, 1) := by decide +kernel
theorem dX0_nameToHear_65 : decode cX0_nameToHear 65 = .ok (.ireturn, 1) := by decide +kernel
theorem dX0_mostLeftBy_0 : decode cX0_mostLeftBy 0 = .ok (.aload_n 0, 1) := by decide +kernel
theorem dX0_mostLeftBy_1 : decode cX0_mostLeftBy 1 = .ok (.invokevirtual 110, 3) := by decide +kernel
theorem dX0_mostLeftBy_4 : decode cX0_mostLeftBy 4 = .ok (.istore_n 2, 1) := by decide +kernel
theorem dX0_mostLeftBy_5 : decode cX0_mostLeftBy 5 = .ok (.aload_n 0, 1) := by decide +kernel
theorem dX0_mostLeftBy_6 : decode cX0_mostLeftBy 6 = .ok (.getfield 14, 3) := by decide +kernel
theorem dX0_mostLeftBy_9 : decode cX0_mostLeftBy 9 = .ok (.iload_n 1, 1) := by decide +kernel
theorem dX0_mostLeftBy_10 : decode cX0_mostLeftBy 10 = .ok (.invokevirtual 55, 3) := by decide +kernel
theorem dX0_mostLeftBy_13 : decode cX0_mostLeftBy 13 = .ok (.ifCond .ne 10, 3) := by decide +kernel
theorem dX0_mostLeftBy_16 : decode cX0_mostLeftBy 16 = .ok (.aload_n 0, 1) := by decide +kernel
theorem dX0_mostLeftBy_17 : decode cX0_mostLeftBy 17 = .ok (.getfield 36, 3) := by decide +kernel
theorem dX0_mostLeftBy_20 : decode cX0_mostLeftBy 20 = .ok (.ifCond .eq 5, 3) := by decide +kernel
theorem dX0_mostLeftBy_23 : decode cX0_mostLeftBy 23 = .ok (.iload_n 2, 1) := by decide +kernel
theorem dX0_mostLeftBy_24 : decode cX0_mostLeftBy 24 = .ok (.ireturn, 1) := by decide +kernel
theorem dX0_mostLeftBy_25 : decode cX0_mostLeftBy 25 = .ok (.aload_n 0, 1) := by decide +kernel
theorem dX0_mostLeftBy_26 : decode cX0_mostLeftBy 26 = .ok (.aload_n 0, 1) := by decide +kernel
theorem dX0_mostLeftBy_27 : decode cX0_mostLeftBy 27 = .ok (.getfield 30, 3) := by decide +kernel
theorem dX0_mostLeftBy_30 : decode cX0_mostLeftBy 30 = .ok (.iconst 1, 1) := by decide +kernel
theorem dX0_mostLeftBy_31 : decode cX0_mostLeftBy 31 = .ok (.iadd, 1) := by decide +kernel
theorem dX0_mostLeftBy_32 : decode cX0_mostLeftBy 32 = .ok (.aload_n 0, 1) := by decide +kernel
theorem dX0_mostLeftBy_33 : decode cX0_mostLeftBy 33 = .ok (.getfield 33, 3) := by decide +kernel
theorem dX0_mostLeftBy_36 : decode cX0_mostLeftBy 36 = .ok (.invokevirtual 92, 3) := by decide +kernel
theorem dX0_mostLeftBy_39 : decode cX0_mostLeftBy 39 = .ok (.istore_n 3, 1) := by decide +kernel
theorem dX0_mostLeftBy_40 : decode cX0_mostLeftBy 40 = .ok (.iload_n 3, 1) := by decide +kernel
theorem dX0_mostLeftBy_41 : decode cX0_mostLeftBy 41 = .ok (.iload_n 2, 1) := by decide +kernel
theorem dX0_mostLeftBy_42 : decode cX0_mostLeftBy 42 = .ok (.iload_n 3, 1) := by decide +kernel
theorem dX0_mostLeftBy_43 : decode cX0_mostLeftBy 43 = .ok (.isub, 1) := by decide +kernel
theorem dX0_mostLeftBy_44 : decode cX0_mostLeftBy 44 = .ok (.invokestatic 117, 3) := by decide +kernel
theorem dX0_mostLeftBy_47 : decode cX0_mostLeftBy 47 = .ok (.ireturn, 1) := by decide +kernel
theorem dX1_init_0 : decode cX1_init 0 = .ok (.aload_n 0, 1) := by decide +kernel
theorem dX1_init_1 : decode cX1_init 1 = .ok (.invokespecial 3, 3) := by decide +kernel
theorem dX1_init_4 : decode cX1_init 4 = .ok (.aload_n 0, 1) := by decide +kernel
theorem dX1_init_5 : decode cX1_init 5 = .ok (.new 9, 3) := by decide +kernel
theorem dX1_init_8 : decode cX1_init 8 = .ok (.dup, 1) := by decide +kernel
theorem dX1_init_9 : decode cX1_init 9 = .ok (.bipush 60, 2) := by decide +kernel
theorem dX1_init_11 : decode cX1_init 11 = .ok (.invokespecial 11, 3) := by decide +kernel
theorem dX1_init_14 : decode cX1_init 14 = .ok (.putfield 14, 3) := by decide +kernel
theorem dX1_init_17 : decode cX1_init 17 = .ok (.return_, 1) := by decide +kernel
theorem dX1_add_0 : decode cX1_add 0 = .ok (.aload_n 0, 1) := by decide +kernel
theorem dX1_add_1 : decode cX1_add 1 = .ok (.getfield 14, 3) := by decide +kernel
theorem dX1_add_4 : decode cX1_add 4 = .ok (.aload_n 0, 1) := by decide +kernel
theorem dX1_add_5 : decode cX1_add 5 = .ok (.getfield 20, 3) := by decide +kernel
theorem dX1_add_8 : decode cX1_add 8 = .ok (.iload_n 1, 1) := by decide +kernel
theorem dX1_add_9 : decode cX1_add 9 = .ok (.invokevirtual 24, 3) := by decide +kernel
theorem dX1_add_12 : decode cX1_add 12 = .ok (.aload_n 0, 1) := by decide +kernel
theorem dX1_add_13 : decode cX1_add 13 = .ok (.dup, 1) := by decide +kernel
theorem dX1_add_14 : decode cX1_add 14 = .ok (.getfield 20, 3) := by decide +kernel
theorem dX1_add_17 : decode cX1_add 17 = .ok (.iconst 1, 1) := by decide +kernel
theorem dX1_add_18 : decode cX1_add 18 = .ok (.iadd, 1) := by decide +kernel
theorem dX1_add_19 : decode cX1_add 19 = .ok (.putfield 20, 3) := by decide +kernel
theorem dX1_add_22 : decode cX1_add 22 = .ok (.aload_n 0, 1) := by decide +kernel
theorem dX1_add_23 : decode cX1_add 23 = .ok (.getfield 20, 3) := by decide +kernel
theorem dX1_add_26 : decode cX1_add 26 = .ok (.ireturn, 1) := by decide +kernel
theorem dX1_clear_0 : decode cX1_clear 0 = .ok (.aload_n 0, 1) := by decide +kernel
theorem dX1_clear_1 : decode cX1_clear 1 = .ok (.getfield 20, 3) := by decide +kernel
theorem dX1_clear_4 : decode cX1_clear 4 = .ok (.istore_n 1, 1) := by decide +kernel
theorem dX1_clear_5 : decode cX1_clear 5 = .ok (.aload_n 0, 1) := by decide +kernel
theorem dX1_clear_6 : decode cX1_clear 6 = .ok (.iconst 0, 1) := by decide +kernel
theorem dX1_clear_7 : decode cX1_clear 7 = .ok (.putfield 20, 3) := by decide +kernel
theorem dX1_clear_10 : decode cX1_clear 10 = .ok (.iload_n 1, 1) := by decide +kernel
theorem dX1_clear_11 : decode cX1_clear 11 = .ok (.ireturn, 1) := by decide +kernel
theorem dX1_firstFault_0 : decode cX1_firstFault 0 = .ok (.iconst 0, 1) := by decide +kernel
theorem dX1_firstFault_1 : decode cX1_firstFault 1 = .ok (.istore_n 2, 1) := by decide +kernel
theorem dX1_firstFault_2 : decode cX1_firstFault 2 = .ok (.iload_n 2, 1) := by decide +kernel
theorem dX1_firstFault_3 : decode cX1_firstFault 3 = .ok (.aload_n 0, 1) := by decide +kernel
theorem dX1_firstFault_4 : decode cX1_firstFault 4 = .ok (.getfield 20, 3) := by decide +kernel
theorem dX1_firstFault_7 : decode cX1_firstFault 7 = .ok (.if_icmp .ge 93, 3) := by decide +kernel
theorem dX1_firstFault_10 : decode cX1_firstFault 10 = .ok (.aload_n 0, 1) := by decide +kernel
theorem dX1_firstFault_11 : decode cX1_firstFault 11 = .ok (.getfield 14, 3) := by decide +kernel
theorem dX1_firstFault_14 : decode cX1_firstFault 14 = .ok (.iload_n 2, 1) := by decide +kernel
theorem dX1_firstFault_15 : decode cX1_firstFault 15 = .ok (.invokevirtual 28, 3) := by decide +kernel
theorem dX1_firstFault_18 : decode cX1_firstFault 18 = .ok (.istore_n 3, 1) := by decide +kernel
theorem dX1_firstFault_19 : decode cX1_firstFault 19 = .ok (.iload_n 3, 1) := by decide +kernel
theorem dX1_firstFault_20 : decode cX1_firstFault 20 = .ok (.invokestatic 32, 3) := by decide +kernel
theorem dX1_firstFault_23 : decode cX1_firstFault 23 = .ok (.ifCond .eq 9, 3) := by decide +kernel
theorem dX1_firstFault_26 : decode cX1_firstFault 26 = .ok (.iinc 2 1, 3) := by decide +kernel
theorem dX1_firstFault_29 : decode cX1_firstFault 29 = .ok (.goto 68, 3) := by decide +kernel
theorem dX1_firstFault_32 : decode cX1_firstFault 32 = .ok (.iload_n 3, 1) := by decide +kernel
theorem dX1_firstFault_33 : decode cX1_firstFault 33 = .ok (.iload_n 1, 1) := by decide +kernel
theorem dX1_firstFault_34 : decode cX1_firstFault 34 = .ok (.invokestatic 36, 3) := by decide +kernel
theorem dX1_firstFault_37 : decode cX1_firstFault 37 = .ok (.ifCond .ne 5, 3) := by decide +kernel
theorem dX1_firstFault_40 : decode cX1_firstFault 40 = .ok (.iload_n 2, 1) := by decide +kernel
theorem dX1_firstFault_41 : decode cX1_firstFault 41 = .ok (.ireturn, 1) := by decide +kernel
theorem dX1_firstFault_42 : decode cX1_firstFault 42 = .ok (.iload_n 2, 1) := by decide +kernel
theorem dX1_firstFault_43 : decode cX1_firstFault 43 = .ok (.iconst 1, 1) := by decide +kernel
theorem dX1_firstFault_44 : decode cX1_firstFault 44 = .ok (.iadd, 1) := by decide +kernel
theorem dX1_firstFault_45 : decode cX1_firstFault 45 = .ok (.aload_n 0, 1) := by decide +kernel
theorem dX1_firstFault_46 : decode cX1_firstFault 46 = .ok (.getfield 20, 3) := by decide +kernel
theorem dX1_firstFault_49 : decode cX1_firstFault 49 = .ok (.if_icmp .lt 8, 3) := by decide +kernel
theorem dX1_firstFault_52 : decode cX1_firstFault 52 = .ok (.aload_n 0, 1) := by decide +kernel
theorem dX1_firstFault_53 : decode cX1_firstFault 53 = .ok (.getfield 20, 3) := by decide +kernel
theorem dX1_firstFault_56 : decode cX1_firstFault 56 = .ok (.ireturn, 1) := by decide +kernel
theorem dX1_firstFault_57 : decode cX1_firstFault 57 = .ok (.aload_n 0, 1) := by decide +kernel
theorem dX1_firstFault_58 : decode cX1_firstFault 58 = .ok (.getfield 14, 3) := by decide +kernel
theorem dX1_firstFault_61 : decode cX1_firstFault 61 = .ok (.iload_n 2, 1) := by decide +kernel
theorem dX1_firstFault_62 : decode cX1_firstFault 62 = .ok (.iconst 1, 1) := by decide +kernel
theorem dX1_firstFault_63 : decode cX1_firstFault 63 = .ok (.iadd, 1) := by decide +kernel
theorem dX1_firstFault_64 : decode cX1_firstFault 64 = .ok (.invokevirtual 28, 3) := by decide +kernel
theorem dX1_firstFault_67 : decode cX1_firstFault 67 = .ok (.invokestatic 40, 3) := by decide +kernel
theorem dX1_firstFault_70 : decode cX1_firstFault 70 = .ok (.ifCond .ne 24, 3) := by decide +kernel
theorem dX1_firstFault_73 : decode cX1_firstFault 73 = .ok (.aload_n 0, 1) := by decide +kernel
theorem dX1_firstFault_74 : decode cX1_firstFault 74 = .ok (.getfield 14, 3) := by decide +kernel
theorem dX1_firstFault_77 : decode cX1_firstFault 77 = .ok (.iload_n 2, 1) := by decide +kernel
theorem dX1_firstFault_78 : decode cX1_firstFault 78 = .ok (.iconst 1, 1) := by decide +kernel
theorem dX1_firstFault_79 : decode cX1_firstFault 79 = .ok (.iadd, 1) := by decide +kernel
theorem dX1_firstFault_80 : decode cX1_firstFault 80 = .ok (.invokevirtual 28, 3) := by decide +kernel
theorem dX1_firstFault_83 : decode cX1_firstFault 83 = .ok (.iload_n 1, 1) := by decide +kernel
theorem dX1_firstFault_84 : decode cX1_firstFault 84 = .ok (.invokestatic 36, 3) := by decide +kernel
theorem dX1_firstFault_87 : decode cX1_firstFault 87 = .ok (.ifCond .ne 7, 3) := by decide +kernel
theorem dX1_firstFault_90 : decode cX1_firstFault 90 = .ok (.iload_n 2, 1) := by decide +kernel
theorem dX1_firstFault_91 : decode cX1_firstFault 91 = .ok (.iconst 1, 1) := by decide +kernel
theorem dX1_firstFault_92 : decode cX1_firstFault 92 = .ok (.iadd, 1) := by decide +kernel
theorem dX1_firstFault_93 : decode cX1_firstFault 93 = .ok (.ireturn, 1) := by decide +kernel
theorem dX1_firstFault_94 : decode cX1_firstFault 94 = .ok (.iinc 2 2, 3) := by decide +kernel
theorem dX1_firstFault_97 : decode cX1_firstFault 97 = .ok (.goto (-95), 3) := by decide +kernel
theorem dX1_firstFault_100 : decode cX1_firstFault 100 = .ok (.bipush (-6), 2) := by decide +kernel
theorem dX1_firstFault_102 : decode cX1_firstFault 102 = .ok (.ireturn, 1) := by decide +kernel
theorem dX1_isTime_0 : decode cX1_isTime 0 = .ok (.iload_n 0, 1) := by decide +kernel
theorem dX1_isTime_1 : decode cX1_isTime 1 = .ok (.bipush 46, 2) := by decide +kernel
theorem dX1_isTime_3 : decode cX1_isTime 3 = .ok (.if_icmp .eq 15, 3) := by decide +kernel
theorem dX1_isTime_6 : decode cX1_isTime 6 = .ok (.iload_n 0, 1) := by decide +kernel
theorem dX1_isTime_7 : decode cX1_isTime 7 = .ok (.bipush 58, 2) := by decide +kernel
theorem dX1_isTime_9 : decode cX1_isTime 9 = .ok (.if_icmp .eq 9, 3) := by decide +kernel
theorem dX1_isTime_12 : decode cX1_isTime 12 = .ok (.iload_n 0, 1) := by decide +kernel
theorem dX1_isTime_13 : decode cX1_isTime 13 = .ok (.bipush 59, 2) := by decide +kernel
theorem dX1_isTime_15 : decode cX1_isTime 15 = .ok (.if_icmp .ne 7, 3) := by decide +kernel
theorem dX1_isTime_18 : decode cX1_isTime 18 = .ok (.iconst 1, 1) := by decide +kernel
theorem dX1_isTime_19 : decode cX1_isTime 19 = .ok (.goto 4, 3) := by decide +kernel
theorem dX1_isTime_22 : decode cX1_isTime 22 = .ok (.iconst 0, 1) := by decide +kernel
theorem dX1_isTime_23 : decode cX1_isTime 23 = .ok (.ireturn, 1) := by decide +kernel
theorem dX1_isFate_0 : decode cX1_isFate 0 = .ok (.iload_n 0, 1) := by decide +kernel
theorem dX1_isFate_1 : decode cX1_isFate 1 = .ok (.bipush 115, 2) := by decide +kernel
theorem dX1_isFate_3 : decode cX1_isFate 3 = .ok (.if_icmp .eq 15, 3) := by decide +kernel
theorem dX1_isFate_6 : decode cX1_isFate 6 = .ok (.iload_n 0, 1) := by decide +kernel
theorem dX1_isFate_7 : decode cX1_isFate 7 = .ok (.bipush 100, 2) := by decide +kernel
theorem dX1_isFate_9 : decode cX1_isFate 9 = .ok (.if_icmp .eq 9, 3) := by decide +kernel
theorem dX1_isFate_12 : decode cX1_isFate 12 = .ok (.iload_n 0, 1) := by decide +kernel
theorem dX1_isFate_13 : decode cX1_isFate 13 = .ok (.bipush 109, 2) := by decide +kernel
theorem dX1_isFate_15 : decode cX1_isFate 15 = .ok (.if_icmp .ne 7, 3) := by decide +kernel
theorem dX1_isFate_18 : decode cX1_isFate 18 = .ok (.iconst 1, 1) := by decide +kernel
theorem dX1_isFate_19 : decode cX1_isFate 19 = .ok (.goto 4, 3) := by decide +kernel
theorem dX1_isFate_22 : decode cX1_isFate 22 = .ok (.iconst 0, 1) := by decide +kernel
theorem dX1_isFate_23 : decode cX1_isFate 23 = .ok (.ireturn, 1) := by decide +kernel
theorem dX1_isChild_0 : decode cX1_isChild 0 = .ok (.iload_n 0, 1) := by decide +kernel
theorem dX1_isChild_1 : decode cX1_isChild 1 = .ok (.bipush 65, 2) := by decide +kernel
theorem dX1_isChild_3 : decode cX1_isChild 3 = .ok (.if_icmp .lt 15, 3) := by decide +kernel
theorem dX1_isChild_6 : decode cX1_isChild 6 = .ok (.iload_n 0, 1) := by decide +kernel
theorem dX1_isChild_7 : decode cX1_isChild 7 = .ok (.bipush 65, 2) := by decide +kernel
theorem dX1_isChild_9 : decode cX1_isChild 9 = .ok (.iload_n 1, 1) := by decide +kernel
theorem dX1_isChild_10 : decode cX1_isChild 10 = .ok (.iadd, 1) := by decide +kernel
theorem dX1_isChild_11 : decode cX1_isChild 11 = .ok (.if_icmp .ge 7, 3) := by decide +kernel
theorem dX1_isChild_14 : decode cX1_isChild 14 = .ok (.iconst 1, 1) := by decide +kernel
theorem dX1_isChild_15 : decode cX1_isChild 15 = .ok (.goto 4, 3) := by decide +kernel
theorem dX1_isChild_18 : decode cX1_isChild 18 = .ok (.iconst 0, 1) := by decide +kernel
theorem dX1_isChild_19 : decode cX1_isChild 19 = .ok (.ireturn, 1) := by decide +kernel
theorem dX2_init_0 : decode cX2_init 0 = .ok (.aload_n 0, 1) := by decide +kernel
theorem dX2_init_1 : decode cX2_init 1 = .ok (.invokespecial 3, 3) := by decide +kernel
theorem dX2_init_4 : decode cX2_init 4 = .ok (.aload_n 0, 1) := by decide +kernel
theorem dX2_init_5 : decode cX2_init 5 = .ok (.new 9, 3) := by decide +kernel
theorem dX2_init_8 : decode cX2_init 8 = .ok (.dup, 1) := by decide +kernel
theorem dX2_init_9 : decode cX2_init 9 = .ok (.bipush 6, 2) := by decide +kernel
theorem dX2_init_11 : decode cX2_init 11 = .ok (.invokespecial 11, 3) := by decide +kernel
theorem dX2_init_14 : decode cX2_init 14 = .ok (.putfield 14, 3) := by decide +kernel
theorem dX2_init_17 : decode cX2_init 17 = .ok (.aload_n 0, 1) := by decide +kernel
theorem dX2_init_18 : decode cX2_init 18 = .ok (.new 9, 3) := by decide +kernel
theorem dX2_init_21 : decode cX2_init 21 = .ok (.dup, 1) := by decide +kernel
theorem dX2_init_22 : decode cX2_init 22 = .ok (.bipush 6, 2) := by decide +kernel
theorem dX2_init_24 : decode cX2_init 24 = .ok (.invokespecial 11, 3) := by decide +kernel
theorem dX2_init_27 : decode cX2_init 27 = .ok (.putfield 20, 3) := by decide +kernel
theorem dX2_init_30 : decode cX2_init 30 = .ok (.aload_n 0, 1) := by decide +kernel
theorem dX2_init_31 : decode cX2_init 31 = .ok (.new 9, 3) := by decide +kernel
theorem dX2_init_34 : decode cX2_init 34 = .ok (.dup, 1) := by decide +kernel
theorem dX2_init_35 : decode cX2_init 35 = .ok (.bipush 6, 2) := by decide +kernel
theorem dX2_init_37 : decode cX2_init 37 = .ok (.invokespecial 11, 3) := by decide +kernel
theorem dX2_init_40 : decode cX2_init 40 = .ok (.putfield 23, 3) := by decide +kernel
theorem dX2_init_43 : decode cX2_init 43 = .ok (.aload_n 0, 1) := by decide +kernel
theorem dX2_init_44 : decode cX2_init 44 = .ok (.new 9, 3) := by decide +kernel
theorem dX2_init_47 : decode cX2_init 47 = .ok (.dup, 1) := by decide +kernel
theorem dX2_init_48 : decode cX2_init 48 = .ok (.bipush 6, 2) := by decide +kernel
theorem dX2_init_50 : decode cX2_init 50 = .ok (.invokespecial 11, 3) := by decide +kernel
theorem dX2_init_53 : decode cX2_init 53 = .ok (.putfield 26, 3) := by decide +kernel
theorem dX2_init_56 : decode cX2_init 56 = .ok (.aload_n 0, 1) := by decide +kernel
theorem dX2_init_57 : decode cX2_init 57 = .ok (.new 9, 3) := by decide +kernel
theorem dX2_init_60 : decode cX2_init 60 = .ok (.dup, 1) := by decide +kernel
theorem dX2_init_61 : decode cX2_init 61 = .ok (.bipush 6, 2) := by decide +kernel
theorem dX2_init_63 : decode cX2_init 63 = .ok (.invokespecial 11, 3) := by decide +kernel
theorem dX2_init_66 : decode cX2_init 66 = .ok (.putfield 29, 3) := by decide +kernel
theorem dX2_init_69 : decode cX2_init 69 = .ok (.aload_n 0, 1) := by decide +kernel
theorem dX2_init_70 : decode cX2_init 70 = .ok (.new 9, 3) := by decide +kernel
theorem dX2_init_73 : decode cX2_init 73 = .ok (.dup, 1) := by decide +kernel
theorem dX2_init_74 : decode cX2_init 74 = .ok (.bipush 6, 2) := by decide +kernel
theorem dX2_init_76 : decode cX2_init 76 = .ok (.invokespecial 11, 3) := by decide +kernel
theorem dX2_init_79 : decode cX2_init 79 = .ok (.putfield 32, 3) := by decide +kernel
theorem dX2_init_82 : decode cX2_init 82 = .ok (.aload_n 0, 1) := by decide +kernel
theorem dX2_init_83 : decode cX2_init 83 = .ok (.new 9, 3) := by decide +kernel
theorem dX2_init_86 : decode cX2_init 86 = .ok (.dup, 1) := by decide +kernel
theorem dX2_init_87 : decode cX2_init 87 = .ok (.bipush 8, 2) := by decide +kernel
theorem dX2_init_89 : decode cX2_init 89 = .ok (.invokespecial 11, 3) := by decide +kernel
theorem dX2_init_92 : decode cX2_init 92 = .ok (.putfield 35, 3) := by decide +kernel
theorem dX2_init_95 : decode cX2_init 95 = .ok (.aload_n 0, 1) := by decide +kernel
theorem dX2_init_96 : decode cX2_init 96 = .ok (.new 9, 3) := by decide +kernel
theorem dX2_init_99 : decode cX2_init 99 = .ok (.dup, 1) := by decide +kernel
theorem dX2_init_100 : decode cX2_init 100 = .ok (.bipush 8, 2) := by decide +kernel
theorem dX2_init_102 : decode cX2_init 102 = .ok (.invokespecial 11, 3) := by decide +kernel
theorem dX2_init_105 : decode cX2_init 105 = .ok (.putfield 38, 3) := by decide +kernel
theorem dX2_init_108 : decode cX2_init 108 = .ok (.return_, 1) := by decide +kernel
theorem dX2_startAnew_0 : decode cX2_startAnew 0 = .ok (.aload_n 0, 1) := by decide +kernel
theorem dX2_startAnew_1 : decode cX2_startAnew 1 = .ok (.iload_n 1, 1) := by decide +kernel
theorem dX2_startAnew_2 : decode cX2_startAnew 2 = .ok (.putfield 41, 3) := by decide +kernel
theorem dX2_startAnew_5 : decode cX2_startAnew 5 = .ok (.aload_n 0, 1) := by decide +kernel
theorem dX2_startAnew_6 : decode cX2_startAnew 6 = .ok (.iconst 0, 1) := by decide +kernel
theorem dX2_startAnew_7 : decode cX2_startAnew 7 = .ok (.putfield 45, 3) := by decide +kernel
theorem dX2_startAnew_10 : decode cX2_startAnew 10 = .ok (.aload_n 0, 1) := by decide +kernel
theorem dX2_startAnew_11 : decode cX2_startAnew 11 = .ok (.iconst 0, 1) := by decide +kernel
theorem dX2_startAnew_12 : decode cX2_startAnew 12 = .ok (.putfield 48, 3) := by decide +kernel
theorem dX2_startAnew_15 : decode cX2_startAnew 15 = .ok (.aload_n 0, 1) := by decide +kernel
theorem dX2_startAnew_16 : decode cX2_startAnew 16 = .ok (.iconst 0, 1) := by decide +kernel
theorem dX2_startAnew_17 : decode cX2_startAnew 17 = .ok (.putfield 51, 3) := by decide +kernel
theorem dX2_startAnew_20 : decode cX2_startAnew 20 = .ok (.aload_n 0, 1) := by decide +kernel
theorem dX2_startAnew_21 : decode cX2_startAnew 21 = .ok (.iconst 0, 1) := by decide +kernel
theorem dX2_startAnew_22 : decode cX2_startAnew 22 = .ok (.putfield 54, 3) := by decide +kernel
theorem dX2_startAnew_25 : decode cX2_startAnew 25 = .ok (.aload_n 0, 1) := by decide +kernel
theorem dX2_startAnew_26 : decode cX2_startAnew 26 = .ok (.iconst 1, 1) := by decide +kernel
theorem dX2_startAnew_27 : decode cX2_startAnew 27 = .ok (.iload_n 1, 1) := by decide +kernel
theorem dX2_startAnew_28 : decode cX2_startAnew 28 = .ok (.ishl, 1) := by decide +kernel
theorem dX2_startAnew_29 : decode cX2_startAnew 29 = .ok (.iconst 1, 1) := by decide +kernel
theorem dX2_startAnew_30 : decode cX2_startAnew 30 = .ok (.isub, 1) := by decide +kernel
theorem dX2_startAnew_31 : decode cX2_startAnew 31 = .ok (.putfield 57, 3) := by decide +kernel
theorem dX2_startAnew_34 : decode cX2_startAnew 34 = .ok (.aload_n 0, 1) := by decide +kernel
theorem dX2_startAnew_35 : decode cX2_startAnew 35 = .ok (.getfield 14, 3) := by decide +kernel
theorem dX2_startAnew_38 : decode cX2_startAnew 38 = .ok (.iconst 0, 1) := by decide +kernel
theorem dX2_startAnew_39 : decode cX2_startAnew 39 = .ok (.invokevirtual 60, 3) := by decide +kernel
theorem dX2_startAnew_42 : decode cX2_startAnew 42 = .ok (.aload_n 0, 1) := by decide +kernel
theorem dX2_startAnew_43 : decode cX2_startAnew 43 = .ok (.getfield 23, 3) := by decide +kernel
theorem dX2_startAnew_46 : decode cX2_startAnew 46 = .ok (.iconst 0, 1) := by decide +kernel
theorem dX2_startAnew_47 : decode cX2_startAnew 47 = .ok (.invokevirtual 60, 3) := by decide +kernel
theorem dX2_startAnew_50 : decode cX2_startAnew 50 = .ok (.aload_n 0, 1) := by decide +kernel
theorem dX2_startAnew_51 : decode cX2_startAnew 51 = .ok (.getfield 29, 3) := by decide +kernel
theorem dX2_startAnew_54 : decode cX2_startAnew 54 = .ok (.iconst 0, 1) := by decide +kernel
theorem dX2_startAnew_55 : decode cX2_startAnew 55 = .ok (.invokevirtual 60, 3) := by decide +kernel
theorem dX2_startAnew_58 : decode cX2_startAnew 58 = .ok (.aload_n 0, 1) := by decide +kernel
theorem dX2_startAnew_59 : decode cX2_startAnew 59 = .ok (.getfield 32, 3) := by decide +kernel
theorem dX2_startAnew_62 : decode cX2_startAnew 62 = .ok (.iconst 0, 1) := by decide +kernel
theorem dX2_startAnew_63 : decode cX2_startAnew 63 = .ok (.invokevirtual 60, 3) := by decide +kernel
theorem dX2_startAnew_66 : decode cX2_startAnew 66 = .ok (.iconst 0, 1) := by decide +kernel
theorem dX2_startAnew_67 : decode cX2_startAnew 67 = .ok (.istore_n 2, 1) := by decide +kernel
theorem dX2_startAnew_68 : decode cX2_startAnew 68 = .ok (.iload_n 2, 1) := by decide +kernel
theorem dX2_startAnew_69 : decode cX2_startAnew 69 = .ok (.iload_n 1, 1) := by decide +kernel
theorem dX2_startAnew_70 : decode cX2_startAnew 70 = .ok (.if_icmp .ge 18, 3) := by decide +kernel
theorem dX2_startAnew_73 : decode cX2_startAnew 73 = .ok (.aload_n 0, 1) := by decide +kernel
theorem dX2_startAnew_74 : decode cX2_startAnew 74 = .ok (.getfield 20, 3) := by decide +kernel
theorem dX2_startAnew_77 : decode cX2_startAnew 77 = .ok (.iload_n 2, 1) := by decide +kernel
theorem dX2_startAnew_78 : decode cX2_startAnew 78 = .ok (.iload_n 2, 1) := by decide +kernel
theorem dX2_startAnew_79 : decode cX2_startAnew 79 = .ok (.invokevirtual 63, 3) := by decide +kernel
theorem dX2_startAnew_82 : decode cX2_startAnew 82 = .ok (.iinc 2 1, 3) := by decide +kernel
theorem dX2_startAnew_85 : decode cX2_startAnew 85 = .ok (.goto (-17), 3) := by decide +kernel
theorem dX2_startAnew_88 : decode cX2_startAnew 88 = .ok (.return_, 1) := by decide +kernel
theorem dX2_takeOver_0 : decode cX2_takeOver 0 = .ok (.aload_n 0, 1) := by decide +kernel
theorem dX2_takeOver_1 : decode cX2_takeOver 1 = .ok (.aload_n 1, 1) := by decide +kernel
theorem dX2_takeOver_2 : decode cX2_takeOver 2 = .ok (.getfield 41, 3) := by decide +kernel
theorem dX2_takeOver_5 : decode cX2_takeOver 5 = .ok (.putfield 41, 3) := by decide +kernel
theorem dX2_takeOver_8 : decode cX2_takeOver 8 = .ok (.aload_n 0, 1) := by decide +kernel
theorem dX2_takeOver_9 : decode cX2_takeOver 9 = .ok (.aload_n 1, 1) := by decide +kernel
theorem dX2_takeOver_10 : decode cX2_takeOver 10 = .ok (.getfield 67, 3) := by decide +kernel
theorem dX2_takeOver_13 : decode cX2_takeOver 13 = .ok (.putfield 67, 3) := by decide +kernel
theorem dX2_takeOver_16 : decode cX2_takeOver 16 = .ok (.aload_n 0, 1) := by decide +kernel
theorem dX2_takeOver_17 : decode cX2_takeOver 17 = .ok (.aload_n 1, 1) := by decide +kernel
theorem dX2_takeOver_18 : decode cX2_takeOver 18 = .ok (.getfield 45, 3) := by decide +kernel
theorem dX2_takeOver_21 : decode cX2_takeOver 21 = .ok (.putfield 45, 3) := by decide +kernel
theorem dX2_takeOver_24 : decode cX2_takeOver 24 = .ok (.aload_n 0, 1) := by decide +kernel
theorem dX2_takeOver_25 : decode cX2_takeOver 25 = .ok (.aload_n 1, 1) := by decide +kernel
theorem dX2_takeOver_26 : decode cX2_takeOver 26 = .ok (.getfield 48, 3) := by decide +kernel
theorem dX2_takeOver_29 : decode cX2_takeOver 29 = .ok (.putfield 48, 3) := by decide +kernel
theorem dX2_takeOver_32 : decode cX2_takeOver 32 = .ok (.aload_n 0, 1) := by decide +kernel
theorem dX2_takeOver_33 : decode cX2_takeOver 33 = .ok (.aload_n 1, 1) := by decide +kernel
theorem dX2_takeOver_34 : decode cX2_takeOver 34 = .ok (.getfield 51, 3) := by decide +kernel
theorem dX2_takeOver_37 : decode cX2_takeOver 37 = .ok (.putfield 51, 3) := by decide +kernel
theorem dX2_takeOver_40 : decode cX2_takeOver 40 = .ok (.aload_n 0, 1) := by decide +kernel
theorem dX2_takeOver_41 : decode cX2_takeOver 41 = .ok (.aload_n 1, 1) := by decide +kernel
theorem dX2_takeOver_42 : decode cX2_takeOver 42 = .ok (.getfield 57, 3) := by decide +kernel
theorem dX2_takeOver_45 : decode cX2_takeOver 45 = .ok (.putfield 57, 3) := by decide +kernel
theorem dX2_takeOver_48 : decode cX2_takeOver 48 = .ok (.aload_n 0, 1) := by decide +kernel
theorem dX2_takeOver_49 : decode cX2_takeOver 49 = .ok (.aload_n 1, 1) := by decide +kernel
theorem dX2_takeOver_50 : decode cX2_takeOver 50 = .ok (.getfield 54, 3) := by decide +kernel
theorem dX2_takeOver_53 : decode cX2_takeOver 53 = .ok (.putfield 54, 3) := by decide +kernel
theorem dX2_takeOver_56 : decode cX2_takeOver 56 = .ok (.aload_n 0, 1) := by decide +kernel
theorem dX2_takeOver_57 : decode cX2_takeOver 57 = .ok (.getfield 14, 3) := by decide +kernel
theorem dX2_takeOver_60 : decode cX2_takeOver 60 = .ok (.aload_n 1, 1) := by decide +kernel
theorem dX2_takeOver_61 : decode cX2_takeOver 61 = .ok (.getfield 14, 3) := by decide +kernel
theorem dX2_takeOver_64 : decode cX2_takeOver 64 = .ok (.invokevirtual 70, 3) := by decide +kernel
theorem dX2_takeOver_67 : decode cX2_takeOver 67 = .ok (.aload_n 0, 1) := by decide +kernel
theorem dX2_takeOver_68 : decode cX2_takeOver 68 = .ok (.getfield 20, 3) := by decide +kernel
theorem dX2_takeOver_71 : decode cX2_takeOver 71 = .ok (.aload_n 1, 1) := by decide +kernel
theorem dX2_takeOver_72 : decode cX2_takeOver 72 = .ok (.getfield 20, 3) := by decide +kernel
theorem dX2_takeOver_75 : decode cX2_takeOver 75 = .ok (.invokevirtual 70, 3) := by decide +kernel
theorem dX2_takeOver_78 : decode cX2_takeOver 78 = .ok (.aload_n 0, 1) := by decide +kernel
theorem dX2_takeOver_79 : decode cX2_takeOver 79 = .ok (.getfield 23, 3) := by decide +kernel
theorem dX2_takeOver_82 : decode cX2_takeOver 82 = .ok (.aload_n 1, 1) := by decide +kernel
theorem dX2_takeOver_83 : decode cX2_takeOver 83 = .ok (.getfield 23, 3) := by decide +kernel
theorem dX2_takeOver_86 : decode cX2_takeOver 86 = .ok (.invokevirtual 70, 3) := by decide +kernel
theorem dX2_takeOver_89 : decode cX2_takeOver 89 = .ok (.aload_n 0, 1) := by decide +kernel
theorem dX2_takeOver_90 : decode cX2_takeOver 90 = .ok (.getfield 29, 3) := by decide +kernel
theorem dX2_takeOver_93 : decode cX2_takeOver 93 = .ok (.aload_n 1, 1) := by decide +kernel
theorem dX2_takeOver_94 : decode cX2_takeOver 94 = .ok (.getfield 29, 3) := by decide +kernel
theorem dX2_takeOver_97 : decode cX2_takeOver 97 = .ok (.invokevirtual 70, 3) := by decide +kernel
theorem dX2_takeOver_100 : decode cX2_takeOver 100 = .ok (.aload_n 0, 1) := by decide +kernel
theorem dX2_takeOver_101 : decode cX2_takeOver 101 = .ok (.getfield 32, 3) := by decide +kernel
theorem dX2_takeOver_104 : decode cX2_takeOver 104 = .ok (.aload_n 1, 1) := by decide +kernel
theorem dX2_takeOver_105 : decode cX2_takeOver 105 = .ok (.getfield 32, 3) := by decide +kernel
theorem dX2_takeOver_108 : decode cX2_takeOver 108 = .ok (.invokevirtual 70, 3) := by decide +kernel
theorem dX2_takeOver_111 : decode cX2_takeOver 111 = .ok (.aload_n 0, 1) := by decide +kernel
theorem dX2_takeOver_112 : decode cX2_takeOver 112 = .ok (.getfield 35, 3) := by decide +kernel
theorem dX2_takeOver_115 : decode cX2_takeOver 115 = .ok (.aload_n 1, 1) := by decide +kernel
theorem dX2_takeOver_116 : decode cX2_takeOver 116 = .ok (.getfield 35, 3) := by decide +kernel
theorem dX2_takeOver_119 : decode cX2_takeOver 119 = .ok (.invokevirtual 70, 3) := by decide +kernel
theorem dX2_takeOver_122 : decode cX2_takeOver 122 = .ok (.aload_n 0, 1) := by decide +kernel
theorem dX2_takeOver_123 : decode cX2_takeOver 123 = .ok (.getfield 38, 3) := by decide +kernel
theorem dX2_takeOver_126 : decode cX2_takeOver 126 = .ok (.aload_n 1, 1) := by decide +kernel
theorem dX2_takeOver_127 : decode cX2_takeOver 127 = .ok (.getfield 38, 3) := by decide +kernel
theorem dX2_takeOver_130 : decode cX2_takeOver 130 = .ok (.invokevirtual 70, 3) := by decide +kernel
theorem dX2_takeOver_133 : decode cX2_takeOver 133 = .ok (.return_, 1) := by decide +kernel
theorem dX2_has_0 : decode cX2_has 0 = .ok (.iload_n 1, 1) := by decide +kernel
theorem dX2_has_1 : decode cX2_has 1 = .ok (.ifCond .lt 15, 3) := by decide +kernel
theorem dX2_has_4 : decode cX2_has 4 = .ok (.iload_n 1, 1) := by decide +kernel
theorem dX2_has_5 : decode cX2_has 5 = .ok (.aload_n 0, 1) := by decide +kernel
theorem dX2_has_6 : decode cX2_has 6 = .ok (.getfield 41, 3) := by decide +kernel
theorem dX2_has_9 : decode cX2_has 9 = .ok (.if_icmp .ge 7, 3) := by decide +kernel
theorem dX2_has_12 : decode cX2_has 12 = .ok (.iconst 1, 1) := by decide +kernel
theorem dX2_has_13 : decode cX2_has 13 = .ok (.goto 4, 3) := by decide +kernel
theorem dX2_has_16 : decode cX2_has 16 = .ok (.iconst 0, 1) := by decide +kernel
theorem dX2_has_17 : decode cX2_has 17 = .ok (.ireturn, 1) := by decide +kernel
theorem dX2_hasBoth_0 : decode cX2_hasBoth 0 = .ok (.aload_n 0, 1) := by decide +kernel
theorem dX2_hasBoth_1 : decode cX2_hasBoth 1 = .ok (.iload_n 1, 1) := by decide +kernel
theorem dX2_hasBoth_2 : decode cX2_hasBoth 2 = .ok (.invokevirtual 74, 3) := by decide +kernel
theorem dX2_hasBoth_5 : decode cX2_hasBoth 5 = .ok (.ifCond .eq 20, 3) := by decide +kernel
theorem dX2_hasBoth_8 : decode cX2_hasBoth 8 = .ok (.aload_n 0, 1) := by decide +kernel
theorem dX2_hasBoth_9 : decode cX2_hasBoth 9 = .ok (.iload_n 2, 1) := by decide +kernel
theorem dX2_hasBoth_10 : decode cX2_hasBoth 10 = .ok (.invokevirtual 74, 3) := by decide +kernel
theorem dX2_hasBoth_13 : decode cX2_hasBoth 13 = .ok (.ifCond .eq 12, 3) := by decide +kernel
theorem dX2_hasBoth_16 : decode cX2_hasBoth 16 = .ok (.iload_n 1, 1) := by decide +kernel
theorem dX2_hasBoth_17 : decode cX2_hasBoth 17 = .ok (.iload_n 2, 1) := by decide +kernel
theorem dX2_hasBoth_18 : decode cX2_hasBoth 18 = .ok (.if_icmp .eq 7, 3) := by decide +kernel
theorem dX2_hasBoth_21 : decode cX2_hasBoth 21 = .ok (.iconst 1, 1) := by decide +kernel
theorem dX2_hasBoth_22 : decode cX2_hasBoth 22 = .ok (.goto 4, 3) := by decide +kernel
theorem dX2_hasBoth_25 : decode cX2_hasBoth 25 = .ok (.iconst 0, 1) := by decide +kernel
theorem dX2_hasBoth_26 : decode cX2_hasBoth 26 = .ok (.ireturn, 1) := by decide +kernel
theorem dX2_lives_0 : decode cX2_lives 0 = .ok (.iload_n 1, 1) := by decide +kernel
theorem dX2_lives_1 : decode cX2_lives 1 = .ok (.ifCond .lt 27, 3) := by decide +kernel
theorem dX2_lives_4 : decode cX2_lives 4 = .ok (.iload_n 1, 1) := by decide +kernel
theorem dX2_lives_5 : decode cX2_lives 5 = .ok (.aload_n 0, 1) := by decide +kernel
theorem dX2_lives_6 : decode cX2_lives 6 = .ok (.getfield 41, 3) := by decide +kernel
theorem dX2_lives_9 : decode cX2_lives 9 = .ok (.if_icmp .ge 19, 3) := by decide +kernel
theorem dX2_lives_12 : decode cX2_lives 12 = .ok (.aload_n 0, 1) := by decide +kernel
theorem dX2_lives_13 : decode cX2_lives 13 = .ok (.getfield 57, 3) := by decide +kernel
theorem dX2_lives_16 : decode cX2_lives 16 = .ok (.iload_n 1, 1) := by decide +kernel
theorem dX2_lives_17 : decode cX2_lives 17 = .ok (.ishr, 1) := by decide +kernel
theorem dX2_lives_18 : decode cX2_lives 18 = .ok (.iconst 1, 1) := by decide +kernel
theorem dX2_lives_19 : decode cX2_lives 19 = .ok (.iand, 1) := by decide +kernel
theorem dX2_lives_20 : decode cX2_lives 20 = .ok (.iconst 1, 1) := by decide +kernel
theorem dX2_lives_21 : decode cX2_lives 21 = .ok (.if_icmp .ne 7, 3) := by decide +kernel
theorem dX2_lives_24 : decode cX2_lives 24 = .ok (.iconst 1, 1) := by decide +kernel
theorem dX2_lives_25 : decode cX2_lives 25 = .ok (.goto 4, 3) := by decide +kernel
theorem dX2_lives_28 : decode cX2_lives 28 = .ok (.iconst 0, 1) := by decide +kernel
theorem dX2_lives_29 : decode cX2_lives 29 = .ok (.ireturn, 1) := by decide +kernel
theorem dX2_bearerOf_0 : decode cX2_bearerOf 0 = .ok (.iconst 0, 1) := by decide +kernel
theorem dX2_bearerOf_1 : decode cX2_bearerOf 1 = .ok (.istore_n 2, 1) := by decide +kernel
theorem dX2_bearerOf_2 : decode cX2_bearerOf 2 = .ok (.iload_n 2, 1) := by decide +kernel
theorem dX2_bearerOf_3 : decode cX2_bearerOf 3 = .ok (.aload_n 0, 1) := by decide +kernel
theorem dX2_bearerOf_4 : decode cX2_bearerOf 4 = .ok (.getfield 41, 3) := by decide +kernel
theorem dX2_bearerOf_7 : decode cX2_bearerOf 7 = .ok (.if_icmp .ge 23, 3) := by decide +kernel
theorem dX2_bearerOf_10 : decode cX2_bearerOf 10 = .ok (.aload_n 0, 1) := by decide +kernel
theorem dX2_bearerOf_11 : decode cX2_bearerOf 11 = .ok (.getfield 20, 3) := by decide +kernel
theorem dX2_bearerOf_14 : decode cX2_bearerOf 14 = .ok (.iload_n 2, 1) := by decide +kernel
theorem dX2_bearerOf_15 : decode cX2_bearerOf 15 = .ok (.invokevirtual 78, 3) := by decide +kernel
theorem dX2_bearerOf_18 : decode cX2_bearerOf 18 = .ok (.iload_n 1, 1) := by decide +kernel
theorem dX2_bearerOf_19 : decode cX2_bearerOf 19 = .ok (.if_icmp .ne 5, 3) := by decide +kernel
theorem dX2_bearerOf_22 : decode cX2_bearerOf 22 = .ok (.iload_n 2, 1) := by decide +kernel
theorem dX2_bearerOf_23 : decode cX2_bearerOf 23 = .ok (.ireturn, 1) := by decide +kernel
theorem dX2_bearerOf_24 : decode cX2_bearerOf 24 = .ok (.iinc 2 1, 3) := by decide +kernel
theorem dX2_bearerOf_27 : decode cX2_bearerOf 27 = .ok (.goto (-25), 3) := by decide +kernel
theorem dX2_bearerOf_30 : decode cX2_bearerOf 30 = .ok (.bipush (-6), 2) := by decide +kernel
theorem dX2_bearerOf_32 : decode cX2_bearerOf 32 = .ok (.ireturn, 1) := by decide +kernel
theorem dX2_die_0 : decode cX2_die 0 = .ok (.aload_n 0, 1) := by decide +kernel
theorem dX2_die_1 : decode cX2_die 1 = .ok (.iload_n 1, 1) := by decide +kernel
theorem dX2_die_2 : decode cX2_die 2 = .ok (.invokevirtual 82, 3) := by decide +kernel
theorem dX2_die_5 : decode cX2_die 5 = .ok (.ifCond .ne 5, 3) := by decide +kernel
theorem dX2_die_8 : decode cX2_die 8 = .ok (.iconst 1, 1) := by decide +kernel
theorem dX2_die_9 : decode cX2_die 9 = .ok (.ireturn, 1) := by decide +kernel
theorem dX2_die_10 : decode cX2_die 10 = .ok (.aload_n 0, 1) := by decide +kernel
theorem dX2_die_11 : decode cX2_die 11 = .ok (.dup, 1) := by decide +kernel
theorem dX2_die_12 : decode cX2_die 12 = .ok (.getfield 57, 3) := by decide +kernel
theorem dX2_die_15 : decode cX2_die 15 = .ok (.iconst 1, 1) := by decide +kernel
theorem dX2_die_16 : decode cX2_die 16 = .ok (.iload_n 1, 1) := by decide +kernel
theorem dX2_die_17 : decode cX2_die 17 = .ok (.ishl, 1) := by decide +kernel
theorem dX2_die_18 : decode cX2_die 18 = .ok (.iconst (-1), 1) := by decide +kernel
theorem dX2_die_19 : decode cX2_die 19 = .ok (.ixor, 1) := by decide +kernel
theorem dX2_die_20 : decode cX2_die 20 = .ok (.iand, 1) := by decide +kernel
theorem dX2_die_21 : decode cX2_die 21 = .ok (.putfield 57, 3) := by decide +kernel
theorem dX2_die_24 : decode cX2_die 24 = .ok (.iconst 0, 1) := by decide +kernel
theorem dX2_die_25 : decode cX2_die 25 = .ok (.ireturn, 1) := by decide +kernel
theorem dX2_bind_0 : decode cX2_bind 0 = .ok (.aload_n 0, 1) := by decide +kernel
theorem dX2_bind_1 : decode cX2_bind 1 = .ok (.iload_n 1, 1) := by decide +kernel
theorem dX2_bind_2 : decode cX2_bind 2 = .ok (.invokevirtual 82, 3) := by decide +kernel
theorem dX2_bind_5 : decode cX2_bind 5 = .ok (.ifCond .ne 5, 3) := by decide +kernel
theorem dX2_bind_8 : decode cX2_bind 8 = .ok (.iconst 1, 1) := by decide +kernel
theorem dX2_bind_9 : decode cX2_bind 9 = .ok (.ireturn, 1) := by decide +kernel
theorem dX2_bind_10 : decode cX2_bind 10 = .ok (.aload_n 0, 1) := by decide +kernel
theorem dX2_bind_11 : decode cX2_bind 11 = .ok (.getfield 23, 3) := by decide +kernel
theorem dX2_bind_14 : decode cX2_bind 14 = .ok (.iload_n 1, 1) := by decide +kernel
theorem dX2_bind_15 : decode cX2_bind 15 = .ok (.invokevirtual 78, 3) := by decide +kernel
theorem dX2_bind_18 : decode cX2_bind 18 = .ok (.ifCond .eq 5, 3) := by decide +kernel
theorem dX2_bind_21 : decode cX2_bind 21 = .ok (.iconst 4, 1) := by decide +kernel
theorem dX2_bind_22 : decode cX2_bind 22 = .ok (.ireturn, 1) := by decide +kernel
theorem dX2_bind_23 : decode cX2_bind 23 = .ok (.aload_n 0, 1) := by decide +kernel
theorem dX2_bind_24 : decode cX2_bind 24 = .ok (.getfield 23, 3) := by decide +kernel
theorem dX2_bind_27 : decode cX2_bind 27 = .ok (.iload_n 1, 1) := by decide +kernel
theorem dX2_bind_28 : decode cX2_bind 28 = .ok (.iload_n 2, 1) := by decide +kernel
theorem dX2_bind_29 : decode cX2_bind 29 = .ok (.invokevirtual 63, 3) := by decide +kernel
theorem dX2_bind_32 : decode cX2_bind 32 = .ok (.iconst 0, 1) := by decide +kernel
theorem dX2_bind_33 : decode cX2_bind 33 = .ok (.ireturn, 1) := by decide +kernel
theorem dX2_changeHats_0 : decode cX2_changeHats 0 = .ok (.aload_n 0, 1) := by decide +kernel
theorem dX2_changeHats_1 : decode cX2_changeHats 1 = .ok (.iload_n 1, 1) := by decide +kernel
theorem dX2_changeHats_2 : decode cX2_changeHats 2 = .ok (.invokevirtual 82, 3) := by decide +kernel
theorem dX2_changeHats_5 : decode cX2_changeHats 5 = .ok (.ifCond .eq 11, 3) := by decide +kernel
theorem dX2_changeHats_8 : decode cX2_changeHats 8 = .ok (.aload_n 0, 1) := by decide +kernel
theorem dX2_changeHats_9 : decode cX2_changeHats 9 = .ok (.iload_n 2, 1) := by decide +kernel
theorem dX2_changeHats_10 : decode cX2_changeHats 10 = .ok (.invokevirtual 82, 3) := by decide +kernel
theorem dX2_changeHats_13 : decode cX2_changeHats 13 = .ok (.ifCond .ne 5, 3) := by decide +kernel
theorem dX2_changeHats_16 : decode cX2_changeHats 16 = .ok (.iconst 1, 1) := by decide +kernel
theorem dX2_changeHats_17 : decode cX2_changeHats 17 = .ok (.ireturn, 1) := by decide +kernel
theorem dX2_changeHats_18 : decode cX2_changeHats 18 = .ok (.iload_n 1, 1) := by decide +kernel
theorem dX2_changeHats_19 : decode cX2_changeHats 19 = .ok (.iload_n 2, 1) := by decide +kernel
theorem dX2_changeHats_20 : decode cX2_changeHats 20 = .ok (.if_icmp .ne 5, 3) := by decide +kernel
theorem dX2_changeHats_23 : decode cX2_changeHats 23 = .ok (.iconst 2, 1) := by decide +kernel
theorem dX2_changeHats_24 : decode cX2_changeHats 24 = .ok (.ireturn, 1) := by decide +kernel
theorem dX2_changeHats_25 : decode cX2_changeHats 25 = .ok (.aload_n 0, 1) := by decide +kernel
theorem dX2_changeHats_26 : decode cX2_changeHats 26 = .ok (.getfield 48, 3) := by decide +kernel
theorem dX2_changeHats_29 : decode cX2_changeHats 29 = .ok (.ifCond .eq 5, 3) := by decide +kernel
theorem dX2_changeHats_32 : decode cX2_changeHats 32 = .ok (.iconst 3, 1) := by decide +kernel
theorem dX2_changeHats_33 : decode cX2_changeHats 33 = .ok (.ireturn, 1) := by decide +kernel
theorem dX2_changeHats_34 : decode cX2_changeHats 34 = .ok (.aload_n 0, 1) := by decide +kernel
theorem dX2_changeHats_35 : decode cX2_changeHats 35 = .ok (.iload_n 1, 1) := by decide +kernel
theorem dX2_changeHats_36 : decode cX2_changeHats 36 = .ok (.iload_n 2, 1) := by decide +kernel
theorem dX2_changeHats_37 : decode cX2_changeHats 37 = .ok (.invokevirtual 85, 3) := by decide +kernel
theorem dX2_changeHats_40 : decode cX2_changeHats 40 = .ok (.iconst 0, 1) := by decide +kernel
theorem dX2_changeHats_41 : decode cX2_changeHats 41 = .ok (.ireturn, 1) := by decide +kernel
theorem dX2_swapNames_0 : decode cX2_swapNames 0 = .ok (.aload_n 0, 1) := by decide +kernel
theorem dX2_swapNames_1 : decode cX2_swapNames 1 = .ok (.getfield 20, 3) := by decide +kernel
theorem dX2_swapNames_4 : decode cX2_swapNames 4 = .ok (.iload_n 1, 1) := by decide +kernel
theorem dX2_swapNames_5 : decode cX2_swapNames 5 = .ok (.invokevirtual 78, 3) := by decide +kernel
theorem dX2_swapNames_8 : decode cX2_swapNames 8 = .ok (.istore_n 3, 1) := by decide +kernel
theorem dX2_swapNames_9 : decode cX2_swapNames 9 = .ok (.aload_n 0, 1) := by decide +kernel
theorem dX2_swapNames_10 : decode cX2_swapNames 10 = .ok (.getfield 20, 3) := by decide +kernel
theorem dX2_swapNames_13 : decode cX2_swapNames 13 = .ok (.iload_n 1, 1) := by decide +kernel
theorem dX2_swapNames_14 : decode cX2_swapNames 14 = .ok (.aload_n 0, 1) := by decide +kernel
theorem dX2_swapNames_15 : decode cX2_swapNames 15 = .ok (.getfield 20, 3) := by decide +kernel
theorem dX2_swapNames_18 : decode cX2_swapNames 18 = .ok (.iload_n 2, 1) := by decide +kernel
theorem dX2_swapNames_19 : decode cX2_swapNames 19 = .ok (.invokevirtual 78, 3) := by decide +kernel
theorem dX2_swapNames_22 : decode cX2_swapNames 22 = .ok (.invokevirtual 63, 3) := by decide +kernel
theorem dX2_swapNames_25 : decode cX2_swapNames 25 = .ok (.aload_n 0, 1) := by decide +kernel
theorem dX2_swapNames_26 : decode cX2_swapNames 26 = .ok (.getfield 20, 3) := by decide +kernel
theorem dX2_swapNames_29 : decode cX2_swapNames 29 = .ok (.iload_n 2, 1) := by decide +kernel
theorem dX2_swapNames_30 : decode cX2_swapNames 30 = .ok (.iload_n 3, 1) := by decide +kernel
theorem dX2_swapNames_31 : decode cX2_swapNames 31 = .ok (.invokevirtual 63, 3) := by decide +kernel
theorem dX2_swapNames_34 : decode cX2_swapNames 34 = .ok (.return_, 1) := by decide +kernel
theorem dX2_passDays_0 : decode cX2_passDays 0 = .ok (.iload_n 1, 1) := by decide +kernel
theorem dX2_passDays_1 : decode cX2_passDays 1 = .ok (.istore_n 2, 1) := by decide +kernel
theorem dX2_passDays_2 : decode cX2_passDays 2 = .ok (.iload_n 2, 1) := by decide +kernel
theorem dX2_passDays_3 : decode cX2_passDays 3 = .ok (.ifCond .le 44, 3) := by decide +kernel
theorem dX2_passDays_6 : decode cX2_passDays 6 = .ok (.aload_n 0, 1) := by decide +kernel
theorem dX2_passDays_7 : decode cX2_passDays 7 = .ok (.dup, 1) := by decide +kernel
theorem dX2_passDays_8 : decode cX2_passDays 8 = .ok (.getfield 45, 3) := by decide +kernel
theorem dX2_passDays_11 : decode cX2_passDays 11 = .ok (.iconst 1, 1) := by decide +kernel
theorem dX2_passDays_12 : decode cX2_passDays 12 = .ok (.iadd, 1) := by decide +kernel
theorem dX2_passDays_13 : decode cX2_passDays 13 = .ok (.putfield 45, 3) := by decide +kernel
theorem dX2_passDays_16 : decode cX2_passDays 16 = .ok (.aload_n 0, 1) := by decide +kernel
theorem dX2_passDays_17 : decode cX2_passDays 17 = .ok (.dup, 1) := by decide +kernel
theorem dX2_passDays_18 : decode cX2_passDays 18 = .ok (.getfield 48, 3) := by decide +kernel
theorem dX2_passDays_21 : decode cX2_passDays 21 = .ok (.iconst 1, 1) := by decide +kernel
theorem dX2_passDays_22 : decode cX2_passDays 22 = .ok (.iadd, 1) := by decide +kernel
theorem dX2_passDays_23 : decode cX2_passDays 23 = .ok (.putfield 48, 3) := by decide +kernel
theorem dX2_passDays_26 : decode cX2_passDays 26 = .ok (.aload_n 0, 1) := by decide +kernel
theorem dX2_passDays_27 : decode cX2_passDays 27 = .ok (.getfield 48, 3) := by decide +kernel
theorem dX2_passDays_30 : decode cX2_passDays 30 = .ok (.aload_n 0, 1) := by decide +kernel
theorem dX2_passDays_31 : decode cX2_passDays 31 = .ok (.getfield 67, 3) := by decide +kernel
theorem dX2_passDays_34 : decode cX2_passDays 34 = .ok (.if_icmp .lt 7, 3) := by decide +kernel
theorem dX2_passDays_37 : decode cX2_passDays 37 = .ok (.aload_n 0, 1) := by decide +kernel
theorem dX2_passDays_38 : decode cX2_passDays 38 = .ok (.invokevirtual 88, 3) := by decide +kernel
theorem dX2_passDays_41 : decode cX2_passDays 41 = .ok (.iinc 2 (-1), 3) := by decide +kernel
theorem dX2_passDays_44 : decode cX2_passDays 44 = .ok (.goto (-42), 3) := by decide +kernel
theorem dX2_passDays_47 : decode cX2_passDays 47 = .ok (.return_, 1) := by decide +kernel
theorem dX2_passSeason_0 : decode cX2_passSeason 0 = .ok (.aload_n 0, 1) := by decide +kernel
theorem dX2_passSeason_1 : decode cX2_passSeason 1 = .ok (.dup, 1) := by decide +kernel
theorem dX2_passSeason_2 : decode cX2_passSeason 2 = .ok (.getfield 45, 3) := by decide +kernel
theorem dX2_passSeason_5 : decode cX2_passSeason 5 = .ok (.aload_n 0, 1) := by decide +kernel
theorem dX2_passSeason_6 : decode cX2_passSeason 6 = .ok (.getfield 67, 3) := by decide +kernel
theorem dX2_passSeason_9 : decode cX2_passSeason 9 = .ok (.aload_n 0, 1) := by decide +kernel
theorem dX2_passSeason_10 : decode cX2_passSeason 10 = .ok (.getfield 48, 3) := by decide +kernel
theorem dX2_passSeason_13 : decode cX2_passSeason 13 = .ok (.isub, 1) := by decide +kernel
theorem dX2_passSeason_14 : decode cX2_passSeason 14 = .ok (.iadd, 1) := by decide +kernel
theorem dX2_passSeason_15 : decode cX2_passSeason 15 = .ok (.putfield 45, 3) := by decide +kernel
theorem dX2_passSeason_18 : decode cX2_passSeason 18 = .ok (.aload_n 0, 1) := by decide +kernel
theorem dX2_passSeason_19 : decode cX2_passSeason 19 = .ok (.invokevirtual 88, 3) := by decide +kernel
theorem dX2_passSeason_22 : decode cX2_passSeason 22 = .ok (.return_, 1) := by decide +kernel
theorem dX2_passEquinox_0 : decode cX2_passEquinox 0 = .ok (.aload_n 0, 1) := by decide +kernel
theorem dX2_passEquinox_1 : decode cX2_passEquinox 1 = .ok (.iconst 0, 1) := by decide +kernel
theorem dX2_passEquinox_2 : decode cX2_passEquinox 2 = .ok (.putfield 48, 3) := by decide +kernel
theorem dX2_passEquinox_5 : decode cX2_passEquinox 5 = .ok (.aload_n 0, 1) := by decide +kernel
theorem dX2_passEquinox_6 : decode cX2_passEquinox 6 = .ok (.dup, 1) := by decide +kernel
theorem dX2_passEquinox_7 : decode cX2_passEquinox 7 = .ok (.getfield 51, 3) := by decide +kernel
theorem dX2_passEquinox_10 : decode cX2_passEquinox 10 = .ok (.iconst 1, 1) := by decide +kernel
theorem dX2_passEquinox_11 : decode cX2_passEquinox 11 = .ok (.iadd, 1) := by decide +kernel
theorem dX2_passEquinox_12 : decode cX2_passEquinox 12 = .ok (.putfield 51, 3) := by decide +kernel
theorem dX2_passEquinox_15 : decode cX2_passEquinox 15 = .ok (.iconst 0, 1) := by decide +kernel
theorem dX2_passEquinox_16 : decode cX2_passEquinox 16 = .ok (.istore_n 1, 1) := by decide +kernel
theorem dX2_passEquinox_17 : decode cX2_passEquinox 17 = .ok (.iload_n 1, 1) := by decide +kernel
theorem dX2_passEquinox_18 : decode cX2_passEquinox 18 = .ok (.aload_n 0, 1) := by decide +kernel
theorem dX2_passEquinox_19 : decode cX2_passEquinox 19 = .ok (.getfield 41, 3) := by decide +kernel
theorem dX2_passEquinox_22 : decode cX2_passEquinox 22 = .ok (.if_icmp .ge 97, 3) := by decide +kernel
theorem dX2_passEquinox_25 : decode cX2_passEquinox 25 = .ok (.aload_n 0, 1) := by decide +kernel
theorem dX2_passEquinox_26 : decode cX2_passEquinox 26 = .ok (.getfield 23, 3) := by decide +kernel
theorem dX2_passEquinox_29 : decode cX2_passEquinox 29 = .ok (.iload_n 1, 1) := by decide +kernel
theorem dX2_passEquinox_30 : decode cX2_passEquinox 30 = .ok (.invokevirtual 78, 3) := by decide +kernel
theorem dX2_passEquinox_33 : decode cX2_passEquinox 33 = .ok (.iconst 1, 1) := by decide +kernel
theorem dX2_passEquinox_34 : decode cX2_passEquinox 34 = .ok (.if_icmp .ne 15, 3) := by decide +kernel
theorem dX2_passEquinox_37 : decode cX2_passEquinox 37 = .ok (.aload_n 0, 1) := by decide +kernel
theorem dX2_passEquinox_38 : decode cX2_passEquinox 38 = .ok (.getfield 23, 3) := by decide +kernel
theorem dX2_passEquinox_41 : decode cX2_passEquinox 41 = .ok (.iload_n 1, 1) := by decide +kernel
theorem dX2_passEquinox_42 : decode cX2_passEquinox 42 = .ok (.iconst 0, 1) := by decide +kernel
theorem dX2_passEquinox_43 : decode cX2_passEquinox 43 = .ok (.invokevirtual 63, 3) := by decide +kernel
theorem dX2_passEquinox_46 : decode cX2_passEquinox 46 = .ok (.goto 67, 3) := by decide +kernel
theorem dX2_passEquinox_49 : decode cX2_passEquinox 49 = .ok (.aload_n 0, 1) := by decide +kernel
theorem dX2_passEquinox_50 : decode cX2_passEquinox 50 = .ok (.getfield 23, 3) := by decide +kernel
theorem dX2_passEquinox_53 : decode cX2_passEquinox 53 = .ok (.iload_n 1, 1) := by decide +kernel
theorem dX2_passEquinox_54 : decode cX2_passEquinox 54 = .ok (.invokevirtual 78, 3) := by decide +kernel
theorem dX2_passEquinox_57 : decode cX2_passEquinox 57 = .ok (.ifCond .ne 56, 3) := by decide +kernel
theorem dX2_passEquinox_60 : decode cX2_passEquinox 60 = .ok (.aload_n 0, 1) := by decide +kernel
theorem dX2_passEquinox_61 : decode cX2_passEquinox 61 = .ok (.iload_n 1, 1) := by decide +kernel
theorem dX2_passEquinox_62 : decode cX2_passEquinox 62 = .ok (.invokevirtual 82, 3) := by decide +kernel
theorem dX2_passEquinox_65 : decode cX2_passEquinox 65 = .ok (.ifCond .eq 48, 3) := by decide +kernel
theorem dX2_passEquinox_68 : decode cX2_passEquinox 68 = .ok (.aload_n 0, 1) := by decide +kernel
theorem dX2_passEquinox_69 : decode cX2_passEquinox 69 = .ok (.getfield 14, 3) := by decide +kernel
theorem dX2_passEquinox_72 : decode cX2_passEquinox 72 = .ok (.iload_n 1, 1) := by decide +kernel
theorem dX2_passEquinox_73 : decode cX2_passEquinox 73 = .ok (.aload_n 0, 1) := by decide +kernel
theorem dX2_passEquinox_74 : decode cX2_passEquinox 74 = .ok (.getfield 14, 3) := by decide +kernel
theorem dX2_passEquinox_77 : decode cX2_passEquinox 77 = .ok (.iload_n 1, 1) := by decide +kernel
theorem dX2_passEquinox_78 : decode cX2_passEquinox 78 = .ok (.invokevirtual 78, 3) := by decide +kernel
theorem dX2_passEquinox_81 : decode cX2_passEquinox 81 = .ok (.iconst 1, 1) := by decide +kernel
theorem dX2_passEquinox_82 : decode cX2_passEquinox 82 = .ok (.iadd, 1) := by decide +kernel
theorem dX2_passEquinox_83 : decode cX2_passEquinox 83 = .ok (.aload_n 0, 1) := by decide +kernel
theorem dX2_passEquinox_84 : decode cX2_passEquinox 84 = .ok (.getfield 41, 3) := by decide +kernel
theorem dX2_passEquinox_87 : decode cX2_passEquinox 87 = .ok (.iconst 1, 1) := by decide +kernel
theorem dX2_passEquinox_88 : decode cX2_passEquinox 88 = .ok (.isub, 1) := by decide +kernel
theorem dX2_passEquinox_89 : decode cX2_passEquinox 89 = .ok (.invokestatic 91, 3) := by decide +kernel
theorem dX2_passEquinox_92 : decode cX2_passEquinox 92 = .ok (.invokevirtual 63, 3) := by decide +kernel
theorem dX2_passEquinox_95 : decode cX2_passEquinox 95 = .ok (.aload_n 0, 1) := by decide +kernel
theorem dX2_passEquinox_96 : decode cX2_passEquinox 96 = .ok (.getfield 26, 3) := by decide +kernel
theorem dX2_passEquinox_99 : decode cX2_passEquinox 99 = .ok (.iload_n 1, 1) := by decide +kernel
theorem dX2_passEquinox_100 : decode cX2_passEquinox 100 = .ok (.aload_n 0, 1) := by decide +kernel
theorem dX2_passEquinox_101 : decode cX2_passEquinox 101 = .ok (.getfield 26, 3) := by decide +kernel
theorem dX2_passEquinox_104 : decode cX2_passEquinox 104 = .ok (.iload_n 1, 1) := by decide +kernel
theorem dX2_passEquinox_105 : decode cX2_passEquinox 105 = .ok (.invokevirtual 78, 3) := by decide +kernel
theorem dX2_passEquinox_108 : decode cX2_passEquinox 108 = .ok (.iconst 1, 1) := by decide +kernel
theorem dX2_passEquinox_109 : decode cX2_passEquinox 109 = .ok (.iadd, 1) := by decide +kernel
theorem dX2_passEquinox_110 : decode cX2_passEquinox 110 = .ok (.invokevirtual 63, 3) := by decide +kernel
theorem dX2_passEquinox_113 : decode cX2_passEquinox 113 = .ok (.iinc 1 1, 3) := by decide +kernel
theorem dX2_passEquinox_116 : decode cX2_passEquinox 116 = .ok (.goto (-99), 3) := by decide +kernel
theorem dX2_passEquinox_119 : decode cX2_passEquinox 119 = .ok (.return_, 1) := by decide +kernel
theorem dX2_landAfter_0 : decode cX2_landAfter 0 = .ok (.aload_n 0, 1) := by decide +kernel
theorem dX2_landAfter_1 : decode cX2_landAfter 1 = .ok (.iload_n 1, 1) := by decide +kernel
theorem dX2_landAfter_2 : decode cX2_landAfter 2 = .ok (.invokevirtual 82, 3) := by decide +kernel
theorem dX2_landAfter_5 : decode cX2_landAfter 5 = .ok (.ifCond .ne 6, 3) := by decide +kernel
theorem dX2_landAfter_8 : decode cX2_landAfter 8 = .ok (.bipush (-6), 2) := by decide +kernel
theorem dX2_landAfter_10 : decode cX2_landAfter 10 = .ok (.ireturn, 1) := by decide +kernel
theorem dX2_landAfter_11 : decode cX2_landAfter 11 = .ok (.iload_n 2, 1) := by decide +kernel
theorem dX2_landAfter_12 : decode cX2_landAfter 12 = .ok (.istore_n 3, 1) := by decide +kernel
theorem dX2_landAfter_13 : decode cX2_landAfter 13 = .ok (.aload_n 0, 1) := by decide +kernel
theorem dX2_landAfter_14 : decode cX2_landAfter 14 = .ok (.getfield 23, 3) := by decide +kernel
theorem dX2_landAfter_17 : decode cX2_landAfter 17 = .ok (.iload_n 1, 1) := by decide +kernel
theorem dX2_landAfter_18 : decode cX2_landAfter 18 = .ok (.invokevirtual 78, 3) := by decide +kernel
theorem dX2_landAfter_21 : decode cX2_landAfter 21 = .ok (.iconst 1, 1) := by decide +kernel
theorem dX2_landAfter_22 : decode cX2_landAfter 22 = .ok (.if_icmp .ne 14, 3) := by decide +kernel
theorem dX2_landAfter_25 : decode cX2_landAfter 25 = .ok (.iconst 0, 1) := by decide +kernel
theorem dX2_landAfter_26 : decode cX2_landAfter 26 = .ok (.iload_n 2, 1) := by decide +kernel
theorem dX2_landAfter_27 : decode cX2_landAfter 27 = .ok (.iconst 1, 1) := by decide +kernel
theorem dX2_landAfter_28 : decode cX2_landAfter 28 = .ok (.isub, 1) := by decide +kernel
theorem dX2_landAfter_29 : decode cX2_landAfter 29 = .ok (.invokestatic 95, 3) := by decide +kernel
theorem dX2_landAfter_32 : decode cX2_landAfter 32 = .ok (.istore_n 3, 1) := by decide +kernel
theorem dX2_landAfter_33 : decode cX2_landAfter 33 = .ok (.goto 17, 3) := by decide +kernel
theorem dX2_landAfter_36 : decode cX2_landAfter 36 = .ok (.aload_n 0, 1) := by decide +kernel
theorem dX2_landAfter_37 : decode cX2_landAfter 37 = .ok (.getfield 23, 3) := by decide +kernel
theorem dX2_landAfter_40 : decode cX2_landAfter 40 = .ok (.iload_n 1, 1) := by decide +kernel
theorem dX2_landAfter_41 : decode cX2_landAfter 41 = .ok (.invokevirtual 78, 3) := by decide +kernel
theorem dX2_landAfter_44 : decode cX2_landAfter 44 = .ok (.iconst 2, 1) := by decide +kernel
theorem dX2_landAfter_45 : decode cX2_landAfter 45 = .ok (.if_icmp .ne 5, 3) := by decide +kernel
theorem dX2_landAfter_48 : decode cX2_landAfter 48 = .ok (.iconst 0, 1) := by decide +kernel
theorem dX2_landAfter_49 : decode cX2_landAfter 49 = .ok (.istore_n 3, 1) := by decide +kernel
theorem dX2_landAfter_50 : decode cX2_landAfter 50 = .ok (.iload_n 1, 1) := by decide +kernel
theorem dX2_landAfter_51 : decode cX2_landAfter 51 = .ok (.iconst 1, 1) := by decide +kernel
theorem dX2_landAfter_52 : decode cX2_landAfter 52 = .ok (.iadd, 1) := by decide +kernel
theorem dX2_landAfter_53 : decode cX2_landAfter 53 = .ok (.aload_n 0, 1) := by decide +kernel
theorem dX2_landAfter_54 : decode cX2_landAfter 54 = .ok (.getfield 14, 3) := by decide +kernel
theorem dX2_landAfter_57 : decode cX2_landAfter 57 = .ok (.iload_n 1, 1) := by decide +kernel
theorem dX2_landAfter_58 : decode cX2_landAfter 58 = .ok (.invokevirtual 78, 3) := by decide +kernel
theorem dX2_landAfter_61 : decode cX2_landAfter 61 = .ok (.iload_n 3, 1) := by decide +kernel
theorem dX2_landAfter_62 : decode cX2_landAfter 62 = .ok (.iadd, 1) := by decide +kernel
theorem dX2_landAfter_63 : decode cX2_landAfter 63 = .ok (.aload_n 0, 1) := by decide +kernel
theorem dX2_landAfter_64 : decode cX2_landAfter 64 = .ok (.getfield 41, 3) := by decide +kernel
theorem dX2_landAfter_67 : decode cX2_landAfter 67 = .ok (.iconst 1, 1) := by decide +kernel
theorem dX2_landAfter_68 : decode cX2_landAfter 68 = .ok (.isub, 1) := by decide +kernel
theorem dX2_landAfter_69 : decode cX2_landAfter 69 = .ok (.invokestatic 91, 3) := by decide +kernel
theorem dX2_landAfter_72 : decode cX2_landAfter 72 = .ok (.iadd, 1) := by decide +kernel
theorem dX2_landAfter_73 : decode cX2_landAfter 73 = .ok (.aload_n 0, 1) := by decide +kernel
theorem dX2_landAfter_74 : decode cX2_landAfter 74 = .ok (.getfield 41, 3) := by decide +kernel
theorem dX2_landAfter_77 : decode cX2_landAfter 77 = .ok (.invokestatic 91, 3) := by decide +kernel
theorem dX2_landAfter_80 : decode cX2_landAfter 80 = .ok (.ireturn, 1) := by decide +kernel
theorem dX2_guestsAfter_0 : decode cX2_guestsAfter 0 = .ok (.iconst 0, 1) := by decide +kernel
theorem dX2_guestsAfter_1 : decode cX2_guestsAfter 1 = .ok (.istore_n 3, 1) := by decide +kernel
theorem dX2_guestsAfter_2 : decode cX2_guestsAfter 2 = .ok (.iconst 0, 1) := by decide +kernel
theorem dX2_guestsAfter_3 : decode cX2_guestsAfter 3 = .ok (.istore 4, 2) := by decide +kernel
theorem dX2_guestsAfter_5 : decode cX2_guestsAfter 5 = .ok (.iload 4, 2) := by decide +kernel
theorem dX2_guestsAfter_7 : decode cX2_guestsAfter 7 = .ok (.aload_n 0, 1) := by decide +kernel
theorem dX2_guestsAfter_8 : decode cX2_guestsAfter 8 = .ok (.getfield 41, 3) := by decide +kernel
theorem dX2_guestsAfter_11 : decode cX2_guestsAfter 11 = .ok (.if_icmp .ge 27, 3) := by decide +kernel
theorem dX2_guestsAfter_14 : decode cX2_guestsAfter 14 = .ok (.aload_n 0, 1) := by decide +kernel
theorem dX2_guestsAfter_15 : decode cX2_guestsAfter 15 = .ok (.iload 4, 2) := by decide +kernel
theorem dX2_guestsAfter_17 : decode cX2_guestsAfter 17 = .ok (.iload_n 2, 1) := by decide +kernel
theorem dX2_guestsAfter_18 : decode cX2_guestsAfter 18 = .ok (.invokevirtual 100, 3) := by decide +kernel
theorem dX2_guestsAfter_21 : decode cX2_guestsAfter 21 = .ok (.iload_n 1, 1) := by decide +kernel
theorem dX2_guestsAfter_22 : decode cX2_guestsAfter 22 = .ok (.if_icmp .ne 10, 3) := by decide +kernel
theorem dX2_guestsAfter_25 : decode cX2_guestsAfter 25 = .ok (.iload_n 3, 1) := by decide +kernel
theorem dX2_guestsAfter_26 : decode cX2_guestsAfter 26 = .ok (.iconst 1, 1) := by decide +kernel
theorem dX2_guestsAfter_27 : decode cX2_guestsAfter 27 = .ok (.iload 4, 2) := by decide +kernel
theorem dX2_guestsAfter_29 : decode cX2_guestsAfter 29 = .ok (.ishl, 1) := by decide +kernel
theorem dX2_guestsAfter_30 : decode cX2_guestsAfter 30 = .ok (.ior, 1) := by decide +kernel
theorem dX2_guestsAfter_31 : decode cX2_guestsAfter 31 = .ok (.istore_n 3, 1) := by decide +kernel
theorem dX2_guestsAfter_32 : decode cX2_guestsAfter 32 = .ok (.iinc 4 1, 3) := by decide +kernel
theorem dX2_guestsAfter_35 : decode cX2_guestsAfter 35 = .ok (.goto (-30), 3) := by decide +kernel
theorem dX2_guestsAfter_38 : decode cX2_guestsAfter 38 = .ok (.iload_n 3, 1) := by decide +kernel
theorem dX2_guestsAfter_39 : decode cX2_guestsAfter 39 = .ok (.ireturn, 1) := by decide +kernel
theorem dX2_shareALand_0 : decode cX2_shareALand 0 = .ok (.aload_n 0, 1) := by decide +kernel
theorem dX2_shareALand_1 : decode cX2_shareALand 1 = .ok (.iload_n 1, 1) := by decide +kernel
theorem dX2_shareALand_2 : decode cX2_shareALand 2 = .ok (.iload_n 3, 1) := by decide +kernel
theorem dX2_shareALand_3 : decode cX2_shareALand 3 = .ok (.invokevirtual 100, 3) := by decide +kernel
theorem dX2_shareALand_6 : decode cX2_shareALand 6 = .ok (.istore 4, 2) := by decide +kernel
theorem dX2_shareALand_8 : decode cX2_shareALand 8 = .ok (.iload 4, 2) := by decide +kernel
theorem dX2_shareALand_10 : decode cX2_shareALand 10 = .ok (.bipush (-6), 2) := by decide +kernel
theorem dX2_shareALand_12 : decode cX2_shareALand 12 = .ok (.if_icmp .eq 18, 3) := by decide +kernel
theorem dX2_shareALand_15 : decode cX2_shareALand 15 = .ok (.iload 4, 2) := by decide +kernel
theorem dX2_shareALand_17 : decode cX2_shareALand 17 = .ok (.aload_n 0, 1) := by decide +kernel
theorem dX2_shareALand_18 : decode cX2_shareALand 18 = .ok (.iload_n 2, 1) := by decide +kernel
theorem dX2_shareALand_19 : decode cX2_shareALand 19 = .ok (.iload_n 3, 1) := by decide +kernel
theorem dX2_shareALand_20 : decode cX2_shareALand 20 = .ok (.invokevirtual 100, 3) := by decide +kernel
theorem dX2_shareALand_23 : decode cX2_shareALand 23 = .ok (.if_icmp .ne 7, 3) := by decide +kernel
theorem dX2_shareALand_26 : decode cX2_shareALand 26 = .ok (.iconst 1, 1) := by decide +kernel
theorem dX2_shareALand_27 : decode cX2_shareALand 27 = .ok (.goto 4, 3) := by decide +kernel
theorem dX2_shareALand_30 : decode cX2_shareALand 30 = .ok (.iconst 0, 1) := by decide +kernel
theorem dX2_shareALand_31 : decode cX2_shareALand 31 = .ok (.ireturn, 1) := by decide +kernel
theorem dX2_equinoxesTill_0 : decode cX2_equinoxesTill 0 = .ok (.aload_n 0, 1) := by decide +kernel
theorem dX2_equinoxesTill_1 : decode cX2_equinoxesTill 1 = .ok (.getfield 48, 3) := by decide +kernel
theorem dX2_equinoxesTill_4 : decode cX2_equinoxesTill 4 = .ok (.iload_n 1, 1) := by decide +kernel
theorem dX2_equinoxesTill_5 : decode cX2_equinoxesTill 5 = .ok (.iadd, 1) := by decide +kernel
theorem dX2_equinoxesTill_6 : decode cX2_equinoxesTill 6 = .ok (.aload_n 0, 1) := by decide +kernel
theorem dX2_equinoxesTill_7 : decode cX2_equinoxesTill 7 = .ok (.getfield 67, 3) := by decide +kernel
theorem dX2_equinoxesTill_10 : decode cX2_equinoxesTill 10 = .ok (.invokestatic 103, 3) := by decide +kernel
theorem dX2_equinoxesTill_13 : decode cX2_equinoxesTill 13 = .ok (.ireturn, 1) := by decide +kernel
theorem dX2_firstDayAfter_0 : decode cX2_firstDayAfter 0 = .ok (.iload_n 1, 1) := by decide +kernel
theorem dX2_firstDayAfter_1 : decode cX2_firstDayAfter 1 = .ok (.ifCond .gt 7, 3) := by decide +kernel
theorem dX2_firstDayAfter_4 : decode cX2_firstDayAfter 4 = .ok (.iconst 0, 1) := by decide +kernel
theorem dX2_firstDayAfter_5 : decode cX2_firstDayAfter 5 = .ok (.goto 14, 3) := by decide +kernel
theorem dX2_firstDayAfter_8 : decode cX2_firstDayAfter 8 = .ok (.iload_n 1, 1) := by decide +kernel
theorem dX2_firstDayAfter_9 : decode cX2_firstDayAfter 9 = .ok (.aload_n 0, 1) := by decide +kernel
theorem dX2_firstDayAfter_10 : decode cX2_firstDayAfter 10 = .ok (.getfield 67, 3) := by decide +kernel
theorem dX2_firstDayAfter_13 : decode cX2_firstDayAfter 13 = .ok (.imul, 1) := by decide +kernel
theorem dX2_firstDayAfter_14 : decode cX2_firstDayAfter 14 = .ok (.aload_n 0, 1) := by decide +kernel
theorem dX2_firstDayAfter_15 : decode cX2_firstDayAfter 15 = .ok (.getfield 48, 3) := by decide +kernel
theorem dX2_firstDayAfter_18 : decode cX2_firstDayAfter 18 = .ok (.isub, 1) := by decide +kernel
theorem dX2_firstDayAfter_19 : decode cX2_firstDayAfter 19 = .ok (.ireturn, 1) := by decide +kernel
theorem dX2_daysLikeSeason_0 : decode cX2_daysLikeSeason 0 = .ok (.iconst 0, 1) := by decide +kernel
theorem dX2_daysLikeSeason_1 : decode cX2_daysLikeSeason 1 = .ok (.iload_n 2, 1) := by decide +kernel
theorem dX2_daysLikeSeason_2 : decode cX2_daysLikeSeason 2 = .ok (.aload_n 0, 1) := by decide +kernel
theorem dX2_daysLikeSeason_3 : decode cX2_daysLikeSeason 3 = .ok (.iconst 1, 1) := by decide +kernel
theorem dX2_daysLikeSeason_4 : decode cX2_daysLikeSeason 4 = .ok (.invokevirtual 106, 3) := by decide +kernel
theorem dX2_daysLikeSeason_7 : decode cX2_daysLikeSeason 7 = .ok (.isub, 1) := by decide +kernel
theorem dX2_daysLikeSeason_8 : decode cX2_daysLikeSeason 8 = .ok (.invokestatic 95, 3) := by decide +kernel
theorem dX2_daysLikeSeason_11 : decode cX2_daysLikeSeason 11 = .ok (.istore_n 3, 1) := by decide +kernel
theorem dX2_daysLikeSeason_12 : decode cX2_daysLikeSeason 12 = .ok (.aload_n 0, 1) := by decide +kernel
theorem dX2_daysLikeSeason_13 : decode cX2_daysLikeSeason 13 = .ok (.getfield 41, 3) := by decide +kernel
theorem dX2_daysLikeSeason_16 : decode cX2_daysLikeSeason 16 = .ok (.iconst 1, 1) := by decide +kernel
theorem dX2_daysLikeSeason_17 : decode cX2_daysLikeSeason 17 = .ok (.isub, 1) := by decide +kernel
theorem dX2_daysLikeSeason_18 : decode cX2_daysLikeSeason 18 = .ok (.aload_n 0, 1) := by decide +kernel
theorem dX2_daysLikeSeason_19 : decode cX2_daysLikeSeason 19 = .ok (.getfield 67, 3) := by decide +kernel
theorem dX2_daysLikeSeason_22 : decode cX2_daysLikeSeason 22 = .ok (.imul, 1) := by decide +kernel
theorem dX2_daysLikeSeason_23 : decode cX2_daysLikeSeason 23 = .ok (.istore 4, 2) := by decide +kernel
theorem dX2_daysLikeSeason_25 : decode cX2_daysLikeSeason 25 = .ok (.iload_n 3, 1) := by decide +kernel
theorem dX2_daysLikeSeason_26 : decode cX2_daysLikeSeason 26 = .ok (.iload 4, 2) := by decide +kernel
theorem dX2_daysLikeSeason_28 : decode cX2_daysLikeSeason 28 = .ok (.invokestatic 91, 3) := by decide +kernel
theorem dX2_daysLikeSeason_31 : decode cX2_daysLikeSeason 31 = .ok (.iload_n 1, 1) := by decide +kernel
theorem dX2_daysLikeSeason_32 : decode cX2_daysLikeSeason 32 = .ok (.iconst 1, 1) := by decide +kernel
theorem dX2_daysLikeSeason_33 : decode cX2_daysLikeSeason 33 = .ok (.isub, 1) := by decide +kernel
theorem dX2_daysLikeSeason_34 : decode cX2_daysLikeSeason 34 = .ok (.aload_n 0, 1) := by decide +kernel
theorem dX2_daysLikeSeason_35 : decode cX2_daysLikeSeason 35 = .ok (.getfield 67, 3) := by decide +kernel
theorem dX2_daysLikeSeason_38 : decode cX2_daysLikeSeason 38 = .ok (.imul, 1) := by decide +kernel
theorem dX2_daysLikeSeason_39 : decode cX2_daysLikeSeason 39 = .ok (.isub, 1) := by decide +kernel
theorem dX2_daysLikeSeason_40 : decode cX2_daysLikeSeason 40 = .ok (.istore 5, 2) := by decide +kernel
theorem dX2_daysLikeSeason_42 : decode cX2_daysLikeSeason 42 = .ok (.iload_n 3, 1) := by decide +kernel
theorem dX2_daysLikeSeason_43 : decode cX2_daysLikeSeason 43 = .ok (.iload 4, 2) := by decide +kernel
theorem dX2_daysLikeSeason_45 : decode cX2_daysLikeSeason 45 = .ok (.invokestatic 103, 3) := by decide +kernel
theorem dX2_daysLikeSeason_48 : decode cX2_daysLikeSeason 48 = .ok (.aload_n 0, 1) := by decide +kernel
theorem dX2_daysLikeSeason_49 : decode cX2_daysLikeSeason 49 = .ok (.getfield 67, 3) := by decide +kernel
theorem dX2_daysLikeSeason_52 : decode cX2_daysLikeSeason 52 = .ok (.imul, 1) := by decide +kernel
theorem dX2_daysLikeSeason_53 : decode cX2_daysLikeSeason 53 = .ok (.iconst 0, 1) := by decide +kernel
theorem dX2_daysLikeSeason_54 : decode cX2_daysLikeSeason 54 = .ok (.aload_n 0, 1) := by decide +kernel
theorem dX2_daysLikeSeason_55 : decode cX2_daysLikeSeason 55 = .ok (.getfield 67, 3) := by decide +kernel
theorem dX2_daysLikeSeason_58 : decode cX2_daysLikeSeason 58 = .ok (.iload 5, 2) := by decide +kernel
theorem dX2_daysLikeSeason_60 : decode cX2_daysLikeSeason 60 = .ok (.invokestatic 109, 3) := by decide +kernel
theorem dX2_daysLikeSeason_63 : decode cX2_daysLikeSeason 63 = .ok (.invokestatic 95, 3) := by decide +kernel
theorem dX2_daysLikeSeason_66 : decode cX2_daysLikeSeason 66 = .ok (.iadd, 1) := by decide +kernel
theorem dX2_daysLikeSeason_67 : decode cX2_daysLikeSeason 67 = .ok (.ireturn, 1) := by decide +kernel
theorem dX2_daysAway_0 : decode cX2_daysAway 0 = .ok (.aload_n 0, 1) := by decide +kernel
theorem dX2_daysAway_1 : decode cX2_daysAway 1 = .ok (.iload_n 3, 1) := by decide +kernel
theorem dX2_daysAway_2 : decode cX2_daysAway 2 = .ok (.invokevirtual 112, 3) := by decide +kernel
theorem dX2_daysAway_5 : decode cX2_daysAway 5 = .ok (.istore 4, 2) := by decide +kernel
theorem dX2_daysAway_7 : decode cX2_daysAway 7 = .ok (.iload 4, 2) := by decide +kernel
theorem dX2_daysAway_9 : decode cX2_daysAway 9 = .ok (.istore 5, 2) := by decide +kernel
theorem dX2_daysAway_11 : decode cX2_daysAway 11 = .ok (.iload 5, 2) := by decide +kernel
theorem dX2_daysAway_13 : decode cX2_daysAway 13 = .ok (.iload 4, 2) := by decide +kernel
theorem dX2_daysAway_15 : decode cX2_daysAway 15 = .ok (.aload_n 0, 1) := by decide +kernel
theorem dX2_daysAway_16 : decode cX2_daysAway 16 = .ok (.getfield 41, 3) := by decide +kernel
theorem dX2_daysAway_19 : decode cX2_daysAway 19 = .ok (.iadd, 1) := by decide +kernel
theorem dX2_daysAway_20 : decode cX2_daysAway 20 = .ok (.if_icmp .gt 39, 3) := by decide +kernel
theorem dX2_daysAway_23 : decode cX2_daysAway 23 = .ok (.aload_n 0, 1) := by decide +kernel
theorem dX2_daysAway_24 : decode cX2_daysAway 24 = .ok (.iload_n 1, 1) := by decide +kernel
theorem dX2_daysAway_25 : decode cX2_daysAway 25 = .ok (.iload 5, 2) := by decide +kernel
theorem dX2_daysAway_27 : decode cX2_daysAway 27 = .ok (.invokevirtual 100, 3) := by decide +kernel
theorem dX2_daysAway_30 : decode cX2_daysAway 30 = .ok (.iload_n 2, 1) := by decide +kernel
theorem dX2_daysAway_31 : decode cX2_daysAway 31 = .ok (.if_icmp .ne 22, 3) := by decide +kernel
theorem dX2_daysAway_34 : decode cX2_daysAway 34 = .ok (.iconst 0, 1) := by decide +kernel
theorem dX2_daysAway_35 : decode cX2_daysAway 35 = .ok (.sipush 9999, 3) := by decide +kernel
theorem dX2_daysAway_38 : decode cX2_daysAway 38 = .ok (.aload_n 0, 1) := by decide +kernel
theorem dX2_daysAway_39 : decode cX2_daysAway 39 = .ok (.iload 5, 2) := by decide +kernel
theorem dX2_daysAway_41 : decode cX2_daysAway 41 = .ok (.invokevirtual 106, 3) := by decide +kernel
theorem dX2_daysAway_44 : decode cX2_daysAway 44 = .ok (.iload_n 3, 1) := by decide +kernel
theorem dX2_daysAway_45 : decode cX2_daysAway 45 = .ok (.isub, 1) := by decide +kernel
theorem dX2_daysAway_46 : decode cX2_daysAway 46 = .ok (.invokestatic 109, 3) := by decide +kernel
theorem dX2_daysAway_49 : decode cX2_daysAway 49 = .ok (.invokestatic 95, 3) := by decide +kernel
theorem dX2_daysAway_52 : decode cX2_daysAway 52 = .ok (.ireturn, 1) := by decide +kernel
theorem dX2_daysAway_53 : decode cX2_daysAway 53 = .ok (.iinc 5 1, 3) := by decide +kernel
theorem dX2_daysAway_56 : decode cX2_daysAway 56 = .ok (.goto (-45), 3) := by decide +kernel
theorem dX2_daysAway_59 : decode cX2_daysAway 59 = .ok (.sipush 9999, 3) := by decide +kernel
theorem dX2_daysAway_62 : decode cX2_daysAway 62 = .ok (.ireturn, 1) := by decide +kernel
theorem dX2_firstWar_0 : decode cX2_firstWar 0 = .ok (.iconst 0, 1) := by decide +kernel
theorem dX2_firstWar_1 : decode cX2_firstWar 1 = .ok (.istore 4, 2) := by decide +kernel
theorem dX2_firstWar_3 : decode cX2_firstWar 3 = .ok (.iload 4, 2) := by decide +kernel
theorem dX2_firstWar_5 : decode cX2_firstWar 5 = .ok (.aload_n 0, 1) := by decide +kernel
theorem dX2_firstWar_6 : decode cX2_firstWar 6 = .ok (.getfield 41, 3) := by decide +kernel
theorem dX2_firstWar_9 : decode cX2_firstWar 9 = .ok (.if_icmp .gt 40, 3) := by decide +kernel
theorem dX2_firstWar_12 : decode cX2_firstWar 12 = .ok (.aload_n 0, 1) := by decide +kernel
theorem dX2_firstWar_13 : decode cX2_firstWar 13 = .ok (.iload 4, 2) := by decide +kernel
theorem dX2_firstWar_15 : decode cX2_firstWar 15 = .ok (.invokevirtual 106, 3) := by decide +kernel
theorem dX2_firstWar_18 : decode cX2_firstWar 18 = .ok (.istore 5, 2) := by decide +kernel
theorem dX2_firstWar_20 : decode cX2_firstWar 20 = .ok (.iload 5, 2) := by decide +kernel
theorem dX2_firstWar_22 : decode cX2_firstWar 22 = .ok (.sipush 9999, 3) := by decide +kernel
theorem dX2_firstWar_25 : decode cX2_firstWar 25 = .ok (.if_icmp .gt 18, 3) := by decide +kernel
theorem dX2_firstWar_28 : decode cX2_firstWar 28 = .ok (.aload_n 0, 1) := by decide +kernel
theorem dX2_firstWar_29 : decode cX2_firstWar 29 = .ok (.iload_n 1, 1) := by decide +kernel
theorem dX2_firstWar_30 : decode cX2_firstWar 30 = .ok (.iload_n 2, 1) := by decide +kernel
theorem dX2_firstWar_31 : decode cX2_firstWar 31 = .ok (.iload 5, 2) := by decide +kernel
theorem dX2_firstWar_33 : decode cX2_firstWar 33 = .ok (.invokevirtual 115, 3) := by decide +kernel
theorem dX2_firstWar_36 : decode cX2_firstWar 36 = .ok (.iload_n 3, 1) := by decide +kernel
theorem dX2_firstWar_37 : decode cX2_firstWar 37 = .ok (.if_icmp .lt 6, 3) := by decide +kernel
theorem dX2_firstWar_40 : decode cX2_firstWar 40 = .ok (.iload 5, 2) := by decide +kernel
theorem dX2_firstWar_42 : decode cX2_firstWar 42 = .ok (.ireturn, 1) := by decide +kernel
theorem dX2_firstWar_43 : decode cX2_firstWar 43 = .ok (.iinc 4 1, 3) := by decide +kernel
theorem dX2_firstWar_46 : decode cX2_firstWar 46 = .ok (.goto (-43), 3) := by decide +kernel
theorem dX2_firstWar_49 : decode cX2_firstWar 49 = .ok (.bipush (-6), 2) := by decide +kernel
theorem dX2_firstWar_51 : decode cX2_firstWar 51 = .ok (.ireturn, 1) := by decide +kernel
theorem dX2_fursAfter_0 : decode cX2_fursAfter 0 = .ok (.iconst 0, 1) := by decide +kernel
theorem dX2_fursAfter_1 : decode cX2_fursAfter 1 = .ok (.istore_n 2, 1) := by decide +kernel
theorem dX2_fursAfter_2 : decode cX2_fursAfter 2 = .ok (.iconst 0, 1) := by decide +kernel
theorem dX2_fursAfter_3 : decode cX2_fursAfter 3 = .ok (.istore_n 3, 1) := by decide +kernel
theorem dX2_fursAfter_4 : decode cX2_fursAfter 4 = .ok (.iload_n 3, 1) := by decide +kernel
theorem dX2_fursAfter_5 : decode cX2_fursAfter 5 = .ok (.aload_n 0, 1) := by decide +kernel
theorem dX2_fursAfter_6 : decode cX2_fursAfter 6 = .ok (.getfield 41, 3) := by decide +kernel
theorem dX2_fursAfter_9 : decode cX2_fursAfter 9 = .ok (.if_icmp .ge 33, 3) := by decide +kernel
theorem dX2_fursAfter_12 : decode cX2_fursAfter 12 = .ok (.aload_n 0, 1) := by decide +kernel
theorem dX2_fursAfter_13 : decode cX2_fursAfter 13 = .ok (.iload_n 3, 1) := by decide +kernel
theorem dX2_fursAfter_14 : decode cX2_fursAfter 14 = .ok (.invokevirtual 82, 3) := by decide +kernel
theorem dX2_fursAfter_17 : decode cX2_fursAfter 17 = .ok (.ifCond .eq 19, 3) := by decide +kernel
theorem dX2_fursAfter_20 : decode cX2_fursAfter 20 = .ok (.iload_n 2, 1) := by decide +kernel
theorem dX2_fursAfter_21 : decode cX2_fursAfter 21 = .ok (.aload_n 0, 1) := by decide +kernel
theorem dX2_fursAfter_22 : decode cX2_fursAfter 22 = .ok (.getfield 32, 3) := by decide +kernel
theorem dX2_fursAfter_25 : decode cX2_fursAfter 25 = .ok (.aload_n 0, 1) := by decide +kernel
theorem dX2_fursAfter_26 : decode cX2_fursAfter 26 = .ok (.iload_n 3, 1) := by decide +kernel
theorem dX2_fursAfter_27 : decode cX2_fursAfter 27 = .ok (.iload_n 1, 1) := by decide +kernel
theorem dX2_fursAfter_28 : decode cX2_fursAfter 28 = .ok (.invokevirtual 100, 3) := by decide +kernel
theorem dX2_fursAfter_31 : decode cX2_fursAfter 31 = .ok (.invokevirtual 78, 3) := by decide +kernel
theorem dX2_fursAfter_34 : decode cX2_fursAfter 34 = .ok (.iadd, 1) := by decide +kernel
theorem dX2_fursAfter_35 : decode cX2_fursAfter 35 = .ok (.istore_n 2, 1) := by decide +kernel
theorem dX2_fursAfter_36 : decode cX2_fursAfter 36 = .ok (.iinc 3 1, 3) := by decide +kernel
theorem dX2_fursAfter_39 : decode cX2_fursAfter 39 = .ok (.goto (-35), 3) := by decide +kernel
theorem dX2_fursAfter_42 : decode cX2_fursAfter 42 = .ok (.iload_n 2, 1) := by decide +kernel
theorem dX2_fursAfter_43 : decode cX2_fursAfter 43 = .ok (.ireturn, 1) := by decide +kernel
theorem dX2_ownNames_0 : decode cX2_ownNames 0 = .ok (.iconst 0, 1) := by decide +kernel
theorem dX2_ownNames_1 : decode cX2_ownNames 1 = .ok (.istore_n 1, 1) := by decide +kernel
theorem dX2_ownNames_2 : decode cX2_ownNames 2 = .ok (.iconst 0, 1) := by decide +kernel
theorem dX2_ownNames_3 : decode cX2_ownNames 3 = .ok (.istore_n 2, 1) := by decide +kernel
theorem dX2_ownNames_4 : decode cX2_ownNames 4 = .ok (.iload_n 2, 1) := by decide +kernel
theorem dX2_ownNames_5 : decode cX2_ownNames 5 = .ok (.aload_n 0, 1) := by decide +kernel
theorem dX2_ownNames_6 : decode cX2_ownNames 6 = .ok (.getfield 41, 3) := by decide +kernel
theorem dX2_ownNames_9 : decode cX2_ownNames 9 = .ok (.if_icmp .ge 32, 3) := by decide +kernel
theorem dX2_ownNames_12 : decode cX2_ownNames 12 = .ok (.aload_n 0, 1) := by decide +kernel
theorem dX2_ownNames_13 : decode cX2_ownNames 13 = .ok (.iload_n 2, 1) := by decide +kernel
theorem dX2_ownNames_14 : decode cX2_ownNames 14 = .ok (.invokevirtual 82, 3) := by decide +kernel
theorem dX2_ownNames_17 : decode cX2_ownNames 17 = .ok (.ifCond .eq 18, 3) := by decide +kernel
theorem dX2_ownNames_20 : decode cX2_ownNames 20 = .ok (.aload_n 0, 1) := by decide +kernel
theorem dX2_ownNames_21 : decode cX2_ownNames 21 = .ok (.getfield 20, 3) := by decide +kernel
theorem dX2_ownNames_24 : decode cX2_ownNames 24 = .ok (.iload_n 2, 1) := by decide +kernel
theorem dX2_ownNames_25 : decode cX2_ownNames 25 = .ok (.invokevirtual 78, 3) := by decide +kernel
theorem dX2_ownNames_28 : decode cX2_ownNames 28 = .ok (.iload_n 2, 1) := by decide +kernel
theorem dX2_ownNames_29 : decode cX2_ownNames 29 = .ok (.if_icmp .ne 6, 3) := by decide +kernel
theorem dX2_ownNames_32 : decode cX2_ownNames 32 = .ok (.iinc 1 1, 3) := by decide +kernel
theorem dX2_ownNames_35 : decode cX2_ownNames 35 = .ok (.iinc 2 1, 3) := by decide +kernel
theorem dX2_ownNames_38 : decode cX2_ownNames 38 = .ok (.goto (-34), 3) := by decide +kernel
theorem dX2_ownNames_41 : decode cX2_ownNames 41 = .ok (.iload_n 1, 1) := by decide +kernel
theorem dX2_ownNames_42 : decode cX2_ownNames 42 = .ok (.ireturn, 1) := by decide +kernel
theorem dX2_emptyLands_0 : decode cX2_emptyLands 0 = .ok (.iconst 0, 1) := by decide +kernel
theorem dX2_emptyLands_1 : decode cX2_emptyLands 1 = .ok (.istore_n 1, 1) := by decide +kernel
theorem dX2_emptyLands_2 : decode cX2_emptyLands 2 = .ok (.iconst 0, 1) := by decide +kernel
theorem dX2_emptyLands_3 : decode cX2_emptyLands 3 = .ok (.istore_n 2, 1) := by decide +kernel
theorem dX2_emptyLands_4 : decode cX2_emptyLands 4 = .ok (.iload_n 2, 1) := by decide +kernel
theorem dX2_emptyLands_5 : decode cX2_emptyLands 5 = .ok (.aload_n 0, 1) := by decide +kernel
theorem dX2_emptyLands_6 : decode cX2_emptyLands 6 = .ok (.getfield 41, 3) := by decide +kernel
theorem dX2_emptyLands_9 : decode cX2_emptyLands 9 = .ok (.if_icmp .ge 24, 3) := by decide +kernel
theorem dX2_emptyLands_12 : decode cX2_emptyLands 12 = .ok (.aload_n 0, 1) := by decide +kernel
theorem dX2_emptyLands_13 : decode cX2_emptyLands 13 = .ok (.iload_n 2, 1) := by decide +kernel
theorem dX2_emptyLands_14 : decode cX2_emptyLands 14 = .ok (.iconst 0, 1) := by decide +kernel
theorem dX2_emptyLands_15 : decode cX2_emptyLands 15 = .ok (.invokevirtual 119, 3) := by decide +kernel
theorem dX2_emptyLands_18 : decode cX2_emptyLands 18 = .ok (.ifCond .ne 9, 3) := by decide +kernel
theorem dX2_emptyLands_21 : decode cX2_emptyLands 21 = .ok (.iload_n 1, 1) := by decide +kernel
theorem dX2_emptyLands_22 : decode cX2_emptyLands 22 = .ok (.iconst 1, 1) := by decide +kernel
theorem dX2_emptyLands_23 : decode cX2_emptyLands 23 = .ok (.iload_n 2, 1) := by decide +kernel
theorem dX2_emptyLands_24 : decode cX2_emptyLands 24 = .ok (.ishl, 1) := by decide +kernel
theorem dX2_emptyLands_25 : decode cX2_emptyLands 25 = .ok (.ior, 1) := by decide +kernel
theorem dX2_emptyLands_26 : decode cX2_emptyLands 26 = .ok (.istore_n 1, 1) := by decide +kernel
theorem dX2_emptyLands_27 : decode cX2_emptyLands 27 = .ok (.iinc 2 1, 3) := by decide +kernel
theorem dX2_emptyLands_30 : decode cX2_emptyLands 30 = .ok (.goto (-26), 3) := by decide +kernel
theorem dX2_emptyLands_33 : decode cX2_emptyLands 33 = .ok (.iload_n 1, 1) := by decide +kernel
theorem dX2_emptyLands_34 : decode cX2_emptyLands 34 = .ok (.ireturn, 1) := by decide +kernel
theorem dX3_init_0 : decode cX3_init 0 = .ok (.aload_n 0, 1) := by decide +kernel
theorem dX3_init_1 : decode cX3_init 1 = .ok (.invokespecial 1, 3) := by decide +kernel
theorem dX3_init_4 : decode cX3_init 4 = .ok (.aload_n 0, 1) := by decide +kernel
theorem dX3_init_5 : decode cX3_init 5 = .ok (.iload_n 1, 1) := by decide +kernel
theorem dX3_init_6 : decode cX3_init 6 = .ok (.ifCond .ge 7, 3) := by decide +kernel
theorem dX3_init_9 : decode cX3_init 9 = .ok (.iconst 0, 1) := by decide +kernel
theorem dX3_init_10 : decode cX3_init 10 = .ok (.goto 4, 3) := by decide +kernel
theorem dX3_init_13 : decode cX3_init 13 = .ok (.iload_n 1, 1) := by decide +kernel
theorem dX3_init_14 : decode cX3_init 14 = .ok (.newarray .int, 2) := by decide +kernel
theorem dX3_init_16 : decode cX3_init 16 = .ok (.putfield 7, 3) := by decide +kernel
theorem dX3_init_19 : decode cX3_init 19 = .ok (.return_, 1) := by decide +kernel
theorem dX3_get_0 : decode cX3_get 0 = .ok (.iload_n 1, 1) := by decide +kernel
theorem dX3_get_1 : decode cX3_get 1 = .ok (.ifCond .lt 21, 3) := by decide +kernel
theorem dX3_get_4 : decode cX3_get 4 = .ok (.iload_n 1, 1) := by decide +kernel
theorem dX3_get_5 : decode cX3_get 5 = .ok (.aload_n 0, 1) := by decide +kernel
theorem dX3_get_6 : decode cX3_get 6 = .ok (.getfield 7, 3) := by decide +kernel
theorem dX3_get_9 : decode cX3_get 9 = .ok (.arraylength, 1) := by decide +kernel
theorem dX3_get_10 : decode cX3_get 10 = .ok (.if_icmp .ge 12, 3) := by decide +kernel
theorem dX3_get_13 : decode cX3_get 13 = .ok (.aload_n 0, 1) := by decide +kernel
theorem dX3_get_14 : decode cX3_get 14 = .ok (.getfield 7, 3) := by decide +kernel
theorem dX3_get_17 : decode cX3_get 17 = .ok (.iload_n 1, 1) := by decide +kernel
theorem dX3_get_18 : decode cX3_get 18 = .ok (.iaload, 1) := by decide +kernel
theorem dX3_get_19 : decode cX3_get 19 = .ok (.goto 4, 3) := by decide +kernel
theorem dX3_get_22 : decode cX3_get 22 = .ok (.iconst 0, 1) := by decide +kernel
theorem dX3_get_23 : decode cX3_get 23 = .ok (.ireturn, 1) := by decide +kernel
theorem dX3_put_0 : decode cX3_put 0 = .ok (.iload_n 1, 1) := by decide +kernel
theorem dX3_put_1 : decode cX3_put 1 = .ok (.ifCond .lt 19, 3) := by decide +kernel
theorem dX3_put_4 : decode cX3_put 4 = .ok (.iload_n 1, 1) := by decide +kernel
theorem dX3_put_5 : decode cX3_put 5 = .ok (.aload_n 0, 1) := by decide +kernel
theorem dX3_put_6 : decode cX3_put 6 = .ok (.getfield 7, 3) := by decide +kernel
theorem dX3_put_9 : decode cX3_put 9 = .ok (.arraylength, 1) := by decide +kernel
theorem dX3_put_10 : decode cX3_put 10 = .ok (.if_icmp .ge 10, 3) := by decide +kernel
theorem dX3_put_13 : decode cX3_put 13 = .ok (.aload_n 0, 1) := by decide +kernel
theorem dX3_put_14 : decode cX3_put 14 = .ok (.getfield 7, 3) := by decide +kernel
theorem dX3_put_17 : decode cX3_put 17 = .ok (.iload_n 1, 1) := by decide +kernel
theorem dX3_put_18 : decode cX3_put 18 = .ok (.iload_n 2, 1) := by decide +kernel
theorem dX3_put_19 : decode cX3_put 19 = .ok (.iastore, 1) := by decide +kernel
theorem dX3_put_20 : decode cX3_put 20 = .ok (.return_, 1) := by decide +kernel
theorem dX3_fill_0 : decode cX3_fill 0 = .ok (.iconst 0, 1) := by decide +kernel
theorem dX3_fill_1 : decode cX3_fill 1 = .ok (.istore_n 2, 1) := by decide +kernel
theorem dX3_fill_2 : decode cX3_fill 2 = .ok (.iload_n 2, 1) := by decide +kernel
theorem dX3_fill_3 : decode cX3_fill 3 = .ok (.aload_n 0, 1) := by decide +kernel
theorem dX3_fill_4 : decode cX3_fill 4 = .ok (.getfield 7, 3) := by decide +kernel
theorem dX3_fill_7 : decode cX3_fill 7 = .ok (.arraylength, 1) := by decide +kernel
theorem dX3_fill_8 : decode cX3_fill 8 = .ok (.if_icmp .ge 16, 3) := by decide +kernel
theorem dX3_fill_11 : decode cX3_fill 11 = .ok (.aload_n 0, 1) := by decide +kernel
theorem dX3_fill_12 : decode cX3_fill 12 = .ok (.getfield 7, 3) := by decide +kernel
theorem dX3_fill_15 : decode cX3_fill 15 = .ok (.iload_n 2, 1) := by decide +kernel
theorem dX3_fill_16 : decode cX3_fill 16 = .ok (.iload_n 1, 1) := by decide +kernel
theorem dX3_fill_17 : decode cX3_fill 17 = .ok (.iastore, 1) := by decide +kernel
theorem dX3_fill_18 : decode cX3_fill 18 = .ok (.iinc 2 1, 3) := by decide +kernel
theorem dX3_fill_21 : decode cX3_fill 21 = .ok (.goto (-19), 3) := by decide +kernel
theorem dX3_fill_24 : decode cX3_fill 24 = .ok (.return_, 1) := by decide +kernel
theorem dX3_takeOver_0 : decode cX3_takeOver 0 = .ok (.iconst 0, 1) := by decide +kernel
theorem dX3_takeOver_1 : decode cX3_takeOver 1 = .ok (.istore_n 2, 1) := by decide +kernel
theorem dX3_takeOver_2 : decode cX3_takeOver 2 = .ok (.iload_n 2, 1) := by decide +kernel
theorem dX3_takeOver_3 : decode cX3_takeOver 3 = .ok (.aload_n 0, 1) := by decide +kernel
theorem dX3_takeOver_4 : decode cX3_takeOver 4 = .ok (.getfield 7, 3) := by decide +kernel
theorem dX3_takeOver_7 : decode cX3_takeOver 7 = .ok (.arraylength, 1) := by decide +kernel
theorem dX3_takeOver_8 : decode cX3_takeOver 8 = .ok (.if_icmp .ge 20, 3) := by decide +kernel
theorem dX3_takeOver_11 : decode cX3_takeOver 11 = .ok (.aload_n 0, 1) := by decide +kernel
theorem dX3_takeOver_12 : decode cX3_takeOver 12 = .ok (.getfield 7, 3) := by decide +kernel
theorem dX3_takeOver_15 : decode cX3_takeOver 15 = .ok (.iload_n 2, 1) := by decide +kernel
theorem dX3_takeOver_16 : decode cX3_takeOver 16 = .ok (.aload_n 1, 1) := by decide +kernel
theorem dX3_takeOver_17 : decode cX3_takeOver 17 = .ok (.iload_n 2, 1) := by decide +kernel
theorem dX3_takeOver_18 : decode cX3_takeOver 18 = .ok (.invokevirtual 13, 3) := by decide +kernel
theorem dX3_takeOver_21 : decode cX3_takeOver 21 = .ok (.iastore, 1) := by decide +kernel
theorem dX3_takeOver_22 : decode cX3_takeOver 22 = .ok (.iinc 2 1, 3) := by decide +kernel
theorem dX3_takeOver_25 : decode cX3_takeOver 25 = .ok (.goto (-23), 3) := by decide +kernel
theorem dX3_takeOver_28 : decode cX3_takeOver 28 = .ok (.return_, 1) := by decide +kernel
theorem dX4_init_0 : decode cX4_init 0 = .ok (.aload_n 0, 1) := by decide +kernel
theorem dX4_init_1 : decode cX4_init 1 = .ok (.invokespecial 3, 3) := by decide +kernel
theorem dX4_init_4 : decode cX4_init 4 = .ok (.aload_n 0, 1) := by decide +kernel
theorem dX4_init_5 : decode cX4_init 5 = .ok (.new 9, 3) := by decide +kernel
theorem dX4_init_8 : decode cX4_init 8 = .ok (.dup, 1) := by decide +kernel
theorem dX4_init_9 : decode cX4_init 9 = .ok (.bipush 6, 2) := by decide +kernel
theorem dX4_init_11 : decode cX4_init 11 = .ok (.invokespecial 11, 3) := by decide +kernel
theorem dX4_init_14 : decode cX4_init 14 = .ok (.putfield 14, 3) := by decide +kernel
theorem dX4_init_17 : decode cX4_init 17 = .ok (.aload_n 0, 1) := by decide +kernel
theorem dX4_init_18 : decode cX4_init 18 = .ok (.new 9, 3) := by decide +kernel
theorem dX4_init_21 : decode cX4_init 21 = .ok (.dup, 1) := by decide +kernel
theorem dX4_init_22 : decode cX4_init 22 = .ok (.bipush 64, 2) := by decide +kernel
theorem dX4_init_24 : decode cX4_init 24 = .ok (.invokespecial 11, 3) := by decide +kernel
theorem dX4_init_27 : decode cX4_init 27 = .ok (.putfield 20, 3) := by decide +kernel
theorem dX4_init_30 : decode cX4_init 30 = .ok (.return_, 1) := by decide +kernel
theorem dX4_mostTwos_0 : decode cX4_mostTwos 0 = .ok (.iconst 0, 1) := by decide +kernel
theorem dX4_mostTwos_1 : decode cX4_mostTwos 1 = .ok (.istore_n 3, 1) := by decide +kernel
theorem dX4_mostTwos_2 : decode cX4_mostTwos 2 = .ok (.iload_n 3, 1) := by decide +kernel
theorem dX4_mostTwos_3 : decode cX4_mostTwos 3 = .ok (.aload_n 1, 1) := by decide +kernel
theorem dX4_mostTwos_4 : decode cX4_mostTwos 4 = .ok (.getfield 23, 3) := by decide +kernel
theorem dX4_mostTwos_7 : decode cX4_mostTwos 7 = .ok (.if_icmp .ge 23, 3) := by decide +kernel
theorem dX4_mostTwos_10 : decode cX4_mostTwos 10 = .ok (.aload_n 0, 1) := by decide +kernel
theorem dX4_mostTwos_11 : decode cX4_mostTwos 11 = .ok (.getfield 14, 3) := by decide +kernel
theorem dX4_mostTwos_14 : decode cX4_mostTwos 14 = .ok (.iload_n 3, 1) := by decide +kernel
theorem dX4_mostTwos_15 : decode cX4_mostTwos 15 = .ok (.aload_n 1, 1) := by decide +kernel
theorem dX4_mostTwos_16 : decode cX4_mostTwos 16 = .ok (.iload_n 3, 1) := by decide +kernel
theorem dX4_mostTwos_17 : decode cX4_mostTwos 17 = .ok (.iload_n 2, 1) := by decide +kernel
theorem dX4_mostTwos_18 : decode cX4_mostTwos 18 = .ok (.invokestatic 29, 3) := by decide +kernel
theorem dX4_mostTwos_21 : decode cX4_mostTwos 21 = .ok (.invokevirtual 33, 3) := by decide +kernel
theorem dX4_mostTwos_24 : decode cX4_mostTwos 24 = .ok (.iinc 3 1, 3) := by decide +kernel
theorem dX4_mostTwos_27 : decode cX4_mostTwos 27 = .ok (.goto (-25), 3) := by decide +kernel
theorem dX4_mostTwos_30 : decode cX4_mostTwos 30 = .ok (.iconst 1, 1) := by decide +kernel
theorem dX4_mostTwos_31 : decode cX4_mostTwos 31 = .ok (.aload_n 1, 1) := by decide +kernel
theorem dX4_mostTwos_32 : decode cX4_mostTwos 32 = .ok (.getfield 23, 3) := by decide +kernel
theorem dX4_mostTwos_35 : decode cX4_mostTwos 35 = .ok (.ishl, 1) := by decide +kernel
theorem dX4_mostTwos_36 : decode cX4_mostTwos 36 = .ok (.iconst 1, 1) := by decide +kernel
theorem dX4_mostTwos_37 : decode cX4_mostTwos 37 = .ok (.isub, 1) := by decide +kernel
theorem dX4_mostTwos_38 : decode cX4_mostTwos 38 = .ok (.istore_n 3, 1) := by decide +kernel
theorem dX4_mostTwos_39 : decode cX4_mostTwos 39 = .ok (.aload_n 0, 1) := by decide +kernel
theorem dX4_mostTwos_40 : decode cX4_mostTwos 40 = .ok (.getfield 20, 3) := by decide +kernel
theorem dX4_mostTwos_43 : decode cX4_mostTwos 43 = .ok (.iconst 0, 1) := by decide +kernel
theorem dX4_mostTwos_44 : decode cX4_mostTwos 44 = .ok (.iconst 0, 1) := by decide +kernel
theorem dX4_mostTwos_45 : decode cX4_mostTwos 45 = .ok (.invokevirtual 33, 3) := by decide +kernel
theorem dX4_mostTwos_48 : decode cX4_mostTwos 48 = .ok (.iconst 1, 1) := by decide +kernel
theorem dX4_mostTwos_49 : decode cX4_mostTwos 49 = .ok (.istore 4, 2) := by decide +kernel
theorem dX4_mostTwos_51 : decode cX4_mostTwos 51 = .ok (.iload 4, 2) := by decide +kernel
theorem dX4_mostTwos_53 : decode cX4_mostTwos 53 = .ok (.iload_n 3, 1) := by decide +kernel
theorem dX4_mostTwos_54 : decode cX4_mostTwos 54 = .ok (.if_icmp .gt 24, 3) := by decide +kernel
theorem dX4_mostTwos_57 : decode cX4_mostTwos 57 = .ok (.aload_n 0, 1) := by decide +kernel
theorem dX4_mostTwos_58 : decode cX4_mostTwos 58 = .ok (.getfield 20, 3) := by decide +kernel
theorem dX4_mostTwos_61 : decode cX4_mostTwos 61 = .ok (.iload 4, 2) := by decide +kernel
theorem dX4_mostTwos_63 : decode cX4_mostTwos 63 = .ok (.aload_n 0, 1) := by decide +kernel
theorem dX4_mostTwos_64 : decode cX4_mostTwos 64 = .ok (.iload 4, 2) := by decide +kernel
theorem dX4_mostTwos_66 : decode cX4_mostTwos 66 = .ok (.invokevirtual 37, 3) := by decide +kernel
theorem dX4_mostTwos_69 : decode cX4_mostTwos 69 = .ok (.invokevirtual 33, 3) := by decide +kernel
theorem dX4_mostTwos_72 : decode cX4_mostTwos 72 = .ok (.iinc 4 1, 3) := by decide +kernel
theorem dX4_mostTwos_75 : decode cX4_mostTwos 75 = .ok (.goto (-24), 3) := by decide +kernel
theorem dX4_mostTwos_78 : decode cX4_mostTwos 78 = .ok (.aload_n 0, 1) := by decide +kernel
theorem dX4_mostTwos_79 : decode cX4_mostTwos 79 = .ok (.getfield 20, 3) := by decide +kernel
theorem dX4_mostTwos_82 : decode cX4_mostTwos 82 = .ok (.iload_n 3, 1) := by decide +kernel
theorem dX4_mostTwos_83 : decode cX4_mostTwos 83 = .ok (.invokevirtual 41, 3) := by decide +kernel
theorem dX4_mostTwos_86 : decode cX4_mostTwos 86 = .ok (.ireturn, 1) := by decide +kernel
theorem dX4_bestOf_0 : decode cX4_bestOf 0 = .ok (.iload_n 1, 1) := by decide +kernel
theorem dX4_bestOf_1 : decode cX4_bestOf 1 = .ok (.invokestatic 44, 3) := by decide +kernel
theorem dX4_bestOf_4 : decode cX4_bestOf 4 = .ok (.istore_n 2, 1) := by decide +kernel
theorem dX4_bestOf_5 : decode cX4_bestOf 5 = .ok (.iload_n 1, 1) := by decide +kernel
theorem dX4_bestOf_6 : decode cX4_bestOf 6 = .ok (.iconst 1, 1) := by decide +kernel
theorem dX4_bestOf_7 : decode cX4_bestOf 7 = .ok (.iload_n 2, 1) := by decide +kernel
theorem dX4_bestOf_8 : decode cX4_bestOf 8 = .ok (.ishl, 1) := by decide +kernel
theorem dX4_bestOf_9 : decode cX4_bestOf 9 = .ok (.iconst (-1), 1) := by decide +kernel
theorem dX4_bestOf_10 : decode cX4_bestOf 10 = .ok (.ixor, 1) := by decide +kernel
theorem dX4_bestOf_11 : decode cX4_bestOf 11 = .ok (.iand, 1) := by decide +kernel
theorem dX4_bestOf_12 : decode cX4_bestOf 12 = .ok (.istore_n 3, 1) := by decide +kernel
theorem dX4_bestOf_13 : decode cX4_bestOf 13 = .ok (.aload_n 0, 1) := by decide +kernel
theorem dX4_bestOf_14 : decode cX4_bestOf 14 = .ok (.getfield 20, 3) := by decide +kernel
theorem dX4_bestOf_17 : decode cX4_bestOf 17 = .ok (.iload_n 3, 1) := by decide +kernel
theorem dX4_bestOf_18 : decode cX4_bestOf 18 = .ok (.invokevirtual 41, 3) := by decide +kernel
theorem dX4_bestOf_21 : decode cX4_bestOf 21 = .ok (.istore 4, 2) := by decide +kernel
theorem dX4_bestOf_23 : decode cX4_bestOf 23 = .ok (.iload_n 2, 1) := by decide +kernel
theorem dX4_bestOf_24 : decode cX4_bestOf 24 = .ok (.iconst 1, 1) := by decide +kernel
theorem dX4_bestOf_25 : decode cX4_bestOf 25 = .ok (.iadd, 1) := by decide +kernel
theorem dX4_bestOf_26 : decode cX4_bestOf 26 = .ok (.istore 5, 2) := by decide +kernel
theorem dX4_bestOf_28 : decode cX4_bestOf 28 = .ok (.iload 5, 2) := by decide +kernel
theorem dX4_bestOf_30 : decode cX4_bestOf 30 = .ok (.bipush 6, 2) := by decide +kernel
theorem dX4_bestOf_32 : decode cX4_bestOf 32 = .ok (.if_icmp .ge 51, 3) := by decide +kernel
theorem dX4_bestOf_35 : decode cX4_bestOf 35 = .ok (.iload_n 3, 1) := by decide +kernel
theorem dX4_bestOf_36 : decode cX4_bestOf 36 = .ok (.aload_n 0, 1) := by decide +kernel
theorem dX4_bestOf_37 : decode cX4_bestOf 37 = .ok (.getfield 14, 3) := by decide +kernel
theorem dX4_bestOf_40 : decode cX4_bestOf 40 = .ok (.iload_n 2, 1) := by decide +kernel
theorem dX4_bestOf_41 : decode cX4_bestOf 41 = .ok (.invokevirtual 41, 3) := by decide +kernel
theorem dX4_bestOf_44 : decode cX4_bestOf 44 = .ok (.iand, 1) := by decide +kernel
theorem dX4_bestOf_45 : decode cX4_bestOf 45 = .ok (.iconst 1, 1) := by decide +kernel
theorem dX4_bestOf_46 : decode cX4_bestOf 46 = .ok (.iload 5, 2) := by decide +kernel
theorem dX4_bestOf_48 : decode cX4_bestOf 48 = .ok (.ishl, 1) := by decide +kernel
theorem dX4_bestOf_49 : decode cX4_bestOf 49 = .ok (.iand, 1) := by decide +kernel
theorem dX4_bestOf_50 : decode cX4_bestOf 50 = .ok (.ifCond .eq 27, 3) := by decide +kernel
theorem dX4_bestOf_53 : decode cX4_bestOf 53 = .ok (.iload 4, 2) := by decide +kernel
theorem dX4_bestOf_55 : decode cX4_bestOf 55 = .ok (.iconst 1, 1) := by decide +kernel
theorem dX4_bestOf_56 : decode cX4_bestOf 56 = .ok (.aload_n 0, 1) := by decide +kernel
theorem dX4_bestOf_57 : decode cX4_bestOf 57 = .ok (.getfield 20, 3) := by decide +kernel
theorem dX4_bestOf_60 : decode cX4_bestOf 60 = .ok (.iload_n 3, 1) := by decide +kernel
theorem dX4_bestOf_61 : decode cX4_bestOf 61 = .ok (.iconst 1, 1) := by decide +kernel
theorem dX4_bestOf_62 : decode cX4_bestOf 62 = .ok (.iload 5, 2) := by decide +kernel
theorem dX4_bestOf_64 : decode cX4_bestOf 64 = .ok (.ishl, 1) := by decide +kernel
theorem dX4_bestOf_65 : decode cX4_bestOf 65 = .ok (.iconst (-1), 1) := by decide +kernel
theorem dX4_bestOf_66 : decode cX4_bestOf 66 = .ok (.ixor, 1) := by decide +kernel
theorem dX4_bestOf_67 : decode cX4_bestOf 67 = .ok (.iand, 1) := by decide +kernel
theorem dX4_bestOf_68 : decode cX4_bestOf 68 = .ok (.invokevirtual 41, 3) := by decide +kernel
theorem dX4_bestOf_71 : decode cX4_bestOf 71 = .ok (.iadd, 1) := by decide +kernel
theorem dX4_bestOf_72 : decode cX4_bestOf 72 = .ok (.invokestatic 49, 3) := by decide +kernel
theorem dX4_bestOf_75 : decode cX4_bestOf 75 = .ok (.istore 4, 2) := by decide +kernel
theorem dX4_bestOf_77 : decode cX4_bestOf 77 = .ok (.iinc 5 1, 3) := by decide +kernel
theorem dX4_bestOf_80 : decode cX4_bestOf 80 = .ok (.goto (-52), 3) := by decide +kernel
theorem dX4_bestOf_83 : decode cX4_bestOf 83 = .ok (.iload 4, 2) := by decide +kernel
theorem dX4_bestOf_85 : decode cX4_bestOf 85 = .ok (.ireturn, 1) := by decide +kernel
theorem dX4_matesOf_0 : decode cX4_matesOf 0 = .ok (.iconst 0, 1) := by decide +kernel
theorem dX4_matesOf_1 : decode cX4_matesOf 1 = .ok (.istore_n 3, 1) := by decide +kernel
theorem dX4_matesOf_2 : decode cX4_matesOf 2 = .ok (.iconst 0, 1) := by decide +kernel
theorem dX4_matesOf_3 : decode cX4_matesOf 3 = .ok (.istore 4, 2) := by decide +kernel
theorem dX4_matesOf_5 : decode cX4_matesOf 5 = .ok (.iload 4, 2) := by decide +kernel
theorem dX4_matesOf_7 : decode cX4_matesOf 7 = .ok (.aload_n 0, 1) := by decide +kernel
theorem dX4_matesOf_8 : decode cX4_matesOf 8 = .ok (.getfield 23, 3) := by decide +kernel
theorem dX4_matesOf_11 : decode cX4_matesOf 11 = .ok (.if_icmp .ge 50, 3) := by decide +kernel
theorem dX4_matesOf_14 : decode cX4_matesOf 14 = .ok (.iload 4, 2) := by decide +kernel
theorem dX4_matesOf_16 : decode cX4_matesOf 16 = .ok (.iload_n 1, 1) := by decide +kernel
theorem dX4_matesOf_17 : decode cX4_matesOf 17 = .ok (.if_icmp .eq 38, 3) := by decide +kernel
theorem dX4_matesOf_20 : decode cX4_matesOf 20 = .ok (.aload_n 0, 1) := by decide +kernel
theorem dX4_matesOf_21 : decode cX4_matesOf 21 = .ok (.iload_n 1, 1) := by decide +kernel
theorem dX4_matesOf_22 : decode cX4_matesOf 22 = .ok (.invokestatic 55, 3) := by decide +kernel
theorem dX4_matesOf_25 : decode cX4_matesOf 25 = .ok (.ifCond .eq 30, 3) := by decide +kernel
theorem dX4_matesOf_28 : decode cX4_matesOf 28 = .ok (.aload_n 0, 1) := by decide +kernel
theorem dX4_matesOf_29 : decode cX4_matesOf 29 = .ok (.iload 4, 2) := by decide +kernel
theorem dX4_matesOf_31 : decode cX4_matesOf 31 = .ok (.invokestatic 55, 3) := by decide +kernel
theorem dX4_matesOf_34 : decode cX4_matesOf 34 = .ok (.ifCond .eq 21, 3) := by decide +kernel
theorem dX4_matesOf_37 : decode cX4_matesOf 37 = .ok (.aload_n 0, 1) := by decide +kernel
theorem dX4_matesOf_38 : decode cX4_matesOf 38 = .ok (.iload_n 1, 1) := by decide +kernel
theorem dX4_matesOf_39 : decode cX4_matesOf 39 = .ok (.iload 4, 2) := by decide +kernel
theorem dX4_matesOf_41 : decode cX4_matesOf 41 = .ok (.iload_n 2, 1) := by decide +kernel
theorem dX4_matesOf_42 : decode cX4_matesOf 42 = .ok (.invokestatic 59, 3) := by decide +kernel
theorem dX4_matesOf_45 : decode cX4_matesOf 45 = .ok (.ifCond .eq 10, 3) := by decide +kernel
theorem dX4_matesOf_48 : decode cX4_matesOf 48 = .ok (.iload_n 3, 1) := by decide +kernel
theorem dX4_matesOf_49 : decode cX4_matesOf 49 = .ok (.iconst 1, 1) := by decide +kernel
theorem dX4_matesOf_50 : decode cX4_matesOf 50 = .ok (.iload 4, 2) := by decide +kernel
theorem dX4_matesOf_52 : decode cX4_matesOf 52 = .ok (.ishl, 1) := by decide +kernel
theorem dX4_matesOf_53 : decode cX4_matesOf 53 = .ok (.ior, 1) := by decide +kernel
theorem dX4_matesOf_54 : decode cX4_matesOf 54 = .ok (.istore_n 3, 1) := by decide +kernel
theorem dX4_matesOf_55 : decode cX4_matesOf 55 = .ok (.iinc 4 1, 3) := by decide +kernel
theorem dX4_matesOf_58 : decode cX4_matesOf 58 = .ok (.goto (-53), 3) := by decide +kernel
theorem dX4_matesOf_61 : decode cX4_matesOf 61 = .ok (.iload_n 3, 1) := by decide +kernel
theorem dX4_matesOf_62 : decode cX4_matesOf 62 = .ok (.ireturn, 1) := by decide +kernel
theorem dX4_isFree_0 : decode cX4_isFree 0 = .ok (.aload_n 0, 1) := by decide +kernel
theorem dX4_isFree_1 : decode cX4_isFree 1 = .ok (.iload_n 1, 1) := by decide +kernel
theorem dX4_isFree_2 : decode cX4_isFree 2 = .ok (.invokevirtual 63, 3) := by decide +kernel
theorem dX4_isFree_5 : decode cX4_isFree 5 = .ok (.ifCond .eq 19, 3) := by decide +kernel
theorem dX4_isFree_8 : decode cX4_isFree 8 = .ok (.aload_n 0, 1) := by decide +kernel
theorem dX4_isFree_9 : decode cX4_isFree 9 = .ok (.getfield 67, 3) := by decide +kernel
theorem dX4_isFree_12 : decode cX4_isFree 12 = .ok (.iload_n 1, 1) := by decide +kernel
theorem dX4_isFree_13 : decode cX4_isFree 13 = .ok (.invokevirtual 41, 3) := by decide +kernel
theorem dX4_isFree_16 : decode cX4_isFree 16 = .ok (.iconst 2, 1) := by decide +kernel
theorem dX4_isFree_17 : decode cX4_isFree 17 = .ok (.if_icmp .eq 7, 3) := by decide +kernel
theorem dX4_isFree_20 : decode cX4_isFree 20 = .ok (.iconst 1, 1) := by decide +kernel
theorem dX4_isFree_21 : decode cX4_isFree 21 = .ok (.goto 4, 3) := by decide +kernel
theorem dX4_isFree_24 : decode cX4_isFree 24 = .ok (.iconst 0, 1) := by decide +kernel
theorem dX4_isFree_25 : decode cX4_isFree 25 = .ok (.ireturn, 1) := by decide +kernel
theorem dX4_areApart_0 : decode cX4_areApart 0 = .ok (.iconst 0, 1) := by decide +kernel
theorem dX4_areApart_1 : decode cX4_areApart 1 = .ok (.istore 4, 2) := by decide +kernel
theorem dX4_areApart_3 : decode cX4_areApart 3 = .ok (.iload 4, 2) := by decide +kernel
theorem dX4_areApart_5 : decode cX4_areApart 5 = .ok (.iload_n 3, 1) := by decide +kernel
theorem dX4_areApart_6 : decode cX4_areApart 6 = .ok (.if_icmp .ge 22, 3) := by decide +kernel
theorem dX4_areApart_9 : decode cX4_areApart 9 = .ok (.aload_n 0, 1) := by decide +kernel
theorem dX4_areApart_10 : decode cX4_areApart 10 = .ok (.iload_n 1, 1) := by decide +kernel
theorem dX4_areApart_11 : decode cX4_areApart 11 = .ok (.iload_n 2, 1) := by decide +kernel
theorem dX4_areApart_12 : decode cX4_areApart 12 = .ok (.iload 4, 2) := by decide +kernel
theorem dX4_areApart_14 : decode cX4_areApart 14 = .ok (.invokevirtual 70, 3) := by decide +kernel
theorem dX4_areApart_17 : decode cX4_areApart 17 = .ok (.ifCond .eq 5, 3) := by decide +kernel
theorem dX4_areApart_20 : decode cX4_areApart 20 = .ok (.iconst 0, 1) := by decide +kernel
theorem dX4_areApart_21 : decode cX4_areApart 21 = .ok (.ireturn, 1) := by decide +kernel
theorem dX4_areApart_22 : decode cX4_areApart 22 = .ok (.iinc 4 1, 3) := by decide +kernel
theorem dX4_areApart_25 : decode cX4_areApart 25 = .ok (.goto (-22), 3) := by decide +kernel
theorem dX4_areApart_28 : decode cX4_areApart 28 = .ok (.iconst 1, 1) := by decide +kernel
theorem dX4_areApart_29 : decode cX4_areApart 29 = .ok (.ireturn, 1) := by decide +kernel
theorem dX5_init_0 : decode cX5_init 0 = .ok (.aload_n 0, 1) := by decide +kernel
theorem dX5_init_1 : decode cX5_init 1 = .ok (.invokespecial 3, 3) := by decide +kernel
theorem dX5_init_4 : decode cX5_init 4 = .ok (.return_, 1) := by decide +kernel
theorem dX5_canBe_0 : decode cX5_canBe 0 = .ok (.aload_n 2, 1) := by decide +kernel
theorem dX5_canBe_1 : decode cX5_canBe 1 = .ok (.aload_n 1, 1) := by decide +kernel
theorem dX5_canBe_2 : decode cX5_canBe 2 = .ok (.invokevirtual 9, 3) := by decide +kernel
theorem dX5_canBe_5 : decode cX5_canBe 5 = .ok (.aload_n 2, 1) := by decide +kernel
theorem dX5_canBe_6 : decode cX5_canBe 6 = .ok (.getfield 15, 3) := by decide +kernel
theorem dX5_canBe_9 : decode cX5_canBe 9 = .ok (.iconst 0, 1) := by decide +kernel
theorem dX5_canBe_10 : decode cX5_canBe 10 = .ok (.invokevirtual 19, 3) := by decide +kernel
theorem dX5_canBe_13 : decode cX5_canBe 13 = .ok (.aload_n 0, 1) := by decide +kernel
theorem dX5_canBe_14 : decode cX5_canBe 14 = .ok (.iconst 0, 1) := by decide +kernel
theorem dX5_canBe_15 : decode cX5_canBe 15 = .ok (.putfield 25, 3) := by decide +kernel
theorem dX5_canBe_18 : decode cX5_canBe 18 = .ok (.aload_n 0, 1) := by decide +kernel
theorem dX5_canBe_19 : decode cX5_canBe 19 = .ok (.iconst 0, 1) := by decide +kernel
theorem dX5_canBe_20 : decode cX5_canBe 20 = .ok (.putfield 31, 3) := by decide +kernel
theorem dX5_canBe_23 : decode cX5_canBe 23 = .ok (.iconst 0, 1) := by decide +kernel
theorem dX5_canBe_24 : decode cX5_canBe 24 = .ok (.istore 4, 2) := by decide +kernel
theorem dX5_canBe_26 : decode cX5_canBe 26 = .ok (.iload 4, 2) := by decide +kernel
theorem dX5_canBe_28 : decode cX5_canBe 28 = .ok (.aload_n 3, 1) := by decide +kernel
theorem dX5_canBe_29 : decode cX5_canBe 29 = .ok (.getfield 34, 3) := by decide +kernel
theorem dX5_canBe_32 : decode cX5_canBe 32 = .ok (.if_icmp .ge 88, 3) := by decide +kernel
theorem dX5_canBe_35 : decode cX5_canBe 35 = .ok (.aload_n 0, 1) := by decide +kernel
theorem dX5_canBe_36 : decode cX5_canBe 36 = .ok (.getfield 31, 3) := by decide +kernel
theorem dX5_canBe_39 : decode cX5_canBe 39 = .ok (.ifCond .ne 81, 3) := by decide +kernel
theorem dX5_canBe_42 : decode cX5_canBe 42 = .ok (.aload_n 3, 1) := by decide +kernel
theorem dX5_canBe_43 : decode cX5_canBe 43 = .ok (.getfield 39, 3) := by decide +kernel
theorem dX5_canBe_46 : decode cX5_canBe 46 = .ok (.iload 4, 2) := by decide +kernel
theorem dX5_canBe_48 : decode cX5_canBe 48 = .ok (.invokevirtual 42, 3) := by decide +kernel
theorem dX5_canBe_51 : decode cX5_canBe 51 = .ok (.istore 5, 2) := by decide +kernel
theorem dX5_canBe_53 : decode cX5_canBe 53 = .ok (.iload 5, 2) := by decide +kernel
theorem dX5_canBe_55 : decode cX5_canBe 55 = .ok (.invokestatic 46, 3) := by decide +kernel
theorem dX5_canBe_58 : decode cX5_canBe 58 = .ok (.ifCond .eq 15, 3) := by decide +kernel
theorem dX5_canBe_61 : decode cX5_canBe 61 = .ok (.aload_n 2, 1) := by decide +kernel
theorem dX5_canBe_62 : decode cX5_canBe 62 = .ok (.iload 5, 2) := by decide +kernel
theorem dX5_canBe_64 : decode cX5_canBe 64 = .ok (.invokestatic 50, 3) := by decide +kernel
theorem dX5_canBe_67 : decode cX5_canBe 67 = .ok (.iinc 4 1, 3) := by decide +kernel
theorem dX5_canBe_70 : decode cX5_canBe 70 = .ok (.goto 30, 3) := by decide +kernel
theorem dX5_canBe_73 : decode cX5_canBe 73 = .ok (.aload_n 0, 1) := by decide +kernel
theorem dX5_canBe_74 : decode cX5_canBe 74 = .ok (.aload_n 2, 1) := by decide +kernel
theorem dX5_canBe_75 : decode cX5_canBe 75 = .ok (.iload 5, 2) := by decide +kernel
theorem dX5_canBe_77 : decode cX5_canBe 77 = .ok (.bipush 65, 2) := by decide +kernel
theorem dX5_canBe_79 : decode cX5_canBe 79 = .ok (.isub, 1) := by decide +kernel
theorem dX5_canBe_80 : decode cX5_canBe 80 = .ok (.aload_n 3, 1) := by decide +kernel
theorem dX5_canBe_81 : decode cX5_canBe 81 = .ok (.getfield 39, 3) := by decide +kernel
theorem dX5_canBe_84 : decode cX5_canBe 84 = .ok (.iload 4, 2) := by decide +kernel
theorem dX5_canBe_86 : decode cX5_canBe 86 = .ok (.iconst 1, 1) := by decide +kernel
theorem dX5_canBe_87 : decode cX5_canBe 87 = .ok (.iadd, 1) := by decide +kernel
theorem dX5_canBe_88 : decode cX5_canBe 88 = .ok (.invokevirtual 42, 3) := by decide +kernel
theorem dX5_canBe_91 : decode cX5_canBe 91 = .ok (.invokestatic 54, 3) := by decide +kernel
theorem dX5_canBe_94 : decode cX5_canBe 94 = .ok (.putfield 31, 3) := by decide +kernel
theorem dX5_canBe_97 : decode cX5_canBe 97 = .ok (.iinc 4 2, 3) := by decide +kernel
theorem dX5_canBe_100 : decode cX5_canBe 100 = .ok (.aload_n 0, 1) := by decide +kernel
theorem dX5_canBe_101 : decode cX5_canBe 101 = .ok (.getfield 31, 3) := by decide +kernel
theorem dX5_canBe_104 : decode cX5_canBe 104 = .ok (.ifCond .ne 13, 3) := by decide +kernel
theorem dX5_canBe_107 : decode cX5_canBe 107 = .ok (.aload_n 0, 1) := by decide +kernel
theorem dX5_canBe_108 : decode cX5_canBe 108 = .ok (.dup, 1) := by decide +kernel
theorem dX5_canBe_109 : decode cX5_canBe 109 = .ok (.getfield 25, 3) := by decide +kernel
theorem dX5_canBe_112 : decode cX5_canBe 112 = .ok (.iconst 1, 1) := by decide +kernel
theorem dX5_canBe_113 : decode cX5_canBe 113 = .ok (.iadd, 1) := by decide +kernel
theorem dX5_canBe_114 : decode cX5_canBe 114 = .ok (.putfield 25, 3) := by decide +kernel
theorem dX5_canBe_117 : decode cX5_canBe 117 = .ok (.goto (-91), 3) := by decide +kernel
theorem dX5_canBe_120 : decode cX5_canBe 120 = .ok (.aload_n 0, 1) := by decide +kernel
theorem dX5_canBe_121 : decode cX5_canBe 121 = .ok (.getfield 31, 3) := by decide +kernel
theorem dX5_canBe_124 : decode cX5_canBe 124 = .ok (.ifCond .ne 7, 3) := by decide +kernel
theorem dX5_canBe_127 : decode cX5_canBe 127 = .ok (.iconst 1, 1) := by decide +kernel
theorem dX5_canBe_128 : decode cX5_canBe 128 = .ok (.goto 4, 3) := by decide +kernel
theorem dX5_canBe_131 : decode cX5_canBe 131 = .ok (.iconst 0, 1) := by decide +kernel
theorem dX5_canBe_132 : decode cX5_canBe 132 = .ok (.ireturn, 1) := by decide +kernel
theorem dX5_passTime_0 : decode cX5_passTime 0 = .ok (.iload_n 1, 1) := by decide +kernel
theorem dX5_passTime_1 : decode cX5_passTime 1 = .ok (.lookupswitch 44 #[(46, 27), (58, 35)], 27) := by decide +kernel
theorem dX5_passTime_28 : decode cX5_passTime 28 = .ok (.aload_n 0, 1) := by decide +kernel
theorem dX5_passTime_29 : decode cX5_passTime 29 = .ok (.iconst 1, 1) := by decide +kernel
theorem dX5_passTime_30 : decode cX5_passTime 30 = .ok (.invokevirtual 58, 3) := by decide +kernel
theorem dX5_passTime_33 : decode cX5_passTime 33 = .ok (.goto 16, 3) := by decide +kernel
theorem dX5_passTime_36 : decode cX5_passTime 36 = .ok (.aload_n 0, 1) := by decide +kernel
theorem dX5_passTime_37 : decode cX5_passTime 37 = .ok (.bipush 10, 2) := by decide +kernel
theorem dX5_passTime_39 : decode cX5_passTime 39 = .ok (.invokevirtual 58, 3) := by decide +kernel
theorem dX5_passTime_42 : decode cX5_passTime 42 = .ok (.goto 7, 3) := by decide +kernel
theorem dX5_passTime_45 : decode cX5_passTime 45 = .ok (.aload_n 0, 1) := by decide +kernel
theorem dX5_passTime_46 : decode cX5_passTime 46 = .ok (.invokevirtual 61, 3) := by decide +kernel
theorem dX5_passTime_49 : decode cX5_passTime 49 = .ok (.return_, 1) := by decide +kernel
theorem dX5_befall_0 : decode cX5_befall 0 = .ok (.iload_n 2, 1) := by decide +kernel
theorem dX5_befall_1 : decode cX5_befall 1 = .ok (.lookupswitch 55 #[(100, 35), (109, 48), (115, 41)], 35) := by decide +kernel
theorem dX5_befall_36 : decode cX5_befall 36 = .ok (.aload_n 0, 1) := by decide +kernel
theorem dX5_befall_37 : decode cX5_befall 37 = .ok (.iload_n 1, 1) := by decide +kernel
theorem dX5_befall_38 : decode cX5_befall 38 = .ok (.invokevirtual 64, 3) := by decide +kernel
theorem dX5_befall_41 : decode cX5_befall 41 = .ok (.ireturn, 1) := by decide +kernel
theorem dX5_befall_42 : decode cX5_befall 42 = .ok (.aload_n 0, 1) := by decide +kernel
theorem dX5_befall_43 : decode cX5_befall 43 = .ok (.iload_n 1, 1) := by decide +kernel
theorem dX5_befall_44 : decode cX5_befall 44 = .ok (.iconst 1, 1) := by decide +kernel
theorem dX5_befall_45 : decode cX5_befall 45 = .ok (.invokevirtual 67, 3) := by decide +kernel
theorem dX5_befall_48 : decode cX5_befall 48 = .ok (.ireturn, 1) := by decide +kernel
theorem dX5_befall_49 : decode cX5_befall 49 = .ok (.aload_n 0, 1) := by decide +kernel
theorem dX5_befall_50 : decode cX5_befall 50 = .ok (.iload_n 1, 1) := by decide +kernel
theorem dX5_befall_51 : decode cX5_befall 51 = .ok (.iconst 2, 1) := by decide +kernel
theorem dX5_befall_52 : decode cX5_befall 52 = .ok (.invokevirtual 67, 3) := by decide +kernel
theorem dX5_befall_55 : decode cX5_befall 55 = .ok (.ireturn, 1) := by decide +kernel
theorem dX5_befall_56 : decode cX5_befall 56 = .ok (.aload_n 0, 1) := by decide +kernel
theorem dX5_befall_57 : decode cX5_befall 57 = .ok (.iload_n 1, 1) := by decide +kernel
theorem dX5_befall_58 : decode cX5_befall 58 = .ok (.iload_n 2, 1) := by decide +kernel
theorem dX5_befall_59 : decode cX5_befall 59 = .ok (.bipush 65, 2) := by decide +kernel
theorem dX5_befall_61 : decode cX5_befall 61 = .ok (.isub, 1) := by decide +kernel
theorem dX5_befall_62 : decode cX5_befall 62 = .ok (.invokevirtual 71, 3) := by decide +kernel
theorem dX5_befall_65 : decode cX5_befall 65 = .ok (.ireturn, 1) := by decide +kernel
theorem dX6_init_0 : decode cX6_init 0 = .ok (.aload_n 0, 1) := by decide +kernel
theorem dX6_init_1 : decode cX6_init 1 = .ok (.invokespecial 1, 3) := by decide +kernel
theorem dX6_init_4 : decode cX6_init 4 = .ok (.aload_n 0, 1) := by decide +kernel
theorem dX6_init_5 : decode cX6_init 5 = .ok (.new 7, 3) := by decide +kernel
theorem dX6_init_8 : decode cX6_init 8 = .ok (.dup, 1) := by decide +kernel
theorem dX6_init_9 : decode cX6_init 9 = .ok (.invokespecial 9, 3) := by decide +kernel
theorem dX6_init_12 : decode cX6_init 12 = .ok (.putfield 10, 3) := by decide +kernel
theorem dX6_init_15 : decode cX6_init 15 = .ok (.aload_n 0, 1) := by decide +kernel
theorem dX6_init_16 : decode cX6_init 16 = .ok (.new 7, 3) := by decide +kernel
theorem dX6_init_19 : decode cX6_init 19 = .ok (.dup, 1) := by decide +kernel
theorem dX6_init_20 : decode cX6_init 20 = .ok (.invokespecial 9, 3) := by decide +kernel
theorem dX6_init_23 : decode cX6_init 23 = .ok (.putfield 16, 3) := by decide +kernel
theorem dX6_init_26 : decode cX6_init 26 = .ok (.aload_n 0, 1) := by decide +kernel
theorem dX6_init_27 : decode cX6_init 27 = .ok (.new 7, 3) := by decide +kernel
theorem dX6_init_30 : decode cX6_init 30 = .ok (.dup, 1) := by decide +kernel
theorem dX6_init_31 : decode cX6_init 31 = .ok (.invokespecial 9, 3) := by decide +kernel
theorem dX6_init_34 : decode cX6_init 34 = .ok (.putfield 19, 3) := by decide +kernel
theorem dX6_init_37 : decode cX6_init 37 = .ok (.aload_n 0, 1) := by decide +kernel
theorem dX6_init_38 : decode cX6_init 38 = .ok (.new 7, 3) := by decide +kernel
theorem dX6_init_41 : decode cX6_init 41 = .ok (.dup, 1) := by decide +kernel
theorem dX6_init_42 : decode cX6_init 42 = .ok (.invokespecial 9, 3) := by decide +kernel
theorem dX6_init_45 : decode cX6_init 45 = .ok (.putfield 22, 3) := by decide +kernel
theorem dX6_init_48 : decode cX6_init 48 = .ok (.aload_n 0, 1) := by decide +kernel
theorem dX6_init_49 : decode cX6_init 49 = .ok (.new 25, 3) := by decide +kernel
theorem dX6_init_52 : decode cX6_init 52 = .ok (.dup, 1) := by decide +kernel
theorem dX6_init_53 : decode cX6_init 53 = .ok (.iconst 2, 1) := by decide +kernel
theorem dX6_init_54 : decode cX6_init 54 = .ok (.invokespecial 27, 3) := by decide +kernel
theorem dX6_init_57 : decode cX6_init 57 = .ok (.putfield 30, 3) := by decide +kernel
theorem dX6_init_60 : decode cX6_init 60 = .ok (.aload_n 0, 1) := by decide +kernel
theorem dX6_init_61 : decode cX6_init 61 = .ok (.new 34, 3) := by decide +kernel
theorem dX6_init_64 : decode cX6_init 64 = .ok (.dup, 1) := by decide +kernel
theorem dX6_init_65 : decode cX6_init 65 = .ok (.invokespecial 36, 3) := by decide +kernel
theorem dX6_init_68 : decode cX6_init 68 = .ok (.putfield 37, 3) := by decide +kernel
theorem dX6_init_71 : decode cX6_init 71 = .ok (.aload_n 0, 1) := by decide +kernel
theorem dX6_init_72 : decode cX6_init 72 = .ok (.new 41, 3) := by decide +kernel
theorem dX6_init_75 : decode cX6_init 75 = .ok (.dup, 1) := by decide +kernel
theorem dX6_init_76 : decode cX6_init 76 = .ok (.invokespecial 43, 3) := by decide +kernel
theorem dX6_init_79 : decode cX6_init 79 = .ok (.putfield 44, 3) := by decide +kernel
theorem dX6_init_82 : decode cX6_init 82 = .ok (.aload_n 0, 1) := by decide +kernel
theorem dX6_init_83 : decode cX6_init 83 = .ok (.new 48, 3) := by decide +kernel
theorem dX6_init_86 : decode cX6_init 86 = .ok (.dup, 1) := by decide +kernel
theorem dX6_init_87 : decode cX6_init 87 = .ok (.invokespecial 50, 3) := by decide +kernel
theorem dX6_init_90 : decode cX6_init 90 = .ok (.putfield 51, 3) := by decide +kernel
theorem dX6_init_93 : decode cX6_init 93 = .ok (.aload_n 0, 1) := by decide +kernel
theorem dX6_init_94 : decode cX6_init 94 = .ok (.new 55, 3) := by decide +kernel
theorem dX6_init_97 : decode cX6_init 97 = .ok (.dup, 1) := by decide +kernel
theorem dX6_init_98 : decode cX6_init 98 = .ok (.invokespecial 57, 3) := by decide +kernel
theorem dX6_init_101 : decode cX6_init 101 = .ok (.putfield 58, 3) := by decide +kernel
theorem dX6_init_104 : decode cX6_init 104 = .ok (.aload_n 0, 1) := by decide +kernel
theorem dX6_init_105 : decode cX6_init 105 = .ok (.getfield 10, 3) := by decide +kernel
theorem dX6_init_108 : decode cX6_init 108 = .ok (.bipush 90, 2) := by decide +kernel
theorem dX6_init_110 : decode cX6_init 110 = .ok (.putfield 62, 3) := by decide +kernel
theorem dX6_init_113 : decode cX6_init 113 = .ok (.aload_n 0, 1) := by decide +kernel
theorem dX6_init_114 : decode cX6_init 114 = .ok (.getfield 10, 3) := by decide +kernel
theorem dX6_init_117 : decode cX6_init 117 = .ok (.iconst 4, 1) := by decide +kernel
theorem dX6_init_118 : decode cX6_init 118 = .ok (.invokevirtual 66, 3) := by decide +kernel
theorem dX6_init_121 : decode cX6_init 121 = .ok (.return_, 1) := by decide +kernel
theorem dX6_lands_0 : decode cX6_lands 0 = .ok (.iload_n 1, 1) := by decide +kernel
theorem dX6_lands_1 : decode cX6_lands 1 = .ok (.iconst 3, 1) := by decide +kernel
theorem dX6_lands_2 : decode cX6_lands 2 = .ok (.bipush 6, 2) := by decide +kernel
theorem dX6_lands_4 : decode cX6_lands 4 = .ok (.invokestatic 69, 3) := by decide +kernel
theorem dX6_lands_7 : decode cX6_lands 7 = .ok (.ifCond .ne 6, 3) := by decide +kernel
theorem dX6_lands_10 : decode cX6_lands 10 = .ok (.bipush (-2), 2) := by decide +kernel
theorem dX6_lands_12 : decode cX6_lands 12 = .ok (.ireturn, 1) := by decide +kernel
theorem dX6_lands_13 : decode cX6_lands 13 = .ok (.aload_n 0, 1) := by decide +kernel
theorem dX6_lands_14 : decode cX6_lands 14 = .ok (.getfield 10, 3) := by decide +kernel
theorem dX6_lands_17 : decode cX6_lands 17 = .ok (.getfield 73, 3) := by decide +kernel
theorem dX6_lands_20 : decode cX6_lands 20 = .ok (.istore_n 2, 1) := by decide +kernel
theorem dX6_lands_21 : decode cX6_lands 21 = .ok (.aload_n 0, 1) := by decide +kernel
theorem dX6_lands_22 : decode cX6_lands 22 = .ok (.getfield 10, 3) := by decide +kernel
theorem dX6_lands_25 : decode cX6_lands 25 = .ok (.iload_n 1, 1) := by decide +kernel
theorem dX6_lands_26 : decode cX6_lands 26 = .ok (.invokevirtual 66, 3) := by decide +kernel
theorem dX6_lands_29 : decode cX6_lands 29 = .ok (.iload_n 2, 1) := by decide +kernel
theorem dX6_lands_30 : decode cX6_lands 30 = .ok (.ireturn, 1) := by decide +kernel
theorem dX6_season_0 : decode cX6_season 0 = .ok (.iload_n 1, 1) := by decide +kernel
theorem dX6_season_1 : decode cX6_season 1 = .ok (.iconst 1, 1) := by decide +kernel
theorem dX6_season_2 : decode cX6_season 2 = .ok (.bipush 99, 2) := by decide +kernel
theorem dX6_season_4 : decode cX6_season 4 = .ok (.invokestatic 69, 3) := by decide +kernel
theorem dX6_season_7 : decode cX6_season 7 = .ok (.ifCond .ne 6, 3) := by decide +kernel
theorem dX6_season_10 : decode cX6_season 10 = .ok (.bipush (-2), 2) := by decide +kernel
theorem dX6_season_12 : decode cX6_season 12 = .ok (.ireturn, 1) := by decide +kernel
theorem dX6_season_13 : decode cX6_season 13 = .ok (.aload_n 0, 1) := by decide +kernel
theorem dX6_season_14 : decode cX6_season 14 = .ok (.getfield 10, 3) := by decide +kernel
theorem dX6_season_17 : decode cX6_season 17 = .ok (.getfield 76, 3) := by decide +kernel
theorem dX6_season_20 : decode cX6_season 20 = .ok (.ifCond .eq 6, 3) := by decide +kernel
theorem dX6_season_23 : decode cX6_season 23 = .ok (.bipush (-3), 2) := by decide +kernel
theorem dX6_season_25 : decode cX6_season 25 = .ok (.ireturn, 1) := by decide +kernel
theorem dX6_season_26 : decode cX6_season 26 = .ok (.aload_n 0, 1) := by decide +kernel
theorem dX6_season_27 : decode cX6_season 27 = .ok (.getfield 10, 3) := by decide +kernel
theorem dX6_season_30 : decode cX6_season 30 = .ok (.getfield 62, 3) := by decide +kernel
theorem dX6_season_33 : decode cX6_season 33 = .ok (.istore_n 2, 1) := by decide +kernel
theorem dX6_season_34 : decode cX6_season 34 = .ok (.aload_n 0, 1) := by decide +kernel
theorem dX6_season_35 : decode cX6_season 35 = .ok (.getfield 10, 3) := by decide +kernel
theorem dX6_season_38 : decode cX6_season 38 = .ok (.iload_n 1, 1) := by decide +kernel
theorem dX6_season_39 : decode cX6_season 39 = .ok (.putfield 62, 3) := by decide +kernel
theorem dX6_season_42 : decode cX6_season 42 = .ok (.iload_n 2, 1) := by decide +kernel
theorem dX6_season_43 : decode cX6_season 43 = .ok (.ireturn, 1) := by decide +kernel
theorem dX6_set_0 : decode cX6_set 0 = .ok (.aload_n 0, 1) := by decide +kernel
theorem dX6_set_1 : decode cX6_set 1 = .ok (.getfield 10, 3) := by decide +kernel
theorem dX6_set_4 : decode cX6_set 4 = .ok (.iload_n 1, 1) := by decide +kernel
theorem dX6_set_5 : decode cX6_set 5 = .ok (.invokevirtual 79, 3) := by decide +kernel
theorem dX6_set_8 : decode cX6_set 8 = .ok (.ifCond .ne 5, 3) := by decide +kernel
theorem dX6_set_11 : decode cX6_set 11 = .ok (.iconst (-1), 1) := by decide +kernel
theorem dX6_set_12 : decode cX6_set 12 = .ok (.ireturn, 1) := by decide +kernel
theorem dX6_set_13 : decode cX6_set 13 = .ok (.iload_n 2, 1) := by decide +kernel
theorem dX6_set_14 : decode cX6_set 14 = .ok (.iconst 0, 1) := by decide +kernel
theorem dX6_set_15 : decode cX6_set 15 = .ok (.iconst 1, 1) := by decide +kernel
theorem dX6_set_16 : decode cX6_set 16 = .ok (.invokestatic 69, 3) := by decide +kernel
theorem dX6_set_19 : decode cX6_set 19 = .ok (.ifCond .eq 21, 3) := by decide +kernel
theorem dX6_set_22 : decode cX6_set 22 = .ok (.iload_n 3, 1) := by decide +kernel
theorem dX6_set_23 : decode cX6_set 23 = .ok (.iconst 0, 1) := by decide +kernel
theorem dX6_set_24 : decode cX6_set 24 = .ok (.iload_n 2, 1) := by decide +kernel
theorem dX6_set_25 : decode cX6_set 25 = .ok (.ifCond .ne 8, 3) := by decide +kernel
theorem dX6_set_28 : decode cX6_set 28 = .ok (.bipush 9, 2) := by decide +kernel
theorem dX6_set_30 : decode cX6_set 30 = .ok (.goto 4, 3) := by decide +kernel
theorem dX6_set_33 : decode cX6_set 33 = .ok (.iconst 1, 1) := by decide +kernel
theorem dX6_set_34 : decode cX6_set 34 = .ok (.invokestatic 69, 3) := by decide +kernel
theorem dX6_set_37 : decode cX6_set 37 = .ok (.ifCond .ne 6, 3) := by decide +kernel
theorem dX6_set_40 : decode cX6_set 40 = .ok (.bipush (-2), 2) := by decide +kernel
theorem dX6_set_42 : decode cX6_set 42 = .ok (.ireturn, 1) := by decide +kernel
theorem dX6_set_43 : decode cX6_set 43 = .ok (.iload_n 2, 1) := by decide +kernel
theorem dX6_set_44 : decode cX6_set 44 = .ok (.ifCond .ne 13, 3) := by decide +kernel
theorem dX6_set_47 : decode cX6_set 47 = .ok (.aload_n 0, 1) := by decide +kernel
theorem dX6_set_48 : decode cX6_set 48 = .ok (.getfield 10, 3) := by decide +kernel
theorem dX6_set_51 : decode cX6_set 51 = .ok (.getfield 83, 3) := by decide +kernel
theorem dX6_set_54 : decode cX6_set 54 = .ok (.goto 10, 3) := by decide +kernel
theorem dX6_set_57 : decode cX6_set 57 = .ok (.aload_n 0, 1) := by decide +kernel
theorem dX6_set_58 : decode cX6_set 58 = .ok (.getfield 10, 3) := by decide +kernel
theorem dX6_set_61 : decode cX6_set 61 = .ok (.getfield 86, 3) := by decide +kernel
theorem dX6_set_64 : decode cX6_set 64 = .ok (.astore 4, 2) := by decide +kernel
theorem dX6_set_66 : decode cX6_set 66 = .ok (.aload 4, 2) := by decide +kernel
theorem dX6_set_68 : decode cX6_set 68 = .ok (.iload_n 1, 1) := by decide +kernel
theorem dX6_set_69 : decode cX6_set 69 = .ok (.invokevirtual 89, 3) := by decide +kernel
theorem dX6_set_72 : decode cX6_set 72 = .ok (.istore 5, 2) := by decide +kernel
theorem dX6_set_74 : decode cX6_set 74 = .ok (.aload 4, 2) := by decide +kernel
theorem dX6_set_76 : decode cX6_set 76 = .ok (.iload_n 1, 1) := by decide +kernel
theorem dX6_set_77 : decode cX6_set 77 = .ok (.iload_n 3, 1) := by decide +kernel
theorem dX6_set_78 : decode cX6_set 78 = .ok (.invokevirtual 93, 3) := by decide +kernel
theorem dX6_set_81 : decode cX6_set 81 = .ok (.iload 5, 2) := by decide +kernel
theorem dX6_set_83 : decode cX6_set 83 = .ok (.ireturn, 1) := by decide +kernel
theorem dX6_say_0 : decode cX6_say 0 = .ok (.iload_n 1, 1) := by decide +kernel
theorem dX6_say_1 : decode cX6_say 1 = .ok (.bipush 33, 2) := by decide +kernel
theorem dX6_say_3 : decode cX6_say 3 = .ok (.bipush 126, 2) := by decide +kernel
theorem dX6_say_5 : decode cX6_say 5 = .ok (.invokestatic 69, 3) := by decide +kernel
theorem dX6_say_8 : decode cX6_say 8 = .ok (.ifCond .ne 6, 3) := by decide +kernel
theorem dX6_say_11 : decode cX6_say 11 = .ok (.bipush (-2), 2) := by decide +kernel
theorem dX6_say_13 : decode cX6_say 13 = .ok (.ireturn, 1) := by decide +kernel
theorem dX6_say_14 : decode cX6_say 14 = .ok (.aload_n 0, 1) := by decide +kernel
theorem dX6_say_15 : decode cX6_say 15 = .ok (.getfield 37, 3) := by decide +kernel
theorem dX6_say_18 : decode cX6_say 18 = .ok (.getfield 97, 3) := by decide +kernel
theorem dX6_say_21 : decode cX6_say 21 = .ok (.bipush 60, 2) := by decide +kernel
theorem dX6_say_23 : decode cX6_say 23 = .ok (.if_icmp .lt 6, 3) := by decide +kernel
theorem dX6_say_26 : decode cX6_say 26 = .ok (.bipush (-4), 2) := by decide +kernel
theorem dX6_say_28 : decode cX6_say 28 = .ok (.ireturn, 1) := by decide +kernel
theorem dX6_say_29 : decode cX6_say 29 = .ok (.aload_n 0, 1) := by decide +kernel
theorem dX6_say_30 : decode cX6_say 30 = .ok (.getfield 37, 3) := by decide +kernel
theorem dX6_say_33 : decode cX6_say 33 = .ok (.iload_n 1, 1) := by decide +kernel
theorem dX6_say_34 : decode cX6_say 34 = .ok (.invokevirtual 100, 3) := by decide +kernel
theorem dX6_say_37 : decode cX6_say 37 = .ok (.ireturn, 1) := by decide +kernel
theorem dX6_wipe_0 : decode cX6_wipe 0 = .ok (.aload_n 0, 1) := by decide +kernel
theorem dX6_wipe_1 : decode cX6_wipe 1 = .ok (.getfield 37, 3) := by decide +kernel
theorem dX6_wipe_4 : decode cX6_wipe 4 = .ok (.invokevirtual 103, 3) := by decide +kernel
theorem dX6_wipe_7 : decode cX6_wipe 7 = .ok (.ireturn, 1) := by decide +kernel
theorem dX6_fault_0 : decode cX6_fault 0 = .ok (.aload_n 0, 1) := by decide +kernel
theorem dX6_fault_1 : decode cX6_fault 1 = .ok (.getfield 37, 3) := by decide +kernel
theorem dX6_fault_4 : decode cX6_fault 4 = .ok (.aload_n 0, 1) := by decide +kernel
theorem dX6_fault_5 : decode cX6_fault 5 = .ok (.getfield 10, 3) := by decide +kernel
theorem dX6_fault_8 : decode cX6_fault 8 = .ok (.getfield 73, 3) := by decide +kernel
theorem dX6_fault_11 : decode cX6_fault 11 = .ok (.invokevirtual 107, 3) := by decide +kernel
theorem dX6_fault_14 : decode cX6_fault 14 = .ok (.ireturn, 1) := by decide +kernel
theorem dX6_judge_0 : decode cX6_judge 0 = .ok (.iload_n 1, 1) := by decide +kernel
theorem dX6_judge_1 : decode cX6_judge 1 = .ok (.iconst 0, 1) := by decide +kernel
theorem dX6_judge_2 : decode cX6_judge 2 = .ok (.iconst 1, 1) := by decide +kernel
theorem dX6_judge_3 : decode cX6_judge 3 = .ok (.invokestatic 69, 3) := by decide +kernel
theorem dX6_judge_6 : decode cX6_judge 6 = .ok (.ifCond .ne 6, 3) := by decide +kernel
theorem dX6_judge_9 : decode cX6_judge 9 = .ok (.bipush (-2), 2) := by decide +kernel
theorem dX6_judge_11 : decode cX6_judge 11 = .ok (.ireturn, 1) := by decide +kernel
theorem dX6_judge_12 : decode cX6_judge 12 = .ok (.aload_n 0, 1) := by decide +kernel
theorem dX6_judge_13 : decode cX6_judge 13 = .ok (.getfield 37, 3) := by decide +kernel
theorem dX6_judge_16 : decode cX6_judge 16 = .ok (.aload_n 0, 1) := by decide +kernel
theorem dX6_judge_17 : decode cX6_judge 17 = .ok (.getfield 10, 3) := by decide +kernel
theorem dX6_judge_20 : decode cX6_judge 20 = .ok (.getfield 73, 3) := by decide +kernel
theorem dX6_judge_23 : decode cX6_judge 23 = .ok (.invokevirtual 107, 3) := by decide +kernel
theorem dX6_judge_26 : decode cX6_judge 26 = .ok (.bipush (-6), 2) := by decide +kernel
theorem dX6_judge_28 : decode cX6_judge 28 = .ok (.if_icmp .eq 6, 3) := by decide +kernel
theorem dX6_judge_31 : decode cX6_judge 31 = .ok (.bipush (-5), 2) := by decide +kernel
theorem dX6_judge_33 : decode cX6_judge 33 = .ok (.ireturn, 1) := by decide +kernel
theorem dX6_judge_34 : decode cX6_judge 34 = .ok (.aload_n 0, 1) := by decide +kernel
theorem dX6_judge_35 : decode cX6_judge 35 = .ok (.getfield 44, 3) := by decide +kernel
theorem dX6_judge_38 : decode cX6_judge 38 = .ok (.aload_n 0, 1) := by decide +kernel
theorem dX6_judge_39 : decode cX6_judge 39 = .ok (.getfield 10, 3) := by decide +kernel
theorem dX6_judge_42 : decode cX6_judge 42 = .ok (.aload_n 0, 1) := by decide +kernel
theorem dX6_judge_43 : decode cX6_judge 43 = .ok (.getfield 16, 3) := by decide +kernel
theorem dX6_judge_46 : decode cX6_judge 46 = .ok (.aload_n 0, 1) := by decide +kernel
theorem dX6_judge_47 : decode cX6_judge 47 = .ok (.getfield 37, 3) := by decide +kernel
theorem dX6_judge_50 : decode cX6_judge 50 = .ok (.invokevirtual 110, 3) := by decide +kernel
theorem dX6_judge_53 : decode cX6_judge 53 = .ok (.ifCond .eq 6, 3) := by decide +kernel
theorem dX6_judge_56 : decode cX6_judge 56 = .ok (.bipush (-6), 2) := by decide +kernel
theorem dX6_judge_58 : decode cX6_judge 58 = .ok (.ireturn, 1) := by decide +kernel
theorem dX6_judge_59 : decode cX6_judge 59 = .ok (.iload_n 1, 1) := by decide +kernel
theorem dX6_judge_60 : decode cX6_judge 60 = .ok (.ifCond .ne 13, 3) := by decide +kernel
theorem dX6_judge_63 : decode cX6_judge 63 = .ok (.aload_n 0, 1) := by decide +kernel
theorem dX6_judge_64 : decode cX6_judge 64 = .ok (.getfield 44, 3) := by decide +kernel
theorem dX6_judge_67 : decode cX6_judge 67 = .ok (.getfield 114, 3) := by decide +kernel
theorem dX6_judge_70 : decode cX6_judge 70 = .ok (.goto 10, 3) := by decide +kernel
theorem dX6_judge_73 : decode cX6_judge 73 = .ok (.aload_n 0, 1) := by decide +kernel
theorem dX6_judge_74 : decode cX6_judge 74 = .ok (.getfield 44, 3) := by decide +kernel
theorem dX6_judge_77 : decode cX6_judge 77 = .ok (.getfield 117, 3) := by decide +kernel
theorem dX6_judge_80 : decode cX6_judge 80 = .ok (.ireturn, 1) := by decide +kernel
theorem dX6_done_0 : decode cX6_done 0 = .ok (.aload_n 0, 1) := by decide +kernel
theorem dX6_done_1 : decode cX6_done 1 = .ok (.invokevirtual 120, 3) := by decide +kernel
theorem dX6_done_4 : decode cX6_done 4 = .ok (.ifCond .ne 6, 3) := by decide +kernel
theorem dX6_done_7 : decode cX6_done 7 = .ok (.bipush (-5), 2) := by decide +kernel
theorem dX6_done_9 : decode cX6_done 9 = .ok (.ireturn, 1) := by decide +kernel
theorem dX6_done_10 : decode cX6_done 10 = .ok (.aload_n 0, 1) := by decide +kernel
theorem dX6_done_11 : decode cX6_done 11 = .ok (.getfield 10, 3) := by decide +kernel
theorem dX6_done_14 : decode cX6_done 14 = .ok (.aload_n 0, 1) := by decide +kernel
theorem dX6_done_15 : decode cX6_done 15 = .ok (.getfield 16, 3) := by decide +kernel
theorem dX6_done_18 : decode cX6_done 18 = .ok (.invokevirtual 124, 3) := by decide +kernel
theorem dX6_done_21 : decode cX6_done 21 = .ok (.aload_n 0, 1) := by decide +kernel
theorem dX6_done_22 : decode cX6_done 22 = .ok (.getfield 37, 3) := by decide +kernel
theorem dX6_done_25 : decode cX6_done 25 = .ok (.invokevirtual 103, 3) := by decide +kernel
theorem dX6_done_28 : decode cX6_done 28 = .ok (.pop, 1) := by decide +kernel
theorem dX6_done_29 : decode cX6_done 29 = .ok (.aload_n 0, 1) := by decide +kernel
theorem dX6_done_30 : decode cX6_done 30 = .ok (.getfield 44, 3) := by decide +kernel
theorem dX6_done_33 : decode cX6_done 33 = .ok (.getfield 114, 3) := by decide +kernel
theorem dX6_done_36 : decode cX6_done 36 = .ok (.ireturn, 1) := by decide +kernel
theorem dX6_state_0 : decode cX6_state 0 = .ok (.aload_n 0, 1) := by decide +kernel
theorem dX6_state_1 : decode cX6_state 1 = .ok (.getfield 10, 3) := by decide +kernel
theorem dX6_state_4 : decode cX6_state 4 = .ok (.iload_n 1, 1) := by decide +kernel
theorem dX6_state_5 : decode cX6_state 5 = .ok (.invokevirtual 79, 3) := by decide +kernel
theorem dX6_state_8 : decode cX6_state 8 = .ok (.ifCond .ne 5, 3) := by decide +kernel
theorem dX6_state_11 : decode cX6_state 11 = .ok (.iconst (-1), 1) := by decide +kernel
theorem dX6_state_12 : decode cX6_state 12 = .ok (.ireturn, 1) := by decide +kernel
theorem dX6_state_13 : decode cX6_state 13 = .ok (.iload_n 2, 1) := by decide +kernel
theorem dX6_state_14 : decode cX6_state 14 = .ok (.iconst 0, 1) := by decide +kernel
theorem dX6_state_15 : decode cX6_state 15 = .ok (.iconst 2, 1) := by decide +kernel
theorem dX6_state_16 : decode cX6_state 16 = .ok (.invokestatic 69, 3) := by decide +kernel
theorem dX6_state_19 : decode cX6_state 19 = .ok (.ifCond .ne 6, 3) := by decide +kernel
theorem dX6_state_22 : decode cX6_state 22 = .ok (.bipush (-2), 2) := by decide +kernel
theorem dX6_state_24 : decode cX6_state 24 = .ok (.ireturn, 1) := by decide +kernel
theorem dX6_state_25 : decode cX6_state 25 = .ok (.iload_n 2, 1) := by decide +kernel
theorem dX6_state_26 : decode cX6_state 26 = .ok (.ifCond .ne 13, 3) := by decide +kernel
theorem dX6_state_29 : decode cX6_state 29 = .ok (.aload_n 0, 1) := by decide +kernel
theorem dX6_state_30 : decode cX6_state 30 = .ok (.getfield 10, 3) := by decide +kernel
theorem dX6_state_33 : decode cX6_state 33 = .ok (.iload_n 1, 1) := by decide +kernel
theorem dX6_state_34 : decode cX6_state 34 = .ok (.iconst 0, 1) := by decide +kernel
theorem dX6_state_35 : decode cX6_state 35 = .ok (.invokevirtual 128, 3) := by decide +kernel
theorem dX6_state_38 : decode cX6_state 38 = .ok (.ireturn, 1) := by decide +kernel
theorem dX6_state_39 : decode cX6_state 39 = .ok (.iload_n 2, 1) := by decide +kernel
theorem dX6_state_40 : decode cX6_state 40 = .ok (.iconst 1, 1) := by decide +kernel
theorem dX6_state_41 : decode cX6_state 41 = .ok (.if_icmp .ne 17, 3) := by decide +kernel
theorem dX6_state_44 : decode cX6_state 44 = .ok (.aload_n 0, 1) := by decide +kernel
theorem dX6_state_45 : decode cX6_state 45 = .ok (.getfield 10, 3) := by decide +kernel
theorem dX6_state_48 : decode cX6_state 48 = .ok (.getfield 132, 3) := by decide +kernel
theorem dX6_state_51 : decode cX6_state 51 = .ok (.iload_n 1, 1) := by decide +kernel
theorem dX6_state_52 : decode cX6_state 52 = .ok (.invokevirtual 89, 3) := by decide +kernel
theorem dX6_state_55 : decode cX6_state 55 = .ok (.goto 14, 3) := by decide +kernel
theorem dX6_state_58 : decode cX6_state 58 = .ok (.aload_n 0, 1) := by decide +kernel
theorem dX6_state_59 : decode cX6_state 59 = .ok (.getfield 10, 3) := by decide +kernel
theorem dX6_state_62 : decode cX6_state 62 = .ok (.getfield 135, 3) := by decide +kernel
theorem dX6_state_65 : decode cX6_state 65 = .ok (.iload_n 1, 1) := by decide +kernel
theorem dX6_state_66 : decode cX6_state 66 = .ok (.invokevirtual 89, 3) := by decide +kernel
theorem dX6_state_69 : decode cX6_state 69 = .ok (.ireturn, 1) := by decide +kernel
theorem dX6_behind_0 : decode cX6_behind 0 = .ok (.aload_n 0, 1) := by decide +kernel
theorem dX6_behind_1 : decode cX6_behind 1 = .ok (.getfield 10, 3) := by decide +kernel
theorem dX6_behind_4 : decode cX6_behind 4 = .ok (.iload_n 1, 1) := by decide +kernel
theorem dX6_behind_5 : decode cX6_behind 5 = .ok (.invokevirtual 79, 3) := by decide +kernel
theorem dX6_behind_8 : decode cX6_behind 8 = .ok (.ifCond .ne 5, 3) := by decide +kernel
theorem dX6_behind_11 : decode cX6_behind 11 = .ok (.iconst (-1), 1) := by decide +kernel
theorem dX6_behind_12 : decode cX6_behind 12 = .ok (.ireturn, 1) := by decide +kernel
theorem dX6_behind_13 : decode cX6_behind 13 = .ok (.iload_n 2, 1) := by decide +kernel
theorem dX6_behind_14 : decode cX6_behind 14 = .ok (.iconst 0, 1) := by decide +kernel
theorem dX6_behind_15 : decode cX6_behind 15 = .ok (.iconst 2, 1) := by decide +kernel
theorem dX6_behind_16 : decode cX6_behind 16 = .ok (.invokestatic 69, 3) := by decide +kernel
theorem dX6_behind_19 : decode cX6_behind 19 = .ok (.ifCond .ne 6, 3) := by decide +kernel
theorem dX6_behind_22 : decode cX6_behind 22 = .ok (.bipush (-2), 2) := by decide +kernel
theorem dX6_behind_24 : decode cX6_behind 24 = .ok (.ireturn, 1) := by decide +kernel
theorem dX6_behind_25 : decode cX6_behind 25 = .ok (.aload_n 0, 1) := by decide +kernel
theorem dX6_behind_26 : decode cX6_behind 26 = .ok (.invokevirtual 120, 3) := by decide +kernel
theorem dX6_behind_29 : decode cX6_behind 29 = .ok (.ifCond .ne 6, 3) := by decide +kernel
theorem dX6_behind_32 : decode cX6_behind 32 = .ok (.bipush (-5), 2) := by decide +kernel
theorem dX6_behind_34 : decode cX6_behind 34 = .ok (.ireturn, 1) := by decide +kernel
theorem dX6_behind_35 : decode cX6_behind 35 = .ok (.iload_n 2, 1) := by decide +kernel
theorem dX6_behind_36 : decode cX6_behind 36 = .ok (.ifCond .ne 13, 3) := by decide +kernel
theorem dX6_behind_39 : decode cX6_behind 39 = .ok (.aload_n 0, 1) := by decide +kernel
theorem dX6_behind_40 : decode cX6_behind 40 = .ok (.getfield 16, 3) := by decide +kernel
theorem dX6_behind_43 : decode cX6_behind 43 = .ok (.iload_n 1, 1) := by decide +kernel
theorem dX6_behind_44 : decode cX6_behind 44 = .ok (.iconst 0, 1) := by decide +kernel
theorem dX6_behind_45 : decode cX6_behind 45 = .ok (.invokevirtual 128, 3) := by decide +kernel
theorem dX6_behind_48 : decode cX6_behind 48 = .ok (.ireturn, 1) := by decide +kernel
theorem dX6_behind_49 : decode cX6_behind 49 = .ok (.iload_n 2, 1) := by decide +kernel
theorem dX6_behind_50 : decode cX6_behind 50 = .ok (.iconst 1, 1) := by decide +kernel
theorem dX6_behind_51 : decode cX6_behind 51 = .ok (.if_icmp .ne 17, 3) := by decide +kernel
theorem dX6_behind_54 : decode cX6_behind 54 = .ok (.aload_n 0, 1) := by decide +kernel
theorem dX6_behind_55 : decode cX6_behind 55 = .ok (.getfield 16, 3) := by decide +kernel
theorem dX6_behind_58 : decode cX6_behind 58 = .ok (.getfield 132, 3) := by decide +kernel
theorem dX6_behind_61 : decode cX6_behind 61 = .ok (.iload_n 1, 1) := by decide +kernel
theorem dX6_behind_62 : decode cX6_behind 62 = .ok (.invokevirtual 89, 3) := by decide +kernel
theorem dX6_behind_65 : decode cX6_behind 65 = .ok (.goto 14, 3) := by decide +kernel
theorem dX6_behind_68 : decode cX6_behind 68 = .ok (.aload_n 0, 1) := by decide +kernel
theorem dX6_behind_69 : decode cX6_behind 69 = .ok (.getfield 16, 3) := by decide +kernel
theorem dX6_behind_72 : decode cX6_behind 72 = .ok (.getfield 138, 3) := by decide +kernel
theorem dX6_behind_75 : decode cX6_behind 75 = .ok (.iload_n 1, 1) := by decide +kernel
theorem dX6_behind_76 : decode cX6_behind 76 = .ok (.invokevirtual 89, 3) := by decide +kernel
theorem dX6_behind_79 : decode cX6_behind 79 = .ok (.ireturn, 1) := by decide +kernel
theorem dX6_day_0 : decode cX6_day 0 = .ok (.aload_n 0, 1) := by decide +kernel
theorem dX6_day_1 : decode cX6_day 1 = .ok (.invokevirtual 120, 3) := by decide +kernel
theorem dX6_day_4 : decode cX6_day 4 = .ok (.ifCond .eq 13, 3) := by decide +kernel
theorem dX6_day_7 : decode cX6_day 7 = .ok (.aload_n 0, 1) := by decide +kernel
theorem dX6_day_8 : decode cX6_day 8 = .ok (.getfield 16, 3) := by decide +kernel
theorem dX6_day_11 : decode cX6_day 11 = .ok (.getfield 141, 3) := by decide +kernel
theorem dX6_day_14 : decode cX6_day 14 = .ok (.goto 5, 3) := by decide +kernel
theorem dX6_day_17 : decode cX6_day 17 = .ok (.bipush (-5), 2) := by decide +kernel
theorem dX6_day_19 : decode cX6_day 19 = .ok (.ireturn, 1) := by decide +kernel
theorem dX6_where_0 : decode cX6_where 0 = .ok (.aload_n 0, 1) := by decide +kernel
theorem dX6_where_1 : decode cX6_where 1 = .ok (.getfield 10, 3) := by decide +kernel
theorem dX6_where_4 : decode cX6_where 4 = .ok (.iload_n 1, 1) := by decide +kernel
theorem dX6_where_5 : decode cX6_where 5 = .ok (.invokevirtual 79, 3) := by decide +kernel
theorem dX6_where_8 : decode cX6_where 8 = .ok (.ifCond .ne 5, 3) := by decide +kernel
theorem dX6_where_11 : decode cX6_where 11 = .ok (.iconst (-1), 1) := by decide +kernel
theorem dX6_where_12 : decode cX6_where 12 = .ok (.ireturn, 1) := by decide +kernel
theorem dX6_where_13 : decode cX6_where 13 = .ok (.iload_n 2, 1) := by decide +kernel
theorem dX6_where_14 : decode cX6_where 14 = .ok (.iconst 0, 1) := by decide +kernel
theorem dX6_where_15 : decode cX6_where 15 = .ok (.sipush 9999, 3) := by decide +kernel
theorem dX6_where_18 : decode cX6_where 18 = .ok (.invokestatic 69, 3) := by decide +kernel
theorem dX6_where_21 : decode cX6_where 21 = .ok (.ifCond .ne 6, 3) := by decide +kernel
theorem dX6_where_24 : decode cX6_where 24 = .ok (.bipush (-2), 2) := by decide +kernel
theorem dX6_where_26 : decode cX6_where 26 = .ok (.ireturn, 1) := by decide +kernel
theorem dX6_where_27 : decode cX6_where 27 = .ok (.aload_n 0, 1) := by decide +kernel
theorem dX6_where_28 : decode cX6_where 28 = .ok (.getfield 10, 3) := by decide +kernel
theorem dX6_where_31 : decode cX6_where 31 = .ok (.iload_n 1, 1) := by decide +kernel
theorem dX6_where_32 : decode cX6_where 32 = .ok (.aload_n 0, 1) := by decide +kernel
theorem dX6_where_33 : decode cX6_where 33 = .ok (.getfield 10, 3) := by decide +kernel
theorem dX6_where_36 : decode cX6_where 36 = .ok (.iload_n 2, 1) := by decide +kernel
theorem dX6_where_37 : decode cX6_where 37 = .ok (.invokevirtual 144, 3) := by decide +kernel
theorem dX6_where_40 : decode cX6_where 40 = .ok (.invokevirtual 128, 3) := by decide +kernel
theorem dX6_where_43 : decode cX6_where 43 = .ok (.ireturn, 1) := by decide +kernel
theorem dX6_who_0 : decode cX6_who 0 = .ok (.aload_n 0, 1) := by decide +kernel
theorem dX6_who_1 : decode cX6_who 1 = .ok (.getfield 10, 3) := by decide +kernel
theorem dX6_who_4 : decode cX6_who 4 = .ok (.iload_n 1, 1) := by decide +kernel
theorem dX6_who_5 : decode cX6_who 5 = .ok (.invokevirtual 79, 3) := by decide +kernel
theorem dX6_who_8 : decode cX6_who 8 = .ok (.ifCond .ne 5, 3) := by decide +kernel
theorem dX6_who_11 : decode cX6_who 11 = .ok (.iconst (-1), 1) := by decide +kernel
theorem dX6_who_12 : decode cX6_who 12 = .ok (.ireturn, 1) := by decide +kernel
theorem dX6_who_13 : decode cX6_who 13 = .ok (.iload_n 2, 1) := by decide +kernel
theorem dX6_who_14 : decode cX6_who 14 = .ok (.iconst 0, 1) := by decide +kernel
theorem dX6_who_15 : decode cX6_who 15 = .ok (.sipush 9999, 3) := by decide +kernel
theorem dX6_who_18 : decode cX6_who 18 = .ok (.invokestatic 69, 3) := by decide +kernel
theorem dX6_who_21 : decode cX6_who 21 = .ok (.ifCond .ne 6, 3) := by decide +kernel
theorem dX6_who_24 : decode cX6_who 24 = .ok (.bipush (-2), 2) := by decide +kernel
theorem dX6_who_26 : decode cX6_who 26 = .ok (.ireturn, 1) := by decide +kernel
theorem dX6_who_27 : decode cX6_who 27 = .ok (.aload_n 0, 1) := by decide +kernel
theorem dX6_who_28 : decode cX6_who 28 = .ok (.getfield 10, 3) := by decide +kernel
theorem dX6_who_31 : decode cX6_who 31 = .ok (.iload_n 1, 1) := by decide +kernel
theorem dX6_who_32 : decode cX6_who 32 = .ok (.aload_n 0, 1) := by decide +kernel
theorem dX6_who_33 : decode cX6_who 33 = .ok (.getfield 10, 3) := by decide +kernel
theorem dX6_who_36 : decode cX6_who 36 = .ok (.iload_n 2, 1) := by decide +kernel
theorem dX6_who_37 : decode cX6_who 37 = .ok (.invokevirtual 144, 3) := by decide +kernel
theorem dX6_who_40 : decode cX6_who 40 = .ok (.invokevirtual 147, 3) := by decide +kernel
theorem dX6_who_43 : decode cX6_who 43 = .ok (.ireturn, 1) := by decide +kernel
theorem dX6_meet_0 : decode cX6_meet 0 = .ok (.aload_n 0, 1) := by decide +kernel
theorem dX6_meet_1 : decode cX6_meet 1 = .ok (.getfield 10, 3) := by decide +kernel
theorem dX6_meet_4 : decode cX6_meet 4 = .ok (.iload_n 1, 1) := by decide +kernel
theorem dX6_meet_5 : decode cX6_meet 5 = .ok (.iload_n 2, 1) := by decide +kernel
theorem dX6_meet_6 : decode cX6_meet 6 = .ok (.invokevirtual 150, 3) := by decide +kernel
theorem dX6_meet_9 : decode cX6_meet 9 = .ok (.ifCond .ne 5, 3) := by decide +kernel
theorem dX6_meet_12 : decode cX6_meet 12 = .ok (.iconst (-1), 1) := by decide +kernel
theorem dX6_meet_13 : decode cX6_meet 13 = .ok (.ireturn, 1) := by decide +kernel
theorem dX6_meet_14 : decode cX6_meet 14 = .ok (.iconst 0, 1) := by decide +kernel
theorem dX6_meet_15 : decode cX6_meet 15 = .ok (.istore_n 3, 1) := by decide +kernel
theorem dX6_meet_16 : decode cX6_meet 16 = .ok (.iload_n 3, 1) := by decide +kernel
theorem dX6_meet_17 : decode cX6_meet 17 = .ok (.aload_n 0, 1) := by decide +kernel
theorem dX6_meet_18 : decode cX6_meet 18 = .ok (.getfield 10, 3) := by decide +kernel
theorem dX6_meet_21 : decode cX6_meet 21 = .ok (.getfield 73, 3) := by decide +kernel
theorem dX6_meet_24 : decode cX6_meet 24 = .ok (.if_icmp .gt 31, 3) := by decide +kernel
theorem dX6_meet_27 : decode cX6_meet 27 = .ok (.aload_n 0, 1) := by decide +kernel
theorem dX6_meet_28 : decode cX6_meet 28 = .ok (.getfield 10, 3) := by decide +kernel
theorem dX6_meet_31 : decode cX6_meet 31 = .ok (.iload_n 1, 1) := by decide +kernel
theorem dX6_meet_32 : decode cX6_meet 32 = .ok (.iload_n 2, 1) := by decide +kernel
theorem dX6_meet_33 : decode cX6_meet 33 = .ok (.iload_n 3, 1) := by decide +kernel
theorem dX6_meet_34 : decode cX6_meet 34 = .ok (.invokevirtual 154, 3) := by decide +kernel
theorem dX6_meet_37 : decode cX6_meet 37 = .ok (.ifCond .eq 12, 3) := by decide +kernel
theorem dX6_meet_40 : decode cX6_meet 40 = .ok (.aload_n 0, 1) := by decide +kernel
theorem dX6_meet_41 : decode cX6_meet 41 = .ok (.getfield 10, 3) := by decide +kernel
theorem dX6_meet_44 : decode cX6_meet 44 = .ok (.iload_n 3, 1) := by decide +kernel
theorem dX6_meet_45 : decode cX6_meet 45 = .ok (.invokevirtual 157, 3) := by decide +kernel
theorem dX6_meet_48 : decode cX6_meet 48 = .ok (.ireturn, 1) := by decide +kernel
theorem dX6_meet_49 : decode cX6_meet 49 = .ok (.iinc 3 1, 3) := by decide +kernel
theorem dX6_meet_52 : decode cX6_meet 52 = .ok (.goto (-36), 3) := by decide +kernel
theorem dX6_meet_55 : decode cX6_meet 55 = .ok (.bipush (-6), 2) := by decide +kernel
theorem dX6_meet_57 : decode cX6_meet 57 = .ok (.ireturn, 1) := by decide +kernel
theorem dX6_together_0 : decode cX6_together 0 = .ok (.aload_n 0, 1) := by decide +kernel
theorem dX6_together_1 : decode cX6_together 1 = .ok (.getfield 10, 3) := by decide +kernel
theorem dX6_together_4 : decode cX6_together 4 = .ok (.iload_n 1, 1) := by decide +kernel
theorem dX6_together_5 : decode cX6_together 5 = .ok (.iload_n 2, 1) := by decide +kernel
theorem dX6_together_6 : decode cX6_together 6 = .ok (.invokevirtual 150, 3) := by decide +kernel
theorem dX6_together_9 : decode cX6_together 9 = .ok (.ifCond .ne 5, 3) := by decide +kernel
theorem dX6_together_12 : decode cX6_together 12 = .ok (.iconst (-1), 1) := by decide +kernel
theorem dX6_together_13 : decode cX6_together 13 = .ok (.ireturn, 1) := by decide +kernel
theorem dX6_together_14 : decode cX6_together 14 = .ok (.iload_n 3, 1) := by decide +kernel
theorem dX6_together_15 : decode cX6_together 15 = .ok (.iconst 0, 1) := by decide +kernel
theorem dX6_together_16 : decode cX6_together 16 = .ok (.sipush 9999, 3) := by decide +kernel
theorem dX6_together_19 : decode cX6_together 19 = .ok (.invokestatic 69, 3) := by decide +kernel
theorem dX6_together_22 : decode cX6_together 22 = .ok (.ifCond .ne 6, 3) := by decide +kernel
theorem dX6_together_25 : decode cX6_together 25 = .ok (.bipush (-2), 2) := by decide +kernel
theorem dX6_together_27 : decode cX6_together 27 = .ok (.ireturn, 1) := by decide +kernel
theorem dX6_together_28 : decode cX6_together 28 = .ok (.iconst 0, 1) := by decide +kernel
theorem dX6_together_29 : decode cX6_together 29 = .ok (.istore 4, 2) := by decide +kernel
theorem dX6_together_31 : decode cX6_together 31 = .ok (.aload_n 0, 1) := by decide +kernel
theorem dX6_together_32 : decode cX6_together 32 = .ok (.getfield 10, 3) := by decide +kernel
theorem dX6_together_35 : decode cX6_together 35 = .ok (.iload_n 1, 1) := by decide +kernel
theorem dX6_together_36 : decode cX6_together 36 = .ok (.iload_n 2, 1) := by decide +kernel
theorem dX6_together_37 : decode cX6_together 37 = .ok (.iconst 0, 1) := by decide +kernel
theorem dX6_together_38 : decode cX6_together 38 = .ok (.invokevirtual 154, 3) := by decide +kernel
theorem dX6_together_41 : decode cX6_together 41 = .ok (.ifCond .eq 17, 3) := by decide +kernel
theorem dX6_together_44 : decode cX6_together 44 = .ok (.iload_n 3, 1) := by decide +kernel
theorem dX6_together_45 : decode cX6_together 45 = .ok (.aload_n 0, 1) := by decide +kernel
theorem dX6_together_46 : decode cX6_together 46 = .ok (.getfield 10, 3) := by decide +kernel
theorem dX6_together_49 : decode cX6_together 49 = .ok (.iconst 1, 1) := by decide +kernel
theorem dX6_together_50 : decode cX6_together 50 = .ok (.invokevirtual 157, 3) := by decide +kernel
theorem dX6_together_53 : decode cX6_together 53 = .ok (.invokestatic 160, 3) := by decide +kernel
theorem dX6_together_56 : decode cX6_together 56 = .ok (.istore 4, 2) := by decide +kernel
theorem dX6_together_58 : decode cX6_together 58 = .ok (.iconst 1, 1) := by decide +kernel
theorem dX6_together_59 : decode cX6_together 59 = .ok (.istore 5, 2) := by decide +kernel
theorem dX6_together_61 : decode cX6_together 61 = .ok (.iload 5, 2) := by decide +kernel
theorem dX6_together_63 : decode cX6_together 63 = .ok (.aload_n 0, 1) := by decide +kernel
theorem dX6_together_64 : decode cX6_together 64 = .ok (.getfield 10, 3) := by decide +kernel
theorem dX6_together_67 : decode cX6_together 67 = .ok (.getfield 73, 3) := by decide +kernel
theorem dX6_together_70 : decode cX6_together 70 = .ok (.if_icmp .ge 38, 3) := by decide +kernel
theorem dX6_together_73 : decode cX6_together 73 = .ok (.aload_n 0, 1) := by decide +kernel
theorem dX6_together_74 : decode cX6_together 74 = .ok (.getfield 10, 3) := by decide +kernel
theorem dX6_together_77 : decode cX6_together 77 = .ok (.iload_n 1, 1) := by decide +kernel
theorem dX6_together_78 : decode cX6_together 78 = .ok (.iload_n 2, 1) := by decide +kernel
theorem dX6_together_79 : decode cX6_together 79 = .ok (.iload 5, 2) := by decide +kernel
theorem dX6_together_81 : decode cX6_together 81 = .ok (.invokevirtual 154, 3) := by decide +kernel
theorem dX6_together_84 : decode cX6_together 84 = .ok (.ifCond .eq 18, 3) := by decide +kernel
theorem dX6_together_87 : decode cX6_together 87 = .ok (.iload 4, 2) := by decide +kernel
theorem dX6_together_89 : decode cX6_together 89 = .ok (.aload_n 0, 1) := by decide +kernel
theorem dX6_together_90 : decode cX6_together 90 = .ok (.getfield 10, 3) := by decide +kernel
theorem dX6_together_93 : decode cX6_together 93 = .ok (.iload 5, 2) := by decide +kernel
theorem dX6_together_95 : decode cX6_together 95 = .ok (.iload_n 3, 1) := by decide +kernel
theorem dX6_together_96 : decode cX6_together 96 = .ok (.invokevirtual 165, 3) := by decide +kernel
theorem dX6_together_99 : decode cX6_together 99 = .ok (.iadd, 1) := by decide +kernel
theorem dX6_together_100 : decode cX6_together 100 = .ok (.istore 4, 2) := by decide +kernel
theorem dX6_together_102 : decode cX6_together 102 = .ok (.iinc 5 1, 3) := by decide +kernel
theorem dX6_together_105 : decode cX6_together 105 = .ok (.goto (-44), 3) := by decide +kernel
theorem dX6_together_108 : decode cX6_together 108 = .ok (.iload 4, 2) := by decide +kernel
theorem dX6_together_110 : decode cX6_together 110 = .ok (.ireturn, 1) := by decide +kernel
theorem dX6_begin_0 : decode cX6_begin 0 = .ok (.aload_n 0, 1) := by decide +kernel
theorem dX6_begin_1 : decode cX6_begin 1 = .ok (.getfield 10, 3) := by decide +kernel
theorem dX6_begin_4 : decode cX6_begin 4 = .ok (.iload_n 1, 1) := by decide +kernel
theorem dX6_begin_5 : decode cX6_begin 5 = .ok (.iload_n 2, 1) := by decide +kernel
theorem dX6_begin_6 : decode cX6_begin 6 = .ok (.invokevirtual 150, 3) := by decide +kernel
theorem dX6_begin_9 : decode cX6_begin 9 = .ok (.ifCond .ne 5, 3) := by decide +kernel
theorem dX6_begin_12 : decode cX6_begin 12 = .ok (.iconst (-1), 1) := by decide +kernel
theorem dX6_begin_13 : decode cX6_begin 13 = .ok (.ireturn, 1) := by decide +kernel
theorem dX6_begin_14 : decode cX6_begin 14 = .ok (.iload_n 3, 1) := by decide +kernel
theorem dX6_begin_15 : decode cX6_begin 15 = .ok (.iconst 1, 1) := by decide +kernel
theorem dX6_begin_16 : decode cX6_begin 16 = .ok (.sipush 400, 3) := by decide +kernel
theorem dX6_begin_19 : decode cX6_begin 19 = .ok (.invokestatic 69, 3) := by decide +kernel
theorem dX6_begin_22 : decode cX6_begin 22 = .ok (.ifCond .ne 6, 3) := by decide +kernel
theorem dX6_begin_25 : decode cX6_begin 25 = .ok (.bipush (-2), 2) := by decide +kernel
theorem dX6_begin_27 : decode cX6_begin 27 = .ok (.ireturn, 1) := by decide +kernel
theorem dX6_begin_28 : decode cX6_begin 28 = .ok (.aload_n 0, 1) := by decide +kernel
theorem dX6_begin_29 : decode cX6_begin 29 = .ok (.getfield 10, 3) := by decide +kernel
theorem dX6_begin_32 : decode cX6_begin 32 = .ok (.iload_n 1, 1) := by decide +kernel
theorem dX6_begin_33 : decode cX6_begin 33 = .ok (.iload_n 2, 1) := by decide +kernel
theorem dX6_begin_34 : decode cX6_begin 34 = .ok (.iload_n 3, 1) := by decide +kernel
theorem dX6_begin_35 : decode cX6_begin 35 = .ok (.invokevirtual 168, 3) := by decide +kernel
theorem dX6_begin_38 : decode cX6_begin 38 = .ok (.ireturn, 1) := by decide +kernel
theorem dX6_longest_0 : decode cX6_longest 0 = .ok (.aload_n 0, 1) := by decide +kernel
theorem dX6_longest_1 : decode cX6_longest 1 = .ok (.getfield 10, 3) := by decide +kernel
theorem dX6_longest_4 : decode cX6_longest 4 = .ok (.iload_n 1, 1) := by decide +kernel
theorem dX6_longest_5 : decode cX6_longest 5 = .ok (.iload_n 2, 1) := by decide +kernel
theorem dX6_longest_6 : decode cX6_longest 6 = .ok (.invokevirtual 150, 3) := by decide +kernel
theorem dX6_longest_9 : decode cX6_longest 9 = .ok (.ifCond .ne 5, 3) := by decide +kernel
theorem dX6_longest_12 : decode cX6_longest 12 = .ok (.iconst (-1), 1) := by decide +kernel
theorem dX6_longest_13 : decode cX6_longest 13 = .ok (.ireturn, 1) := by decide +kernel
theorem dX6_longest_14 : decode cX6_longest 14 = .ok (.iload_n 3, 1) := by decide +kernel
theorem dX6_longest_15 : decode cX6_longest 15 = .ok (.iconst 0, 1) := by decide +kernel
theorem dX6_longest_16 : decode cX6_longest 16 = .ok (.sipush 9999, 3) := by decide +kernel
theorem dX6_longest_19 : decode cX6_longest 19 = .ok (.invokestatic 69, 3) := by decide +kernel
theorem dX6_longest_22 : decode cX6_longest 22 = .ok (.ifCond .ne 6, 3) := by decide +kernel
theorem dX6_longest_25 : decode cX6_longest 25 = .ok (.bipush (-2), 2) := by decide +kernel
theorem dX6_longest_27 : decode cX6_longest 27 = .ok (.ireturn, 1) := by decide +kernel
theorem dX6_longest_28 : decode cX6_longest 28 = .ok (.aload_n 0, 1) := by decide +kernel
theorem dX6_longest_29 : decode cX6_longest 29 = .ok (.getfield 10, 3) := by decide +kernel
theorem dX6_longest_32 : decode cX6_longest 32 = .ok (.iload_n 1, 1) := by decide +kernel
theorem dX6_longest_33 : decode cX6_longest 33 = .ok (.iload_n 2, 1) := by decide +kernel
theorem dX6_longest_34 : decode cX6_longest 34 = .ok (.iload_n 3, 1) := by decide +kernel
theorem dX6_longest_35 : decode cX6_longest 35 = .ok (.invokevirtual 172, 3) := by decide +kernel
theorem dX6_longest_38 : decode cX6_longest 38 = .ok (.ireturn, 1) := by decide +kernel
theorem dX6_struck_0 : decode cX6_struck 0 = .ok (.aload_n 0, 1) := by decide +kernel
theorem dX6_struck_1 : decode cX6_struck 1 = .ok (.getfield 10, 3) := by decide +kernel
theorem dX6_struck_4 : decode cX6_struck 4 = .ok (.iload_n 1, 1) := by decide +kernel
theorem dX6_struck_5 : decode cX6_struck 5 = .ok (.invokevirtual 79, 3) := by decide +kernel
theorem dX6_struck_8 : decode cX6_struck 8 = .ok (.ifCond .ne 5, 3) := by decide +kernel
theorem dX6_struck_11 : decode cX6_struck 11 = .ok (.iconst (-1), 1) := by decide +kernel
theorem dX6_struck_12 : decode cX6_struck 12 = .ok (.ireturn, 1) := by decide +kernel
theorem dX6_struck_13 : decode cX6_struck 13 = .ok (.iload_n 2, 1) := by decide +kernel
theorem dX6_struck_14 : decode cX6_struck 14 = .ok (.iconst 0, 1) := by decide +kernel
theorem dX6_struck_15 : decode cX6_struck 15 = .ok (.sipush 9999, 3) := by decide +kernel
theorem dX6_struck_18 : decode cX6_struck 18 = .ok (.invokestatic 69, 3) := by decide +kernel
theorem dX6_struck_21 : decode cX6_struck 21 = .ok (.ifCond .eq 14, 3) := by decide +kernel
theorem dX6_struck_24 : decode cX6_struck 24 = .ok (.iload_n 3, 1) := by decide +kernel
theorem dX6_struck_25 : decode cX6_struck 25 = .ok (.iconst 1, 1) := by decide +kernel
theorem dX6_struck_26 : decode cX6_struck 26 = .ok (.sipush 400, 3) := by decide +kernel
theorem dX6_struck_29 : decode cX6_struck 29 = .ok (.invokestatic 69, 3) := by decide +kernel
theorem dX6_struck_32 : decode cX6_struck 32 = .ok (.ifCond .ne 6, 3) := by decide +kernel
theorem dX6_struck_35 : decode cX6_struck 35 = .ok (.bipush (-2), 2) := by decide +kernel
theorem dX6_struck_37 : decode cX6_struck 37 = .ok (.ireturn, 1) := by decide +kernel
theorem dX6_struck_38 : decode cX6_struck 38 = .ok (.iconst 0, 1) := by decide +kernel
theorem dX6_struck_39 : decode cX6_struck 39 = .ok (.istore 4, 2) := by decide +kernel
theorem dX6_struck_41 : decode cX6_struck 41 = .ok (.iconst 0, 1) := by decide +kernel
theorem dX6_struck_42 : decode cX6_struck 42 = .ok (.istore 5, 2) := by decide +kernel
theorem dX6_struck_44 : decode cX6_struck 44 = .ok (.iload 5, 2) := by decide +kernel
theorem dX6_struck_46 : decode cX6_struck 46 = .ok (.aload_n 0, 1) := by decide +kernel
theorem dX6_struck_47 : decode cX6_struck 47 = .ok (.getfield 10, 3) := by decide +kernel
theorem dX6_struck_50 : decode cX6_struck 50 = .ok (.getfield 73, 3) := by decide +kernel
theorem dX6_struck_53 : decode cX6_struck 53 = .ok (.if_icmp .ge 39, 3) := by decide +kernel
theorem dX6_struck_56 : decode cX6_struck 56 = .ok (.iload 5, 2) := by decide +kernel
theorem dX6_struck_58 : decode cX6_struck 58 = .ok (.iload_n 1, 1) := by decide +kernel
theorem dX6_struck_59 : decode cX6_struck 59 = .ok (.if_icmp .eq 27, 3) := by decide +kernel
theorem dX6_struck_62 : decode cX6_struck 62 = .ok (.aload_n 0, 1) := by decide +kernel
theorem dX6_struck_63 : decode cX6_struck 63 = .ok (.getfield 10, 3) := by decide +kernel
theorem dX6_struck_66 : decode cX6_struck 66 = .ok (.iload 5, 2) := by decide +kernel
theorem dX6_struck_68 : decode cX6_struck 68 = .ok (.iload_n 1, 1) := by decide +kernel
theorem dX6_struck_69 : decode cX6_struck 69 = .ok (.iload_n 2, 1) := by decide +kernel
theorem dX6_struck_70 : decode cX6_struck 70 = .ok (.invokevirtual 172, 3) := by decide +kernel
theorem dX6_struck_73 : decode cX6_struck 73 = .ok (.iload_n 3, 1) := by decide +kernel
theorem dX6_struck_74 : decode cX6_struck 74 = .ok (.if_icmp .lt 12, 3) := by decide +kernel
theorem dX6_struck_77 : decode cX6_struck 77 = .ok (.iload 4, 2) := by decide +kernel
theorem dX6_struck_79 : decode cX6_struck 79 = .ok (.iconst 1, 1) := by decide +kernel
theorem dX6_struck_80 : decode cX6_struck 80 = .ok (.iload 5, 2) := by decide +kernel
theorem dX6_struck_82 : decode cX6_struck 82 = .ok (.ishl, 1) := by decide +kernel
theorem dX6_struck_83 : decode cX6_struck 83 = .ok (.ior, 1) := by decide +kernel
theorem dX6_struck_84 : decode cX6_struck 84 = .ok (.istore 4, 2) := by decide +kernel
theorem dX6_struck_86 : decode cX6_struck 86 = .ok (.iinc 5 1, 3) := by decide +kernel
theorem dX6_struck_89 : decode cX6_struck 89 = .ok (.goto (-45), 3) := by decide +kernel
theorem dX6_struck_92 : decode cX6_struck 92 = .ok (.iload 4, 2) := by decide +kernel
theorem dX6_struck_94 : decode cX6_struck 94 = .ok (.ireturn, 1) := by decide +kernel
theorem dX6_sure_0 : decode cX6_sure 0 = .ok (.iload_n 1, 1) := by decide +kernel
theorem dX6_sure_1 : decode cX6_sure 1 = .ok (.iconst 1, 1) := by decide +kernel
theorem dX6_sure_2 : decode cX6_sure 2 = .ok (.sipush 400, 3) := by decide +kernel
theorem dX6_sure_5 : decode cX6_sure 5 = .ok (.invokestatic 69, 3) := by decide +kernel
theorem dX6_sure_8 : decode cX6_sure 8 = .ok (.ifCond .ne 6, 3) := by decide +kernel
theorem dX6_sure_11 : decode cX6_sure 11 = .ok (.bipush (-2), 2) := by decide +kernel
theorem dX6_sure_13 : decode cX6_sure 13 = .ok (.ireturn, 1) := by decide +kernel
theorem dX6_sure_14 : decode cX6_sure 14 = .ok (.iconst 0, 1) := by decide +kernel
theorem dX6_sure_15 : decode cX6_sure 15 = .ok (.istore_n 2, 1) := by decide +kernel
theorem dX6_sure_16 : decode cX6_sure 16 = .ok (.iconst 0, 1) := by decide +kernel
theorem dX6_sure_17 : decode cX6_sure 17 = .ok (.istore_n 3, 1) := by decide +kernel
theorem dX6_sure_18 : decode cX6_sure 18 = .ok (.iload_n 3, 1) := by decide +kernel
theorem dX6_sure_19 : decode cX6_sure 19 = .ok (.aload_n 0, 1) := by decide +kernel
theorem dX6_sure_20 : decode cX6_sure 20 = .ok (.getfield 10, 3) := by decide +kernel
theorem dX6_sure_23 : decode cX6_sure 23 = .ok (.getfield 73, 3) := by decide +kernel
theorem dX6_sure_26 : decode cX6_sure 26 = .ok (.if_icmp .ge 76, 3) := by decide +kernel
theorem dX6_sure_29 : decode cX6_sure 29 = .ok (.iconst 0, 1) := by decide +kernel
theorem dX6_sure_30 : decode cX6_sure 30 = .ok (.istore 4, 2) := by decide +kernel
theorem dX6_sure_32 : decode cX6_sure 32 = .ok (.iconst 0, 1) := by decide +kernel
theorem dX6_sure_33 : decode cX6_sure 33 = .ok (.istore 5, 2) := by decide +kernel
theorem dX6_sure_35 : decode cX6_sure 35 = .ok (.iload 5, 2) := by decide +kernel
theorem dX6_sure_37 : decode cX6_sure 37 = .ok (.aload_n 0, 1) := by decide +kernel
theorem dX6_sure_38 : decode cX6_sure 38 = .ok (.getfield 10, 3) := by decide +kernel
theorem dX6_sure_41 : decode cX6_sure 41 = .ok (.getfield 73, 3) := by decide +kernel
theorem dX6_sure_44 : decode cX6_sure 44 = .ok (.if_icmp .ge 41, 3) := by decide +kernel
theorem dX6_sure_47 : decode cX6_sure 47 = .ok (.iload 4, 2) := by decide +kernel
theorem dX6_sure_49 : decode cX6_sure 49 = .ok (.iload 5, 2) := by decide +kernel
theorem dX6_sure_51 : decode cX6_sure 51 = .ok (.iload_n 3, 1) := by decide +kernel
theorem dX6_sure_52 : decode cX6_sure 52 = .ok (.if_icmp .eq 23, 3) := by decide +kernel
theorem dX6_sure_55 : decode cX6_sure 55 = .ok (.aload_n 0, 1) := by decide +kernel
theorem dX6_sure_56 : decode cX6_sure 56 = .ok (.getfield 10, 3) := by decide +kernel
theorem dX6_sure_59 : decode cX6_sure 59 = .ok (.iload 5, 2) := by decide +kernel
theorem dX6_sure_61 : decode cX6_sure 61 = .ok (.iload_n 3, 1) := by decide +kernel
theorem dX6_sure_62 : decode cX6_sure 62 = .ok (.iload_n 1, 1) := by decide +kernel
theorem dX6_sure_63 : decode cX6_sure 63 = .ok (.invokevirtual 168, 3) := by decide +kernel
theorem dX6_sure_66 : decode cX6_sure 66 = .ok (.bipush (-6), 2) := by decide +kernel
theorem dX6_sure_68 : decode cX6_sure 68 = .ok (.if_icmp .eq 7, 3) := by decide +kernel
theorem dX6_sure_71 : decode cX6_sure 71 = .ok (.iconst 1, 1) := by decide +kernel
theorem dX6_sure_72 : decode cX6_sure 72 = .ok (.goto 4, 3) := by decide +kernel
theorem dX6_sure_75 : decode cX6_sure 75 = .ok (.iconst 0, 1) := by decide +kernel
theorem dX6_sure_76 : decode cX6_sure 76 = .ok (.ior, 1) := by decide +kernel
theorem dX6_sure_77 : decode cX6_sure 77 = .ok (.istore 4, 2) := by decide +kernel
theorem dX6_sure_79 : decode cX6_sure 79 = .ok (.iinc 5 1, 3) := by decide +kernel
theorem dX6_sure_82 : decode cX6_sure 82 = .ok (.goto (-47), 3) := by decide +kernel
theorem dX6_sure_85 : decode cX6_sure 85 = .ok (.iload 4, 2) := by decide +kernel
theorem dX6_sure_87 : decode cX6_sure 87 = .ok (.ifCond .ne 9, 3) := by decide +kernel
theorem dX6_sure_90 : decode cX6_sure 90 = .ok (.iload_n 2, 1) := by decide +kernel
theorem dX6_sure_91 : decode cX6_sure 91 = .ok (.iconst 1, 1) := by decide +kernel
theorem dX6_sure_92 : decode cX6_sure 92 = .ok (.iload_n 3, 1) := by decide +kernel
theorem dX6_sure_93 : decode cX6_sure 93 = .ok (.ishl, 1) := by decide +kernel
theorem dX6_sure_94 : decode cX6_sure 94 = .ok (.ior, 1) := by decide +kernel
theorem dX6_sure_95 : decode cX6_sure 95 = .ok (.istore_n 2, 1) := by decide +kernel
theorem dX6_sure_96 : decode cX6_sure 96 = .ok (.iinc 3 1, 3) := by decide +kernel
theorem dX6_sure_99 : decode cX6_sure 99 = .ok (.goto (-81), 3) := by decide +kernel
theorem dX6_sure_102 : decode cX6_sure 102 = .ok (.iload_n 2, 1) := by decide +kernel
theorem dX6_sure_103 : decode cX6_sure 103 = .ok (.ireturn, 1) := by decide +kernel
theorem dX6_fooled_0 : decode cX6_fooled 0 = .ok (.aload_n 0, 1) := by decide +kernel
theorem dX6_fooled_1 : decode cX6_fooled 1 = .ok (.getfield 10, 3) := by decide +kernel
theorem dX6_fooled_4 : decode cX6_fooled 4 = .ok (.iload_n 1, 1) := by decide +kernel
theorem dX6_fooled_5 : decode cX6_fooled 5 = .ok (.invokevirtual 79, 3) := by decide +kernel
theorem dX6_fooled_8 : decode cX6_fooled 8 = .ok (.ifCond .ne 5, 3) := by decide +kernel
theorem dX6_fooled_11 : decode cX6_fooled 11 = .ok (.iconst (-1), 1) := by decide +kernel
theorem dX6_fooled_12 : decode cX6_fooled 12 = .ok (.ireturn, 1) := by decide +kernel
theorem dX6_fooled_13 : decode cX6_fooled 13 = .ok (.iload_n 2, 1) := by decide +kernel
theorem dX6_fooled_14 : decode cX6_fooled 14 = .ok (.iconst 0, 1) := by decide +kernel
theorem dX6_fooled_15 : decode cX6_fooled 15 = .ok (.sipush 9999, 3) := by decide +kernel
theorem dX6_fooled_18 : decode cX6_fooled 18 = .ok (.invokestatic 69, 3) := by decide +kernel
theorem dX6_fooled_21 : decode cX6_fooled 21 = .ok (.ifCond .eq 14, 3) := by decide +kernel
theorem dX6_fooled_24 : decode cX6_fooled 24 = .ok (.iload_n 3, 1) := by decide +kernel
theorem dX6_fooled_25 : decode cX6_fooled 25 = .ok (.iconst 1, 1) := by decide +kernel
theorem dX6_fooled_26 : decode cX6_fooled 26 = .ok (.sipush 400, 3) := by decide +kernel
theorem dX6_fooled_29 : decode cX6_fooled 29 = .ok (.invokestatic 69, 3) := by decide +kernel
theorem dX6_fooled_32 : decode cX6_fooled 32 = .ok (.ifCond .ne 6, 3) := by decide +kernel
theorem dX6_fooled_35 : decode cX6_fooled 35 = .ok (.bipush (-2), 2) := by decide +kernel
theorem dX6_fooled_37 : decode cX6_fooled 37 = .ok (.ireturn, 1) := by decide +kernel
theorem dX6_fooled_38 : decode cX6_fooled 38 = .ok (.iconst 0, 1) := by decide +kernel
theorem dX6_fooled_39 : decode cX6_fooled 39 = .ok (.istore 4, 2) := by decide +kernel
theorem dX6_fooled_41 : decode cX6_fooled 41 = .ok (.iconst 0, 1) := by decide +kernel
theorem dX6_fooled_42 : decode cX6_fooled 42 = .ok (.istore 5, 2) := by decide +kernel
theorem dX6_fooled_44 : decode cX6_fooled 44 = .ok (.iload 5, 2) := by decide +kernel
theorem dX6_fooled_46 : decode cX6_fooled 46 = .ok (.aload_n 0, 1) := by decide +kernel
theorem dX6_fooled_47 : decode cX6_fooled 47 = .ok (.getfield 10, 3) := by decide +kernel
theorem dX6_fooled_50 : decode cX6_fooled 50 = .ok (.getfield 73, 3) := by decide +kernel
theorem dX6_fooled_53 : decode cX6_fooled 53 = .ok (.if_icmp .ge 85, 3) := by decide +kernel
theorem dX6_fooled_56 : decode cX6_fooled 56 = .ok (.aload_n 0, 1) := by decide +kernel
theorem dX6_fooled_57 : decode cX6_fooled 57 = .ok (.getfield 10, 3) := by decide +kernel
theorem dX6_fooled_60 : decode cX6_fooled 60 = .ok (.iload 5, 2) := by decide +kernel
theorem dX6_fooled_62 : decode cX6_fooled 62 = .ok (.iload_n 1, 1) := by decide +kernel
theorem dX6_fooled_63 : decode cX6_fooled 63 = .ok (.iload_n 2, 1) := by decide +kernel
theorem dX6_fooled_64 : decode cX6_fooled 64 = .ok (.invokevirtual 172, 3) := by decide +kernel
theorem dX6_fooled_67 : decode cX6_fooled 67 = .ok (.iload_n 3, 1) := by decide +kernel
theorem dX6_fooled_68 : decode cX6_fooled 68 = .ok (.if_icmp .lt 7, 3) := by decide +kernel
theorem dX6_fooled_71 : decode cX6_fooled 71 = .ok (.iconst 1, 1) := by decide +kernel
theorem dX6_fooled_72 : decode cX6_fooled 72 = .ok (.goto 4, 3) := by decide +kernel
theorem dX6_fooled_75 : decode cX6_fooled 75 = .ok (.iconst 0, 1) := by decide +kernel
theorem dX6_fooled_76 : decode cX6_fooled 76 = .ok (.istore 6, 2) := by decide +kernel
theorem dX6_fooled_78 : decode cX6_fooled 78 = .ok (.aload_n 0, 1) := by decide +kernel
theorem dX6_fooled_79 : decode cX6_fooled 79 = .ok (.getfield 10, 3) := by decide +kernel
theorem dX6_fooled_82 : decode cX6_fooled 82 = .ok (.aload_n 0, 1) := by decide +kernel
theorem dX6_fooled_83 : decode cX6_fooled 83 = .ok (.getfield 10, 3) := by decide +kernel
theorem dX6_fooled_86 : decode cX6_fooled 86 = .ok (.iload 5, 2) := by decide +kernel
theorem dX6_fooled_88 : decode cX6_fooled 88 = .ok (.invokevirtual 175, 3) := by decide +kernel
theorem dX6_fooled_91 : decode cX6_fooled 91 = .ok (.iload_n 1, 1) := by decide +kernel
theorem dX6_fooled_92 : decode cX6_fooled 92 = .ok (.iload_n 2, 1) := by decide +kernel
theorem dX6_fooled_93 : decode cX6_fooled 93 = .ok (.invokevirtual 172, 3) := by decide +kernel
theorem dX6_fooled_96 : decode cX6_fooled 96 = .ok (.iload_n 3, 1) := by decide +kernel
theorem dX6_fooled_97 : decode cX6_fooled 97 = .ok (.if_icmp .lt 7, 3) := by decide +kernel
theorem dX6_fooled_100 : decode cX6_fooled 100 = .ok (.iconst 1, 1) := by decide +kernel
theorem dX6_fooled_101 : decode cX6_fooled 101 = .ok (.goto 4, 3) := by decide +kernel
theorem dX6_fooled_104 : decode cX6_fooled 104 = .ok (.iconst 0, 1) := by decide +kernel
theorem dX6_fooled_105 : decode cX6_fooled 105 = .ok (.istore 7, 2) := by decide +kernel
theorem dX6_fooled_107 : decode cX6_fooled 107 = .ok (.iload 5, 2) := by decide +kernel
theorem dX6_fooled_109 : decode cX6_fooled 109 = .ok (.iload_n 1, 1) := by decide +kernel
theorem dX6_fooled_110 : decode cX6_fooled 110 = .ok (.if_icmp .eq 22, 3) := by decide +kernel
theorem dX6_fooled_113 : decode cX6_fooled 113 = .ok (.iload 7, 2) := by decide +kernel
theorem dX6_fooled_115 : decode cX6_fooled 115 = .ok (.ifCond .eq 17, 3) := by decide +kernel
theorem dX6_fooled_118 : decode cX6_fooled 118 = .ok (.iload 6, 2) := by decide +kernel
theorem dX6_fooled_120 : decode cX6_fooled 120 = .ok (.ifCond .ne 12, 3) := by decide +kernel
theorem dX6_fooled_123 : decode cX6_fooled 123 = .ok (.iload 4, 2) := by decide +kernel
theorem dX6_fooled_125 : decode cX6_fooled 125 = .ok (.iconst 1, 1) := by decide +kernel
theorem dX6_fooled_126 : decode cX6_fooled 126 = .ok (.iload 5, 2) := by decide +kernel
theorem dX6_fooled_128 : decode cX6_fooled 128 = .ok (.ishl, 1) := by decide +kernel
theorem dX6_fooled_129 : decode cX6_fooled 129 = .ok (.ior, 1) := by decide +kernel
theorem dX6_fooled_130 : decode cX6_fooled 130 = .ok (.istore 4, 2) := by decide +kernel
theorem dX6_fooled_132 : decode cX6_fooled 132 = .ok (.iinc 5 1, 3) := by decide +kernel
theorem dX6_fooled_135 : decode cX6_fooled 135 = .ok (.goto (-91), 3) := by decide +kernel
theorem dX6_fooled_138 : decode cX6_fooled 138 = .ok (.iload 4, 2) := by decide +kernel
theorem dX6_fooled_140 : decode cX6_fooled 140 = .ok (.ireturn, 1) := by decide +kernel
theorem dX6_letter_0 : decode cX6_letter 0 = .ok (.aload_n 0, 1) := by decide +kernel
theorem dX6_letter_1 : decode cX6_letter 1 = .ok (.getfield 10, 3) := by decide +kernel
theorem dX6_letter_4 : decode cX6_letter 4 = .ok (.iload_n 1, 1) := by decide +kernel
theorem dX6_letter_5 : decode cX6_letter 5 = .ok (.invokevirtual 79, 3) := by decide +kernel
theorem dX6_letter_8 : decode cX6_letter 8 = .ok (.ifCond .eq 14, 3) := by decide +kernel
theorem dX6_letter_11 : decode cX6_letter 11 = .ok (.aload_n 0, 1) := by decide +kernel
theorem dX6_letter_12 : decode cX6_letter 12 = .ok (.getfield 10, 3) := by decide +kernel
theorem dX6_letter_15 : decode cX6_letter 15 = .ok (.iload_n 2, 1) := by decide +kernel
theorem dX6_letter_16 : decode cX6_letter 16 = .ok (.invokevirtual 79, 3) := by decide +kernel
theorem dX6_letter_19 : decode cX6_letter 19 = .ok (.ifCond .ne 5, 3) := by decide +kernel
theorem dX6_letter_22 : decode cX6_letter 22 = .ok (.iconst (-1), 1) := by decide +kernel
theorem dX6_letter_23 : decode cX6_letter 23 = .ok (.ireturn, 1) := by decide +kernel
theorem dX6_letter_24 : decode cX6_letter 24 = .ok (.aload_n 0, 1) := by decide +kernel
theorem dX6_letter_25 : decode cX6_letter 25 = .ok (.getfield 10, 3) := by decide +kernel
theorem dX6_letter_28 : decode cX6_letter 28 = .ok (.iload_n 1, 1) := by decide +kernel
theorem dX6_letter_29 : decode cX6_letter 29 = .ok (.iload_n 2, 1) := by decide +kernel
theorem dX6_letter_30 : decode cX6_letter 30 = .ok (.isub, 1) := by decide +kernel
theorem dX6_letter_31 : decode cX6_letter 31 = .ok (.aload_n 0, 1) := by decide +kernel
theorem dX6_letter_32 : decode cX6_letter 32 = .ok (.getfield 10, 3) := by decide +kernel
theorem dX6_letter_35 : decode cX6_letter 35 = .ok (.getfield 73, 3) := by decide +kernel
theorem dX6_letter_38 : decode cX6_letter 38 = .ok (.invokestatic 178, 3) := by decide +kernel
theorem dX6_letter_41 : decode cX6_letter 41 = .ok (.invokevirtual 157, 3) := by decide +kernel
theorem dX6_letter_44 : decode cX6_letter 44 = .ok (.ireturn, 1) := by decide +kernel
theorem dX6_copy_0 : decode cX6_copy 0 = .ok (.aload_n 0, 1) := by decide +kernel
theorem dX6_copy_1 : decode cX6_copy 1 = .ok (.getfield 10, 3) := by decide +kernel
theorem dX6_copy_4 : decode cX6_copy 4 = .ok (.iload_n 1, 1) := by decide +kernel
theorem dX6_copy_5 : decode cX6_copy 5 = .ok (.invokevirtual 79, 3) := by decide +kernel
theorem dX6_copy_8 : decode cX6_copy 8 = .ok (.ifCond .ne 5, 3) := by decide +kernel
theorem dX6_copy_11 : decode cX6_copy 11 = .ok (.iconst (-1), 1) := by decide +kernel
theorem dX6_copy_12 : decode cX6_copy 12 = .ok (.ireturn, 1) := by decide +kernel
theorem dX6_copy_13 : decode cX6_copy 13 = .ok (.aload_n 0, 1) := by decide +kernel
theorem dX6_copy_14 : decode cX6_copy 14 = .ok (.getfield 10, 3) := by decide +kernel
theorem dX6_copy_17 : decode cX6_copy 17 = .ok (.getfield 73, 3) := by decide +kernel
theorem dX6_copy_20 : decode cX6_copy 20 = .ok (.aload_n 0, 1) := by decide +kernel
theorem dX6_copy_21 : decode cX6_copy 21 = .ok (.getfield 10, 3) := by decide +kernel
theorem dX6_copy_24 : decode cX6_copy 24 = .ok (.getfield 73, 3) := by decide +kernel
theorem dX6_copy_27 : decode cX6_copy 27 = .ok (.iconst 1, 1) := by decide +kernel
theorem dX6_copy_28 : decode cX6_copy 28 = .ok (.isub, 1) := by decide +kernel
theorem dX6_copy_29 : decode cX6_copy 29 = .ok (.imul, 1) := by decide +kernel
theorem dX6_copy_30 : decode cX6_copy 30 = .ok (.istore_n 2, 1) := by decide +kernel
theorem dX6_copy_31 : decode cX6_copy 31 = .ok (.iconst 1, 1) := by decide +kernel
theorem dX6_copy_32 : decode cX6_copy 32 = .ok (.istore_n 3, 1) := by decide +kernel
theorem dX6_copy_33 : decode cX6_copy 33 = .ok (.iload_n 3, 1) := by decide +kernel
theorem dX6_copy_34 : decode cX6_copy 34 = .ok (.iload_n 2, 1) := by decide +kernel
theorem dX6_copy_35 : decode cX6_copy 35 = .ok (.if_icmp .gt 55, 3) := by decide +kernel
theorem dX6_copy_38 : decode cX6_copy 38 = .ok (.aload_n 0, 1) := by decide +kernel
theorem dX6_copy_39 : decode cX6_copy 39 = .ok (.getfield 10, 3) := by decide +kernel
theorem dX6_copy_42 : decode cX6_copy 42 = .ok (.iload_n 3, 1) := by decide +kernel
theorem dX6_copy_43 : decode cX6_copy 43 = .ok (.invokevirtual 157, 3) := by decide +kernel
theorem dX6_copy_46 : decode cX6_copy 46 = .ok (.istore 4, 2) := by decide +kernel
theorem dX6_copy_48 : decode cX6_copy 48 = .ok (.iload 4, 2) := by decide +kernel
theorem dX6_copy_50 : decode cX6_copy 50 = .ok (.sipush 9999, 3) := by decide +kernel
theorem dX6_copy_53 : decode cX6_copy 53 = .ok (.if_icmp .gt 31, 3) := by decide +kernel
theorem dX6_copy_56 : decode cX6_copy 56 = .ok (.aload_n 0, 1) := by decide +kernel
theorem dX6_copy_57 : decode cX6_copy 57 = .ok (.getfield 10, 3) := by decide +kernel
theorem dX6_copy_60 : decode cX6_copy 60 = .ok (.iload_n 1, 1) := by decide +kernel
theorem dX6_copy_61 : decode cX6_copy 61 = .ok (.iload_n 3, 1) := by decide +kernel
theorem dX6_copy_62 : decode cX6_copy 62 = .ok (.invokevirtual 128, 3) := by decide +kernel
theorem dX6_copy_65 : decode cX6_copy 65 = .ok (.iload_n 1, 1) := by decide +kernel
theorem dX6_copy_66 : decode cX6_copy 66 = .ok (.iload_n 3, 1) := by decide +kernel
theorem dX6_copy_67 : decode cX6_copy 67 = .ok (.isub, 1) := by decide +kernel
theorem dX6_copy_68 : decode cX6_copy 68 = .ok (.aload_n 0, 1) := by decide +kernel
theorem dX6_copy_69 : decode cX6_copy 69 = .ok (.getfield 10, 3) := by decide +kernel
theorem dX6_copy_72 : decode cX6_copy 72 = .ok (.getfield 73, 3) := by decide +kernel
theorem dX6_copy_75 : decode cX6_copy 75 = .ok (.invokestatic 178, 3) := by decide +kernel
theorem dX6_copy_78 : decode cX6_copy 78 = .ok (.if_icmp .ne 6, 3) := by decide +kernel
theorem dX6_copy_81 : decode cX6_copy 81 = .ok (.iload 4, 2) := by decide +kernel
theorem dX6_copy_83 : decode cX6_copy 83 = .ok (.ireturn, 1) := by decide +kernel
theorem dX6_copy_84 : decode cX6_copy 84 = .ok (.iinc 3 1, 3) := by decide +kernel
theorem dX6_copy_87 : decode cX6_copy 87 = .ok (.goto (-54), 3) := by decide +kernel
theorem dX6_copy_90 : decode cX6_copy 90 = .ok (.bipush (-6), 2) := by decide +kernel
theorem dX6_copy_92 : decode cX6_copy 92 = .ok (.ireturn, 1) := by decide +kernel
theorem dX6_furs_0 : decode cX6_furs 0 = .ok (.iload_n 1, 1) := by decide +kernel
theorem dX6_furs_1 : decode cX6_furs 1 = .ok (.iconst 1, 1) := by decide +kernel
theorem dX6_furs_2 : decode cX6_furs 2 = .ok (.bipush 24, 2) := by decide +kernel
theorem dX6_furs_4 : decode cX6_furs 4 = .ok (.invokestatic 69, 3) := by decide +kernel
theorem dX6_furs_7 : decode cX6_furs 7 = .ok (.ifCond .eq 12, 3) := by decide +kernel
theorem dX6_furs_10 : decode cX6_furs 10 = .ok (.iload_n 2, 1) := by decide +kernel
theorem dX6_furs_11 : decode cX6_furs 11 = .ok (.iconst 0, 1) := by decide +kernel
theorem dX6_furs_12 : decode cX6_furs 12 = .ok (.iconst 1, 1) := by decide +kernel
theorem dX6_furs_13 : decode cX6_furs 13 = .ok (.invokestatic 69, 3) := by decide +kernel
theorem dX6_furs_16 : decode cX6_furs 16 = .ok (.ifCond .ne 6, 3) := by decide +kernel
theorem dX6_furs_19 : decode cX6_furs 19 = .ok (.bipush (-2), 2) := by decide +kernel
theorem dX6_furs_21 : decode cX6_furs 21 = .ok (.ireturn, 1) := by decide +kernel
theorem dX6_furs_22 : decode cX6_furs 22 = .ok (.iconst 0, 1) := by decide +kernel
theorem dX6_furs_23 : decode cX6_furs 23 = .ok (.istore_n 3, 1) := by decide +kernel
theorem dX6_furs_24 : decode cX6_furs 24 = .ok (.iconst 0, 1) := by decide +kernel
theorem dX6_furs_25 : decode cX6_furs 25 = .ok (.istore 4, 2) := by decide +kernel
theorem dX6_furs_27 : decode cX6_furs 27 = .ok (.iconst 0, 1) := by decide +kernel
theorem dX6_furs_28 : decode cX6_furs 28 = .ok (.istore 5, 2) := by decide +kernel
theorem dX6_furs_30 : decode cX6_furs 30 = .ok (.iload 5, 2) := by decide +kernel
theorem dX6_furs_32 : decode cX6_furs 32 = .ok (.iload_n 1, 1) := by decide +kernel
theorem dX6_furs_33 : decode cX6_furs 33 = .ok (.if_icmp .ge 33, 3) := by decide +kernel
theorem dX6_furs_36 : decode cX6_furs 36 = .ok (.aload_n 0, 1) := by decide +kernel
theorem dX6_furs_37 : decode cX6_furs 37 = .ok (.getfield 10, 3) := by decide +kernel
theorem dX6_furs_40 : decode cX6_furs 40 = .ok (.iload 5, 2) := by decide +kernel
theorem dX6_furs_42 : decode cX6_furs 42 = .ok (.invokevirtual 181, 3) := by decide +kernel
theorem dX6_furs_45 : decode cX6_furs 45 = .ok (.istore 6, 2) := by decide +kernel
theorem dX6_furs_47 : decode cX6_furs 47 = .ok (.iload 6, 2) := by decide +kernel
theorem dX6_furs_49 : decode cX6_furs 49 = .ok (.iload_n 3, 1) := by decide +kernel
theorem dX6_furs_50 : decode cX6_furs 50 = .ok (.if_icmp .le 10, 3) := by decide +kernel
theorem dX6_furs_53 : decode cX6_furs 53 = .ok (.iload 6, 2) := by decide +kernel
theorem dX6_furs_55 : decode cX6_furs 55 = .ok (.istore_n 3, 1) := by decide +kernel
theorem dX6_furs_56 : decode cX6_furs 56 = .ok (.iload 5, 2) := by decide +kernel
theorem dX6_furs_58 : decode cX6_furs 58 = .ok (.istore 4, 2) := by decide +kernel
theorem dX6_furs_60 : decode cX6_furs 60 = .ok (.iinc 5 1, 3) := by decide +kernel
theorem dX6_furs_63 : decode cX6_furs 63 = .ok (.goto (-33), 3) := by decide +kernel
theorem dX6_furs_66 : decode cX6_furs 66 = .ok (.iload_n 2, 1) := by decide +kernel
theorem dX6_furs_67 : decode cX6_furs 67 = .ok (.ifCond .ne 7, 3) := by decide +kernel
theorem dX6_furs_70 : decode cX6_furs 70 = .ok (.iload_n 3, 1) := by decide +kernel
theorem dX6_furs_71 : decode cX6_furs 71 = .ok (.goto 5, 3) := by decide +kernel
theorem dX6_furs_74 : decode cX6_furs 74 = .ok (.iload 4, 2) := by decide +kernel
theorem dX6_furs_76 : decode cX6_furs 76 = .ok (.ireturn, 1) := by decide +kernel
theorem dX6_seen_0 : decode cX6_seen 0 = .ok (.aload_n 0, 1) := by decide +kernel
theorem dX6_seen_1 : decode cX6_seen 1 = .ok (.getfield 10, 3) := by decide +kernel
theorem dX6_seen_4 : decode cX6_seen 4 = .ok (.iload_n 1, 1) := by decide +kernel
theorem dX6_seen_5 : decode cX6_seen 5 = .ok (.invokevirtual 79, 3) := by decide +kernel
theorem dX6_seen_8 : decode cX6_seen 8 = .ok (.ifCond .ne 5, 3) := by decide +kernel
theorem dX6_seen_11 : decode cX6_seen 11 = .ok (.iconst (-1), 1) := by decide +kernel
theorem dX6_seen_12 : decode cX6_seen 12 = .ok (.ireturn, 1) := by decide +kernel
theorem dX6_seen_13 : decode cX6_seen 13 = .ok (.aload_n 0, 1) := by decide +kernel
theorem dX6_seen_14 : decode cX6_seen 14 = .ok (.getfield 10, 3) := by decide +kernel
theorem dX6_seen_17 : decode cX6_seen 17 = .ok (.getfield 184, 3) := by decide +kernel
theorem dX6_seen_20 : decode cX6_seen 20 = .ok (.bipush 8, 2) := by decide +kernel
theorem dX6_seen_22 : decode cX6_seen 22 = .ok (.if_icmp .lt 6, 3) := by decide +kernel
theorem dX6_seen_25 : decode cX6_seen 25 = .ok (.bipush (-4), 2) := by decide +kernel
theorem dX6_seen_27 : decode cX6_seen 27 = .ok (.ireturn, 1) := by decide +kernel
theorem dX6_seen_28 : decode cX6_seen 28 = .ok (.aload_n 0, 1) := by decide +kernel
theorem dX6_seen_29 : decode cX6_seen 29 = .ok (.getfield 10, 3) := by decide +kernel
theorem dX6_seen_32 : decode cX6_seen 32 = .ok (.getfield 187, 3) := by decide +kernel
theorem dX6_seen_35 : decode cX6_seen 35 = .ok (.aload_n 0, 1) := by decide +kernel
theorem dX6_seen_36 : decode cX6_seen 36 = .ok (.getfield 10, 3) := by decide +kernel
theorem dX6_seen_39 : decode cX6_seen 39 = .ok (.getfield 184, 3) := by decide +kernel
theorem dX6_seen_42 : decode cX6_seen 42 = .ok (.iload_n 1, 1) := by decide +kernel
theorem dX6_seen_43 : decode cX6_seen 43 = .ok (.invokevirtual 93, 3) := by decide +kernel
theorem dX6_seen_46 : decode cX6_seen 46 = .ok (.aload_n 0, 1) := by decide +kernel
theorem dX6_seen_47 : decode cX6_seen 47 = .ok (.getfield 10, 3) := by decide +kernel
theorem dX6_seen_50 : decode cX6_seen 50 = .ok (.getfield 190, 3) := by decide +kernel
theorem dX6_seen_53 : decode cX6_seen 53 = .ok (.aload_n 0, 1) := by decide +kernel
theorem dX6_seen_54 : decode cX6_seen 54 = .ok (.getfield 10, 3) := by decide +kernel
theorem dX6_seen_57 : decode cX6_seen 57 = .ok (.getfield 184, 3) := by decide +kernel
theorem dX6_seen_60 : decode cX6_seen 60 = .ok (.iload_n 2, 1) := by decide +kernel
theorem dX6_seen_61 : decode cX6_seen 61 = .ok (.ifCond .eq 7, 3) := by decide +kernel
theorem dX6_seen_64 : decode cX6_seen 64 = .ok (.iconst 1, 1) := by decide +kernel
theorem dX6_seen_65 : decode cX6_seen 65 = .ok (.goto 4, 3) := by decide +kernel
theorem dX6_seen_68 : decode cX6_seen 68 = .ok (.iconst 0, 1) := by decide +kernel
theorem dX6_seen_69 : decode cX6_seen 69 = .ok (.invokevirtual 93, 3) := by decide +kernel
theorem dX6_seen_72 : decode cX6_seen 72 = .ok (.aload_n 0, 1) := by decide +kernel
theorem dX6_seen_73 : decode cX6_seen 73 = .ok (.getfield 10, 3) := by decide +kernel
theorem dX6_seen_76 : decode cX6_seen 76 = .ok (.dup, 1) := by decide +kernel
theorem dX6_seen_77 : decode cX6_seen 77 = .ok (.getfield 184, 3) := by decide +kernel
theorem dX6_seen_80 : decode cX6_seen 80 = .ok (.iconst 1, 1) := by decide +kernel
theorem dX6_seen_81 : decode cX6_seen 81 = .ok (.iadd, 1) := by decide +kernel
theorem dX6_seen_82 : decode cX6_seen 82 = .ok (.putfield 184, 3) := by decide +kernel
theorem dX6_seen_85 : decode cX6_seen 85 = .ok (.aload_n 0, 1) := by decide +kernel
theorem dX6_seen_86 : decode cX6_seen 86 = .ok (.getfield 10, 3) := by decide +kernel
theorem dX6_seen_89 : decode cX6_seen 89 = .ok (.getfield 184, 3) := by decide +kernel
theorem dX6_seen_92 : decode cX6_seen 92 = .ok (.ireturn, 1) := by decide +kernel
theorem dX6_forget_0 : decode cX6_forget 0 = .ok (.aload_n 0, 1) := by decide +kernel
theorem dX6_forget_1 : decode cX6_forget 1 = .ok (.getfield 10, 3) := by decide +kernel
theorem dX6_forget_4 : decode cX6_forget 4 = .ok (.getfield 184, 3) := by decide +kernel
theorem dX6_forget_7 : decode cX6_forget 7 = .ok (.istore_n 1, 1) := by decide +kernel
theorem dX6_forget_8 : decode cX6_forget 8 = .ok (.aload_n 0, 1) := by decide +kernel
theorem dX6_forget_9 : decode cX6_forget 9 = .ok (.getfield 10, 3) := by decide +kernel
theorem dX6_forget_12 : decode cX6_forget 12 = .ok (.iconst 0, 1) := by decide +kernel
theorem dX6_forget_13 : decode cX6_forget 13 = .ok (.putfield 184, 3) := by decide +kernel
theorem dX6_forget_16 : decode cX6_forget 16 = .ok (.iload_n 1, 1) := by decide +kernel
theorem dX6_forget_17 : decode cX6_forget 17 = .ok (.ireturn, 1) := by decide +kernel
theorem dX6_changed_0 : decode cX6_changed 0 = .ok (.aload_n 0, 1) := by decide +kernel
theorem dX6_changed_1 : decode cX6_changed 1 = .ok (.getfield 51, 3) := by decide +kernel
theorem dX6_changed_4 : decode cX6_changed 4 = .ok (.aload_n 0, 1) := by decide +kernel
theorem dX6_changed_5 : decode cX6_changed 5 = .ok (.getfield 10, 3) := by decide +kernel
theorem dX6_changed_8 : decode cX6_changed 8 = .ok (.invokevirtual 193, 3) := by decide +kernel
theorem dX6_changed_11 : decode cX6_changed 11 = .ok (.iload_n 1, 1) := by decide +kernel
theorem dX6_changed_12 : decode cX6_changed 12 = .ok (.iconst (-1), 1) := by decide +kernel
theorem dX6_changed_13 : decode cX6_changed 13 = .ok (.if_icmp .ne 11, 3) := by decide +kernel
theorem dX6_changed_16 : decode cX6_changed 16 = .ok (.aload_n 0, 1) := by decide +kernel
theorem dX6_changed_17 : decode cX6_changed 17 = .ok (.getfield 51, 3) := by decide +kernel
theorem dX6_changed_20 : decode cX6_changed 20 = .ok (.invokevirtual 196, 3) := by decide +kernel
theorem dX6_changed_23 : decode cX6_changed 23 = .ok (.ireturn, 1) := by decide +kernel
theorem dX6_changed_24 : decode cX6_changed 24 = .ok (.iload_n 1, 1) := by decide +kernel
theorem dX6_changed_25 : decode cX6_changed 25 = .ok (.ifCond .lt 14, 3) := by decide +kernel
theorem dX6_changed_28 : decode cX6_changed 28 = .ok (.iload_n 1, 1) := by decide +kernel
theorem dX6_changed_29 : decode cX6_changed 29 = .ok (.aload_n 0, 1) := by decide +kernel
theorem dX6_changed_30 : decode cX6_changed 30 = .ok (.getfield 51, 3) := by decide +kernel
theorem dX6_changed_33 : decode cX6_changed 33 = .ok (.invokevirtual 196, 3) := by decide +kernel
theorem dX6_changed_36 : decode cX6_changed 36 = .ok (.if_icmp .lt 6, 3) := by decide +kernel
theorem dX6_changed_39 : decode cX6_changed 39 = .ok (.bipush (-6), 2) := by decide +kernel
theorem dX6_changed_41 : decode cX6_changed 41 = .ok (.ireturn, 1) := by decide +kernel
theorem dX6_changed_42 : decode cX6_changed 42 = .ok (.aload_n 0, 1) := by decide +kernel
theorem dX6_changed_43 : decode cX6_changed 43 = .ok (.getfield 51, 3) := by decide +kernel
theorem dX6_changed_46 : decode cX6_changed 46 = .ok (.aload_n 0, 1) := by decide +kernel
theorem dX6_changed_47 : decode cX6_changed 47 = .ok (.getfield 10, 3) := by decide +kernel
theorem dX6_changed_50 : decode cX6_changed 50 = .ok (.iload_n 1, 1) := by decide +kernel
theorem dX6_changed_51 : decode cX6_changed 51 = .ok (.invokevirtual 199, 3) := by decide +kernel
theorem dX6_changed_54 : decode cX6_changed 54 = .ok (.ireturn, 1) := by decide +kernel
theorem dX6_names_0 : decode cX6_names 0 = .ok (.aload_n 0, 1) := by decide +kernel
theorem dX6_names_1 : decode cX6_names 1 = .ok (.getfield 10, 3) := by decide +kernel
theorem dX6_names_4 : decode cX6_names 4 = .ok (.iload_n 1, 1) := by decide +kernel
theorem dX6_names_5 : decode cX6_names 5 = .ok (.invokevirtual 79, 3) := by decide +kernel
theorem dX6_names_8 : decode cX6_names 8 = .ok (.ifCond .eq 14, 3) := by decide +kernel
theorem dX6_names_11 : decode cX6_names 11 = .ok (.aload_n 0, 1) := by decide +kernel
theorem dX6_names_12 : decode cX6_names 12 = .ok (.getfield 10, 3) := by decide +kernel
theorem dX6_names_15 : decode cX6_names 15 = .ok (.iload_n 1, 1) := by decide +kernel
theorem dX6_names_16 : decode cX6_names 16 = .ok (.invokevirtual 203, 3) := by decide +kernel
theorem dX6_names_19 : decode cX6_names 19 = .ok (.ifCond .ne 5, 3) := by decide +kernel
theorem dX6_names_22 : decode cX6_names 22 = .ok (.iconst (-1), 1) := by decide +kernel
theorem dX6_names_23 : decode cX6_names 23 = .ok (.ireturn, 1) := by decide +kernel
theorem dX6_names_24 : decode cX6_names 24 = .ok (.aload_n 0, 1) := by decide +kernel
theorem dX6_names_25 : decode cX6_names 25 = .ok (.getfield 51, 3) := by decide +kernel
theorem dX6_names_28 : decode cX6_names 28 = .ok (.aload_n 0, 1) := by decide +kernel
theorem dX6_names_29 : decode cX6_names 29 = .ok (.getfield 10, 3) := by decide +kernel
theorem dX6_names_32 : decode cX6_names 32 = .ok (.invokevirtual 193, 3) := by decide +kernel
theorem dX6_names_35 : decode cX6_names 35 = .ok (.aload_n 0, 1) := by decide +kernel
theorem dX6_names_36 : decode cX6_names 36 = .ok (.getfield 51, 3) := by decide +kernel
theorem dX6_names_39 : decode cX6_names 39 = .ok (.aload_n 0, 1) := by decide +kernel
theorem dX6_names_40 : decode cX6_names 40 = .ok (.getfield 10, 3) := by decide +kernel
theorem dX6_names_43 : decode cX6_names 43 = .ok (.iload_n 1, 1) := by decide +kernel
theorem dX6_names_44 : decode cX6_names 44 = .ok (.invokevirtual 206, 3) := by decide +kernel
theorem dX6_names_47 : decode cX6_names 47 = .ok (.ireturn, 1) := by decide +kernel
theorem dX6_hear_0 : decode cX6_hear 0 = .ok (.iload_n 1, 1) := by decide +kernel
theorem dX6_hear_1 : decode cX6_hear 1 = .ok (.iconst 0, 1) := by decide +kernel
theorem dX6_hear_2 : decode cX6_hear 2 = .ok (.iconst 1, 1) := by decide +kernel
theorem dX6_hear_3 : decode cX6_hear 3 = .ok (.invokestatic 69, 3) := by decide +kernel
theorem dX6_hear_6 : decode cX6_hear 6 = .ok (.ifCond .ne 6, 3) := by decide +kernel
theorem dX6_hear_9 : decode cX6_hear 9 = .ok (.bipush (-2), 2) := by decide +kernel
theorem dX6_hear_11 : decode cX6_hear 11 = .ok (.ireturn, 1) := by decide +kernel
theorem dX6_hear_12 : decode cX6_hear 12 = .ok (.aload_n 0, 1) := by decide +kernel
theorem dX6_hear_13 : decode cX6_hear 13 = .ok (.getfield 51, 3) := by decide +kernel
theorem dX6_hear_16 : decode cX6_hear 16 = .ok (.aload_n 0, 1) := by decide +kernel
theorem dX6_hear_17 : decode cX6_hear 17 = .ok (.getfield 10, 3) := by decide +kernel
theorem dX6_hear_20 : decode cX6_hear 20 = .ok (.invokevirtual 193, 3) := by decide +kernel
theorem dX6_hear_23 : decode cX6_hear 23 = .ok (.aload_n 0, 1) := by decide +kernel
theorem dX6_hear_24 : decode cX6_hear 24 = .ok (.getfield 51, 3) := by decide +kernel
theorem dX6_hear_27 : decode cX6_hear 27 = .ok (.aload_n 0, 1) := by decide +kernel
theorem dX6_hear_28 : decode cX6_hear 28 = .ok (.getfield 10, 3) := by decide +kernel
theorem dX6_hear_31 : decode cX6_hear 31 = .ok (.getfield 73, 3) := by decide +kernel
theorem dX6_hear_34 : decode cX6_hear 34 = .ok (.invokevirtual 209, 3) := by decide +kernel
theorem dX6_hear_37 : decode cX6_hear 37 = .ok (.istore_n 2, 1) := by decide +kernel
theorem dX6_hear_38 : decode cX6_hear 38 = .ok (.iload_n 2, 1) := by decide +kernel
theorem dX6_hear_39 : decode cX6_hear 39 = .ok (.bipush (-6), 2) := by decide +kernel
theorem dX6_hear_41 : decode cX6_hear 41 = .ok (.if_icmp .ne 6, 3) := by decide +kernel
theorem dX6_hear_44 : decode cX6_hear 44 = .ok (.bipush (-6), 2) := by decide +kernel
theorem dX6_hear_46 : decode cX6_hear 46 = .ok (.ireturn, 1) := by decide +kernel
theorem dX6_hear_47 : decode cX6_hear 47 = .ok (.iload_n 1, 1) := by decide +kernel
theorem dX6_hear_48 : decode cX6_hear 48 = .ok (.ifCond .ne 7, 3) := by decide +kernel
theorem dX6_hear_51 : decode cX6_hear 51 = .ok (.iload_n 2, 1) := by decide +kernel
theorem dX6_hear_52 : decode cX6_hear 52 = .ok (.goto 11, 3) := by decide +kernel
theorem dX6_hear_55 : decode cX6_hear 55 = .ok (.aload_n 0, 1) := by decide +kernel
theorem dX6_hear_56 : decode cX6_hear 56 = .ok (.getfield 51, 3) := by decide +kernel
theorem dX6_hear_59 : decode cX6_hear 59 = .ok (.iload_n 2, 1) := by decide +kernel
theorem dX6_hear_60 : decode cX6_hear 60 = .ok (.invokevirtual 212, 3) := by decide +kernel
theorem dX6_hear_63 : decode cX6_hear 63 = .ok (.ireturn, 1) := by decide +kernel
theorem dX6_undo_0 : decode cX6_undo 0 = .ok (.iconst 0, 1) := by decide +kernel
theorem dX6_undo_1 : decode cX6_undo 1 = .ok (.istore_n 1, 1) := by decide +kernel
theorem dX6_undo_2 : decode cX6_undo 2 = .ok (.iload_n 1, 1) := by decide +kernel
theorem dX6_undo_3 : decode cX6_undo 3 = .ok (.aload_n 0, 1) := by decide +kernel
theorem dX6_undo_4 : decode cX6_undo 4 = .ok (.getfield 10, 3) := by decide +kernel
theorem dX6_undo_7 : decode cX6_undo 7 = .ok (.getfield 73, 3) := by decide +kernel
theorem dX6_undo_10 : decode cX6_undo 10 = .ok (.if_icmp .ge 41, 3) := by decide +kernel
theorem dX6_undo_13 : decode cX6_undo 13 = .ok (.aload_n 0, 1) := by decide +kernel
theorem dX6_undo_14 : decode cX6_undo 14 = .ok (.getfield 10, 3) := by decide +kernel
theorem dX6_undo_17 : decode cX6_undo 17 = .ok (.iload_n 1, 1) := by decide +kernel
theorem dX6_undo_18 : decode cX6_undo 18 = .ok (.invokevirtual 203, 3) := by decide +kernel
theorem dX6_undo_21 : decode cX6_undo 21 = .ok (.ifCond .eq 24, 3) := by decide +kernel
theorem dX6_undo_24 : decode cX6_undo 24 = .ok (.aload_n 0, 1) := by decide +kernel
theorem dX6_undo_25 : decode cX6_undo 25 = .ok (.getfield 10, 3) := by decide +kernel
theorem dX6_undo_28 : decode cX6_undo 28 = .ok (.aload_n 0, 1) := by decide +kernel
theorem dX6_undo_29 : decode cX6_undo 29 = .ok (.getfield 10, 3) := by decide +kernel
theorem dX6_undo_32 : decode cX6_undo 32 = .ok (.iload_n 1, 1) := by decide +kernel
theorem dX6_undo_33 : decode cX6_undo 33 = .ok (.invokevirtual 175, 3) := by decide +kernel
theorem dX6_undo_36 : decode cX6_undo 36 = .ok (.invokevirtual 203, 3) := by decide +kernel
theorem dX6_undo_39 : decode cX6_undo 39 = .ok (.ifCond .ne 6, 3) := by decide +kernel
theorem dX6_undo_42 : decode cX6_undo 42 = .ok (.bipush (-6), 2) := by decide +kernel
theorem dX6_undo_44 : decode cX6_undo 44 = .ok (.ireturn, 1) := by decide +kernel
theorem dX6_undo_45 : decode cX6_undo 45 = .ok (.iinc 1 1, 3) := by decide +kernel
theorem dX6_undo_48 : decode cX6_undo 48 = .ok (.goto (-46), 3) := by decide +kernel
theorem dX6_undo_51 : decode cX6_undo 51 = .ok (.aload_n 0, 1) := by decide +kernel
theorem dX6_undo_52 : decode cX6_undo 52 = .ok (.getfield 16, 3) := by decide +kernel
theorem dX6_undo_55 : decode cX6_undo 55 = .ok (.aload_n 0, 1) := by decide +kernel
theorem dX6_undo_56 : decode cX6_undo 56 = .ok (.getfield 10, 3) := by decide +kernel
theorem dX6_undo_59 : decode cX6_undo 59 = .ok (.invokevirtual 124, 3) := by decide +kernel
theorem dX6_undo_62 : decode cX6_undo 62 = .ok (.iconst 0, 1) := by decide +kernel
theorem dX6_undo_63 : decode cX6_undo 63 = .ok (.istore_n 1, 1) := by decide +kernel
theorem dX6_undo_64 : decode cX6_undo 64 = .ok (.iconst 0, 1) := by decide +kernel
theorem dX6_undo_65 : decode cX6_undo 65 = .ok (.istore_n 2, 1) := by decide +kernel
theorem dX6_undo_66 : decode cX6_undo 66 = .ok (.iload_n 2, 1) := by decide +kernel
theorem dX6_undo_67 : decode cX6_undo 67 = .ok (.aload_n 0, 1) := by decide +kernel
theorem dX6_undo_68 : decode cX6_undo 68 = .ok (.getfield 16, 3) := by decide +kernel
theorem dX6_undo_71 : decode cX6_undo 71 = .ok (.getfield 73, 3) := by decide +kernel
theorem dX6_undo_74 : decode cX6_undo 74 = .ok (.if_icmp .ge 54, 3) := by decide +kernel
theorem dX6_undo_77 : decode cX6_undo 77 = .ok (.aload_n 0, 1) := by decide +kernel
theorem dX6_undo_78 : decode cX6_undo 78 = .ok (.getfield 16, 3) := by decide +kernel
theorem dX6_undo_81 : decode cX6_undo 81 = .ok (.iload_n 2, 1) := by decide +kernel
theorem dX6_undo_82 : decode cX6_undo 82 = .ok (.invokevirtual 203, 3) := by decide +kernel
theorem dX6_undo_85 : decode cX6_undo 85 = .ok (.ifCond .eq 37, 3) := by decide +kernel
theorem dX6_undo_88 : decode cX6_undo 88 = .ok (.aload_n 0, 1) := by decide +kernel
theorem dX6_undo_89 : decode cX6_undo 89 = .ok (.getfield 16, 3) := by decide +kernel
theorem dX6_undo_92 : decode cX6_undo 92 = .ok (.getfield 132, 3) := by decide +kernel
theorem dX6_undo_95 : decode cX6_undo 95 = .ok (.iload_n 2, 1) := by decide +kernel
theorem dX6_undo_96 : decode cX6_undo 96 = .ok (.invokevirtual 89, 3) := by decide +kernel
theorem dX6_undo_99 : decode cX6_undo 99 = .ok (.iload_n 2, 1) := by decide +kernel
theorem dX6_undo_100 : decode cX6_undo 100 = .ok (.if_icmp .eq 22, 3) := by decide +kernel
theorem dX6_undo_103 : decode cX6_undo 103 = .ok (.aload_n 0, 1) := by decide +kernel
theorem dX6_undo_104 : decode cX6_undo 104 = .ok (.getfield 16, 3) := by decide +kernel
theorem dX6_undo_107 : decode cX6_undo 107 = .ok (.iload_n 2, 1) := by decide +kernel
theorem dX6_undo_108 : decode cX6_undo 108 = .ok (.aload_n 0, 1) := by decide +kernel
theorem dX6_undo_109 : decode cX6_undo 109 = .ok (.getfield 16, 3) := by decide +kernel
theorem dX6_undo_112 : decode cX6_undo 112 = .ok (.iload_n 2, 1) := by decide +kernel
theorem dX6_undo_113 : decode cX6_undo 113 = .ok (.invokevirtual 175, 3) := by decide +kernel
theorem dX6_undo_116 : decode cX6_undo 116 = .ok (.invokevirtual 215, 3) := by decide +kernel
theorem dX6_undo_119 : decode cX6_undo 119 = .ok (.iinc 1 1, 3) := by decide +kernel
theorem dX6_undo_122 : decode cX6_undo 122 = .ok (.iinc 2 1, 3) := by decide +kernel
theorem dX6_undo_125 : decode cX6_undo 125 = .ok (.goto (-59), 3) := by decide +kernel
theorem dX6_undo_128 : decode cX6_undo 128 = .ok (.iload_n 1, 1) := by decide +kernel
theorem dX6_undo_129 : decode cX6_undo 129 = .ok (.ireturn, 1) := by decide +kernel
theorem dX6_marriages_0 : decode cX6_marriages 0 = .ok (.iload_n 1, 1) := by decide +kernel
theorem dX6_marriages_1 : decode cX6_marriages 1 = .ok (.iconst 1, 1) := by decide +kernel
theorem dX6_marriages_2 : decode cX6_marriages 2 = .ok (.bipush 24, 2) := by decide +kernel
theorem dX6_marriages_4 : decode cX6_marriages 4 = .ok (.invokestatic 69, 3) := by decide +kernel
theorem dX6_marriages_7 : decode cX6_marriages 7 = .ok (.ifCond .ne 6, 3) := by decide +kernel
theorem dX6_marriages_10 : decode cX6_marriages 10 = .ok (.bipush (-2), 2) := by decide +kernel
theorem dX6_marriages_12 : decode cX6_marriages 12 = .ok (.ireturn, 1) := by decide +kernel
theorem dX6_marriages_13 : decode cX6_marriages 13 = .ok (.aload_n 0, 1) := by decide +kernel
theorem dX6_marriages_14 : decode cX6_marriages 14 = .ok (.getfield 58, 3) := by decide +kernel
theorem dX6_marriages_17 : decode cX6_marriages 17 = .ok (.aload_n 0, 1) := by decide +kernel
theorem dX6_marriages_18 : decode cX6_marriages 18 = .ok (.getfield 10, 3) := by decide +kernel
theorem dX6_marriages_21 : decode cX6_marriages 21 = .ok (.iload_n 1, 1) := by decide +kernel
theorem dX6_marriages_22 : decode cX6_marriages 22 = .ok (.invokevirtual 218, 3) := by decide +kernel
theorem dX6_marriages_25 : decode cX6_marriages 25 = .ok (.ireturn, 1) := by decide +kernel
theorem dX6_deaths_0 : decode cX6_deaths 0 = .ok (.iload_n 1, 1) := by decide +kernel
theorem dX6_deaths_1 : decode cX6_deaths 1 = .ok (.iconst 0, 1) := by decide +kernel
theorem dX6_deaths_2 : decode cX6_deaths 2 = .ok (.iconst 3, 1) := by decide +kernel
theorem dX6_deaths_3 : decode cX6_deaths 3 = .ok (.invokestatic 69, 3) := by decide +kernel
theorem dX6_deaths_6 : decode cX6_deaths 6 = .ok (.ifCond .eq 32, 3) := by decide +kernel
theorem dX6_deaths_9 : decode cX6_deaths 9 = .ok (.iload_n 2, 1) := by decide +kernel
theorem dX6_deaths_10 : decode cX6_deaths 10 = .ok (.iconst 0, 1) := by decide +kernel
theorem dX6_deaths_11 : decode cX6_deaths 11 = .ok (.bipush 10, 2) := by decide +kernel
theorem dX6_deaths_13 : decode cX6_deaths 13 = .ok (.invokestatic 69, 3) := by decide +kernel
theorem dX6_deaths_16 : decode cX6_deaths 16 = .ok (.ifCond .eq 22, 3) := by decide +kernel
theorem dX6_deaths_19 : decode cX6_deaths 19 = .ok (.iload_n 3, 1) := by decide +kernel
theorem dX6_deaths_20 : decode cX6_deaths 20 = .ok (.iconst 0, 1) := by decide +kernel
theorem dX6_deaths_21 : decode cX6_deaths 21 = .ok (.iconst 1, 1) := by decide +kernel
theorem dX6_deaths_22 : decode cX6_deaths 22 = .ok (.invokestatic 69, 3) := by decide +kernel
theorem dX6_deaths_25 : decode cX6_deaths 25 = .ok (.ifCond .eq 13, 3) := by decide +kernel
theorem dX6_deaths_28 : decode cX6_deaths 28 = .ok (.iload 4, 2) := by decide +kernel
theorem dX6_deaths_30 : decode cX6_deaths 30 = .ok (.iconst 0, 1) := by decide +kernel
theorem dX6_deaths_31 : decode cX6_deaths 31 = .ok (.iconst 1, 1) := by decide +kernel
theorem dX6_deaths_32 : decode cX6_deaths 32 = .ok (.invokestatic 69, 3) := by decide +kernel
theorem dX6_deaths_35 : decode cX6_deaths 35 = .ok (.ifCond .ne 7, 3) := by decide +kernel
theorem dX6_deaths_38 : decode cX6_deaths 38 = .ok (.ldc2_w 221, 3) := by decide +kernel
theorem dX6_deaths_41 : decode cX6_deaths 41 = .ok (.lreturn, 1) := by decide +kernel
theorem dX6_deaths_42 : decode cX6_deaths 42 = .ok (.aload_n 0, 1) := by decide +kernel
theorem dX6_deaths_43 : decode cX6_deaths 43 = .ok (.getfield 10, 3) := by decide +kernel
theorem dX6_deaths_46 : decode cX6_deaths 46 = .ok (.getfield 223, 3) := by decide +kernel
theorem dX6_deaths_49 : decode cX6_deaths 49 = .ok (.invokestatic 226, 3) := by decide +kernel
theorem dX6_deaths_52 : decode cX6_deaths 52 = .ok (.istore 5, 2) := by decide +kernel
theorem dX6_deaths_54 : decode cX6_deaths 54 = .ok (.bipush 10, 2) := by decide +kernel
theorem dX6_deaths_56 : decode cX6_deaths 56 = .ok (.iload_n 2, 1) := by decide +kernel
theorem dX6_deaths_57 : decode cX6_deaths 57 = .ok (.isub, 1) := by decide +kernel
theorem dX6_deaths_58 : decode cX6_deaths 58 = .ok (.i2l, 1) := by decide +kernel
theorem dX6_deaths_59 : decode cX6_deaths 59 = .ok (.ldc2_w 231, 3) := by decide +kernel
theorem dX6_deaths_62 : decode cX6_deaths 62 = .ok (.invokestatic 233, 3) := by decide +kernel
theorem dX6_deaths_65 : decode cX6_deaths 65 = .ok (.lstore 6, 2) := by decide +kernel
theorem dX6_deaths_67 : decode cX6_deaths 67 = .ok (.iload_n 3, 1) := by decide +kernel
theorem dX6_deaths_68 : decode cX6_deaths 68 = .ok (.ifCond .ne 10, 3) := by decide +kernel
theorem dX6_deaths_71 : decode cX6_deaths 71 = .ok (.iload_n 1, 1) := by decide +kernel
theorem dX6_deaths_72 : decode cX6_deaths 72 = .ok (.iload 5, 2) := by decide +kernel
theorem dX6_deaths_74 : decode cX6_deaths 74 = .ok (.imul, 1) := by decide +kernel
theorem dX6_deaths_75 : decode cX6_deaths 75 = .ok (.goto 4, 3) := by decide +kernel
theorem dX6_deaths_78 : decode cX6_deaths 78 = .ok (.iload_n 1, 1) := by decide +kernel
theorem dX6_deaths_79 : decode cX6_deaths 79 = .ok (.istore 8, 2) := by decide +kernel
theorem dX6_deaths_81 : decode cX6_deaths 81 = .ok (.bipush 10, 2) := by decide +kernel
theorem dX6_deaths_83 : decode cX6_deaths 83 = .ok (.iload_n 2, 1) := by decide +kernel
theorem dX6_deaths_84 : decode cX6_deaths 84 = .ok (.isub, 1) := by decide +kernel
theorem dX6_deaths_85 : decode cX6_deaths 85 = .ok (.i2l, 1) := by decide +kernel
theorem dX6_deaths_86 : decode cX6_deaths 86 = .ok (.lload 6, 2) := by decide +kernel
theorem dX6_deaths_88 : decode cX6_deaths 88 = .ok (.invokestatic 237, 3) := by decide +kernel
theorem dX6_deaths_91 : decode cX6_deaths 91 = .ok (.iload 8, 2) := by decide +kernel
theorem dX6_deaths_93 : decode cX6_deaths 93 = .ok (.invokestatic 240, 3) := by decide +kernel
theorem dX6_deaths_96 : decode cX6_deaths 96 = .ok (.iload_n 3, 1) := by decide +kernel
theorem dX6_deaths_97 : decode cX6_deaths 97 = .ok (.ifCond .ne 7, 3) := by decide +kernel
theorem dX6_deaths_100 : decode cX6_deaths 100 = .ok (.iconst 1, 1) := by decide +kernel
theorem dX6_deaths_101 : decode cX6_deaths 101 = .ok (.goto 5, 3) := by decide +kernel
theorem dX6_deaths_104 : decode cX6_deaths 104 = .ok (.iload 5, 2) := by decide +kernel
theorem dX6_deaths_106 : decode cX6_deaths 106 = .ok (.i2l, 1) := by decide +kernel
theorem dX6_deaths_107 : decode cX6_deaths 107 = .ok (.lmul, 1) := by decide +kernel
theorem dX6_deaths_108 : decode cX6_deaths 108 = .ok (.lstore 9, 2) := by decide +kernel
theorem dX6_deaths_110 : decode cX6_deaths 110 = .ok (.ldc2_w 231, 3) := by decide +kernel
theorem dX6_deaths_113 : decode cX6_deaths 113 = .ok (.lload 6, 2) := by decide +kernel
theorem dX6_deaths_115 : decode cX6_deaths 115 = .ok (.invokestatic 237, 3) := by decide +kernel
theorem dX6_deaths_118 : decode cX6_deaths 118 = .ok (.iload 8, 2) := by decide +kernel
theorem dX6_deaths_120 : decode cX6_deaths 120 = .ok (.invokestatic 240, 3) := by decide +kernel
theorem dX6_deaths_123 : decode cX6_deaths 123 = .ok (.lstore 11, 2) := by decide +kernel
theorem dX6_deaths_125 : decode cX6_deaths 125 = .ok (.iload 4, 2) := by decide +kernel
theorem dX6_deaths_127 : decode cX6_deaths 127 = .ok (.ifCond .ne 8, 3) := by decide +kernel
theorem dX6_deaths_130 : decode cX6_deaths 130 = .ok (.lload 9, 2) := by decide +kernel
theorem dX6_deaths_132 : decode cX6_deaths 132 = .ok (.goto 5, 3) := by decide +kernel
theorem dX6_deaths_135 : decode cX6_deaths 135 = .ok (.lload 11, 2) := by decide +kernel
theorem dX6_deaths_137 : decode cX6_deaths 137 = .ok (.lload 9, 2) := by decide +kernel
theorem dX6_deaths_139 : decode cX6_deaths 139 = .ok (.lload 11, 2) := by decide +kernel
theorem dX6_deaths_141 : decode cX6_deaths 141 = .ok (.invokestatic 233, 3) := by decide +kernel
theorem dX6_deaths_144 : decode cX6_deaths 144 = .ok (.invokestatic 237, 3) := by decide +kernel
theorem dX6_deaths_147 : decode cX6_deaths 147 = .ok (.lreturn, 1) := by decide +kernel
theorem dX6_year_0 : decode cX6_year 0 = .ok (.iload_n 1, 1) := by decide +kernel
theorem dX6_year_1 : decode cX6_year 1 = .ok (.iconst 0, 1) := by decide +kernel
theorem dX6_year_2 : decode cX6_year 2 = .ok (.sipush 9999, 3) := by decide +kernel
theorem dX6_year_5 : decode cX6_year 5 = .ok (.invokestatic 69, 3) := by decide +kernel
theorem dX6_year_8 : decode cX6_year 8 = .ok (.ifCond .eq 22, 3) := by decide +kernel
theorem dX6_year_11 : decode cX6_year 11 = .ok (.iload_n 2, 1) := by decide +kernel
theorem dX6_year_12 : decode cX6_year 12 = .ok (.iconst 1, 1) := by decide +kernel
theorem dX6_year_13 : decode cX6_year 13 = .ok (.bipush 99, 2) := by decide +kernel
theorem dX6_year_15 : decode cX6_year 15 = .ok (.invokestatic 69, 3) := by decide +kernel
theorem dX6_year_18 : decode cX6_year 18 = .ok (.ifCond .eq 12, 3) := by decide +kernel
theorem dX6_year_21 : decode cX6_year 21 = .ok (.iload_n 3, 1) := by decide +kernel
theorem dX6_year_22 : decode cX6_year 22 = .ok (.iconst 0, 1) := by decide +kernel
theorem dX6_year_23 : decode cX6_year 23 = .ok (.iconst 2, 1) := by decide +kernel
theorem dX6_year_24 : decode cX6_year 24 = .ok (.invokestatic 69, 3) := by decide +kernel
theorem dX6_year_27 : decode cX6_year 27 = .ok (.ifCond .ne 6, 3) := by decide +kernel
theorem dX6_year_30 : decode cX6_year 30 = .ok (.bipush (-2), 2) := by decide +kernel
theorem dX6_year_32 : decode cX6_year 32 = .ok (.ireturn, 1) := by decide +kernel
theorem dX6_year_33 : decode cX6_year 33 = .ok (.aload_n 0, 1) := by decide +kernel
theorem dX6_year_34 : decode cX6_year 34 = .ok (.iload_n 1, 1) := by decide +kernel
theorem dX6_year_35 : decode cX6_year 35 = .ok (.iload_n 2, 1) := by decide +kernel
theorem dX6_year_36 : decode cX6_year 36 = .ok (.invokevirtual 244, 3) := by decide +kernel
theorem dX6_year_39 : decode cX6_year 39 = .ok (.iload_n 3, 1) := by decide +kernel
theorem dX6_year_40 : decode cX6_year 40 = .ok (.ifCond .ne 19, 3) := by decide +kernel
theorem dX6_year_43 : decode cX6_year 43 = .ok (.aload_n 0, 1) := by decide +kernel
theorem dX6_year_44 : decode cX6_year 44 = .ok (.getfield 16, 3) := by decide +kernel
theorem dX6_year_47 : decode cX6_year 47 = .ok (.getfield 141, 3) := by decide +kernel
theorem dX6_year_50 : decode cX6_year 50 = .ok (.aload_n 0, 1) := by decide +kernel
theorem dX6_year_51 : decode cX6_year 51 = .ok (.getfield 10, 3) := by decide +kernel
theorem dX6_year_54 : decode cX6_year 54 = .ok (.getfield 141, 3) := by decide +kernel
theorem dX6_year_57 : decode cX6_year 57 = .ok (.isub, 1) := by decide +kernel
theorem dX6_year_58 : decode cX6_year 58 = .ok (.ireturn, 1) := by decide +kernel
theorem dX6_year_59 : decode cX6_year 59 = .ok (.iload_n 3, 1) := by decide +kernel
theorem dX6_year_60 : decode cX6_year 60 = .ok (.iconst 1, 1) := by decide +kernel
theorem dX6_year_61 : decode cX6_year 61 = .ok (.if_icmp .ne 13, 3) := by decide +kernel
theorem dX6_year_64 : decode cX6_year 64 = .ok (.aload_n 0, 1) := by decide +kernel
theorem dX6_year_65 : decode cX6_year 65 = .ok (.getfield 16, 3) := by decide +kernel
theorem dX6_year_68 : decode cX6_year 68 = .ok (.invokevirtual 247, 3) := by decide +kernel
theorem dX6_year_71 : decode cX6_year 71 = .ok (.goto 10, 3) := by decide +kernel
theorem dX6_year_74 : decode cX6_year 74 = .ok (.aload_n 0, 1) := by decide +kernel
theorem dX6_year_75 : decode cX6_year 75 = .ok (.getfield 16, 3) := by decide +kernel
theorem dX6_year_78 : decode cX6_year 78 = .ok (.invokevirtual 250, 3) := by decide +kernel
theorem dX6_year_81 : decode cX6_year 81 = .ok (.ireturn, 1) := by decide +kernel
theorem dX6_image_0 : decode cX6_image 0 = .ok (.iload_n 1, 1) := by decide +kernel
theorem dX6_image_1 : decode cX6_image 1 = .ok (.iconst 0, 1) := by decide +kernel
theorem dX6_image_2 : decode cX6_image 2 = .ok (.iconst 1, 1) := by decide +kernel
theorem dX6_image_3 : decode cX6_image 3 = .ok (.invokestatic 69, 3) := by decide +kernel
theorem dX6_image_6 : decode cX6_image 6 = .ok (.ifCond .ne 6, 3) := by decide +kernel
theorem dX6_image_9 : decode cX6_image 9 = .ok (.bipush (-2), 2) := by decide +kernel
theorem dX6_image_11 : decode cX6_image 11 = .ok (.ireturn, 1) := by decide +kernel
theorem dX6_image_12 : decode cX6_image 12 = .ok (.aload_n 0, 1) := by decide +kernel
theorem dX6_image_13 : decode cX6_image 13 = .ok (.iload_n 1, 1) := by decide +kernel
theorem dX6_image_14 : decode cX6_image 14 = .ok (.invokevirtual 253, 3) := by decide +kernel
theorem dX6_image_17 : decode cX6_image 17 = .ok (.aload_n 0, 1) := by decide +kernel
theorem dX6_image_18 : decode cX6_image 18 = .ok (.getfield 10, 3) := by decide +kernel
theorem dX6_image_21 : decode cX6_image 21 = .ok (.invokevirtual 124, 3) := by decide +kernel
theorem dX6_image_24 : decode cX6_image 24 = .ok (.aload_n 0, 1) := by decide +kernel
theorem dX6_image_25 : decode cX6_image 25 = .ok (.getfield 30, 3) := by decide +kernel
theorem dX6_image_28 : decode cX6_image 28 = .ok (.iload_n 1, 1) := by decide +kernel
theorem dX6_image_29 : decode cX6_image 29 = .ok (.iconst 1, 1) := by decide +kernel
theorem dX6_image_30 : decode cX6_image 30 = .ok (.invokevirtual 93, 3) := by decide +kernel
theorem dX6_image_33 : decode cX6_image 33 = .ok (.iconst 1, 1) := by decide +kernel
theorem dX6_image_34 : decode cX6_image 34 = .ok (.ireturn, 1) := by decide +kernel
theorem dX6_restore_0 : decode cX6_restore 0 = .ok (.iload_n 1, 1) := by decide +kernel
theorem dX6_restore_1 : decode cX6_restore 1 = .ok (.iconst 0, 1) := by decide +kernel
theorem dX6_restore_2 : decode cX6_restore 2 = .ok (.iconst 1, 1) := by decide +kernel
theorem dX6_restore_3 : decode cX6_restore 3 = .ok (.invokestatic 69, 3) := by decide +kernel
theorem dX6_restore_6 : decode cX6_restore 6 = .ok (.ifCond .ne 6, 3) := by decide +kernel
theorem dX6_restore_9 : decode cX6_restore 9 = .ok (.bipush (-2), 2) := by decide +kernel
theorem dX6_restore_11 : decode cX6_restore 11 = .ok (.ireturn, 1) := by decide +kernel
theorem dX6_restore_12 : decode cX6_restore 12 = .ok (.aload_n 0, 1) := by decide +kernel
theorem dX6_restore_13 : decode cX6_restore 13 = .ok (.getfield 30, 3) := by decide +kernel
theorem dX6_restore_16 : decode cX6_restore 16 = .ok (.iload_n 1, 1) := by decide +kernel
theorem dX6_restore_17 : decode cX6_restore 17 = .ok (.invokevirtual 89, 3) := by decide +kernel
theorem dX6_restore_20 : decode cX6_restore 20 = .ok (.ifCond .ne 6, 3) := by decide +kernel
theorem dX6_restore_23 : decode cX6_restore 23 = .ok (.bipush (-3), 2) := by decide +kernel
theorem dX6_restore_25 : decode cX6_restore 25 = .ok (.ireturn, 1) := by decide +kernel
theorem dX6_restore_26 : decode cX6_restore 26 = .ok (.aload_n 0, 1) := by decide +kernel
theorem dX6_restore_27 : decode cX6_restore 27 = .ok (.getfield 10, 3) := by decide +kernel
theorem dX6_restore_30 : decode cX6_restore 30 = .ok (.aload_n 0, 1) := by decide +kernel
theorem dX6_restore_31 : decode cX6_restore 31 = .ok (.iload_n 1, 1) := by decide +kernel
theorem dX6_restore_32 : decode cX6_restore 32 = .ok (.invokevirtual 253, 3) := by decide +kernel
theorem dX6_restore_35 : decode cX6_restore 35 = .ok (.invokevirtual 124, 3) := by decide +kernel
theorem dX6_restore_38 : decode cX6_restore 38 = .ok (.iconst 1, 1) := by decide +kernel
theorem dX6_restore_39 : decode cX6_restore 39 = .ok (.ireturn, 1) := by decide +kernel
theorem dX6_told_0 : decode cX6_told 0 = .ok (.iload_n 1, 1) := by decide +kernel
theorem dX6_told_1 : decode cX6_told 1 = .ok (.tableswitch 99 0 6 #[43, 51, 59, 67, 75, 83, 91], 43) := by decide +kernel
theorem dX6_told_44 : decode cX6_told 44 = .ok (.aload_n 0, 1) := by decide +kernel
theorem dX6_told_45 : decode cX6_told 45 = .ok (.getfield 37, 3) := by decide +kernel
theorem dX6_told_48 : decode cX6_told 48 = .ok (.getfield 97, 3) := by decide +kernel
theorem dX6_told_51 : decode cX6_told 51 = .ok (.ireturn, 1) := by decide +kernel
theorem dX6_told_52 : decode cX6_told 52 = .ok (.aload_n 0, 1) := by decide +kernel
theorem dX6_told_53 : decode cX6_told 53 = .ok (.getfield 10, 3) := by decide +kernel
theorem dX6_told_56 : decode cX6_told 56 = .ok (.getfield 73, 3) := by decide +kernel
theorem dX6_told_59 : decode cX6_told 59 = .ok (.ireturn, 1) := by decide +kernel
theorem dX6_told_60 : decode cX6_told 60 = .ok (.aload_n 0, 1) := by decide +kernel
theorem dX6_told_61 : decode cX6_told 61 = .ok (.getfield 10, 3) := by decide +kernel
theorem dX6_told_64 : decode cX6_told 64 = .ok (.getfield 62, 3) := by decide +kernel
theorem dX6_told_67 : decode cX6_told 67 = .ok (.ireturn, 1) := by decide +kernel
theorem dX6_told_68 : decode cX6_told 68 = .ok (.aload_n 0, 1) := by decide +kernel
theorem dX6_told_69 : decode cX6_told 69 = .ok (.getfield 10, 3) := by decide +kernel
theorem dX6_told_72 : decode cX6_told 72 = .ok (.getfield 141, 3) := by decide +kernel
theorem dX6_told_75 : decode cX6_told 75 = .ok (.ireturn, 1) := by decide +kernel
theorem dX6_told_76 : decode cX6_told 76 = .ok (.aload_n 0, 1) := by decide +kernel
theorem dX6_told_77 : decode cX6_told 77 = .ok (.getfield 10, 3) := by decide +kernel
theorem dX6_told_80 : decode cX6_told 80 = .ok (.getfield 257, 3) := by decide +kernel
theorem dX6_told_83 : decode cX6_told 83 = .ok (.ireturn, 1) := by decide +kernel
theorem dX6_told_84 : decode cX6_told 84 = .ok (.aload_n 0, 1) := by decide +kernel
theorem dX6_told_85 : decode cX6_told 85 = .ok (.getfield 10, 3) := by decide +kernel
theorem dX6_told_88 : decode cX6_told 88 = .ok (.getfield 223, 3) := by decide +kernel
theorem dX6_told_91 : decode cX6_told 91 = .ok (.ireturn, 1) := by decide +kernel
theorem dX6_told_92 : decode cX6_told 92 = .ok (.aload_n 0, 1) := by decide +kernel
theorem dX6_told_93 : decode cX6_told 93 = .ok (.getfield 10, 3) := by decide +kernel
theorem dX6_told_96 : decode cX6_told 96 = .ok (.getfield 184, 3) := by decide +kernel
theorem dX6_told_99 : decode cX6_told 99 = .ok (.ireturn, 1) := by decide +kernel
theorem dX6_told_100 : decode cX6_told 100 = .ok (.aload_n 0, 1) := by decide +kernel
theorem dX6_told_101 : decode cX6_told 101 = .ok (.iload_n 1, 1) := by decide +kernel
theorem dX6_told_102 : decode cX6_told 102 = .ok (.invokevirtual 260, 3) := by decide +kernel
theorem dX6_told_105 : decode cX6_told 105 = .ok (.ireturn, 1) := by decide +kernel
theorem dX6_toldOfOne_0 : decode cX6_toldOfOne 0 = .ok (.iload_n 1, 1) := by decide +kernel
theorem dX6_toldOfOne_1 : decode cX6_toldOfOne 1 = .ok (.bipush 10, 2) := by decide +kernel
theorem dX6_toldOfOne_3 : decode cX6_toldOfOne 3 = .ok (.bipush 9, 2) := by decide +kernel
theorem dX6_toldOfOne_5 : decode cX6_toldOfOne 5 = .ok (.aload_n 0, 1) := by decide +kernel
theorem dX6_toldOfOne_6 : decode cX6_toldOfOne 6 = .ok (.getfield 10, 3) := by decide +kernel
theorem dX6_toldOfOne_9 : decode cX6_toldOfOne 9 = .ok (.getfield 73, 3) := by decide +kernel
theorem dX6_toldOfOne_12 : decode cX6_toldOfOne 12 = .ok (.iadd, 1) := by decide +kernel
theorem dX6_toldOfOne_13 : decode cX6_toldOfOne 13 = .ok (.invokestatic 69, 3) := by decide +kernel
theorem dX6_toldOfOne_16 : decode cX6_toldOfOne 16 = .ok (.ifCond .eq 18, 3) := by decide +kernel
theorem dX6_toldOfOne_19 : decode cX6_toldOfOne 19 = .ok (.aload_n 0, 1) := by decide +kernel
theorem dX6_toldOfOne_20 : decode cX6_toldOfOne 20 = .ok (.getfield 10, 3) := by decide +kernel
theorem dX6_toldOfOne_23 : decode cX6_toldOfOne 23 = .ok (.getfield 83, 3) := by decide +kernel
theorem dX6_toldOfOne_26 : decode cX6_toldOfOne 26 = .ok (.iload_n 1, 1) := by decide +kernel
theorem dX6_toldOfOne_27 : decode cX6_toldOfOne 27 = .ok (.bipush 10, 2) := by decide +kernel
theorem dX6_toldOfOne_29 : decode cX6_toldOfOne 29 = .ok (.isub, 1) := by decide +kernel
theorem dX6_toldOfOne_30 : decode cX6_toldOfOne 30 = .ok (.invokevirtual 89, 3) := by decide +kernel
theorem dX6_toldOfOne_33 : decode cX6_toldOfOne 33 = .ok (.ireturn, 1) := by decide +kernel
theorem dX6_toldOfOne_34 : decode cX6_toldOfOne 34 = .ok (.iload_n 1, 1) := by decide +kernel
theorem dX6_toldOfOne_35 : decode cX6_toldOfOne 35 = .ok (.bipush 20, 2) := by decide +kernel
theorem dX6_toldOfOne_37 : decode cX6_toldOfOne 37 = .ok (.bipush 19, 2) := by decide +kernel
theorem dX6_toldOfOne_39 : decode cX6_toldOfOne 39 = .ok (.aload_n 0, 1) := by decide +kernel
theorem dX6_toldOfOne_40 : decode cX6_toldOfOne 40 = .ok (.getfield 10, 3) := by decide +kernel
theorem dX6_toldOfOne_43 : decode cX6_toldOfOne 43 = .ok (.getfield 73, 3) := by decide +kernel
theorem dX6_toldOfOne_46 : decode cX6_toldOfOne 46 = .ok (.iadd, 1) := by decide +kernel
theorem dX6_toldOfOne_47 : decode cX6_toldOfOne 47 = .ok (.invokestatic 69, 3) := by decide +kernel
theorem dX6_toldOfOne_50 : decode cX6_toldOfOne 50 = .ok (.ifCond .eq 18, 3) := by decide +kernel
theorem dX6_toldOfOne_53 : decode cX6_toldOfOne 53 = .ok (.aload_n 0, 1) := by decide +kernel
theorem dX6_toldOfOne_54 : decode cX6_toldOfOne 54 = .ok (.getfield 10, 3) := by decide +kernel
theorem dX6_toldOfOne_57 : decode cX6_toldOfOne 57 = .ok (.getfield 86, 3) := by decide +kernel
theorem dX6_toldOfOne_60 : decode cX6_toldOfOne 60 = .ok (.iload_n 1, 1) := by decide +kernel
theorem dX6_toldOfOne_61 : decode cX6_toldOfOne 61 = .ok (.bipush 20, 2) := by decide +kernel
theorem dX6_toldOfOne_63 : decode cX6_toldOfOne 63 = .ok (.isub, 1) := by decide +kernel
theorem dX6_toldOfOne_64 : decode cX6_toldOfOne 64 = .ok (.invokevirtual 89, 3) := by decide +kernel
theorem dX6_toldOfOne_67 : decode cX6_toldOfOne 67 = .ok (.ireturn, 1) := by decide +kernel
theorem dX6_toldOfOne_68 : decode cX6_toldOfOne 68 = .ok (.bipush (-2), 2) := by decide +kernel
theorem dX6_toldOfOne_70 : decode cX6_toldOfOne 70 = .ok (.ireturn, 1) := by decide +kernel
theorem dX6_imageAt_0 : decode cX6_imageAt 0 = .ok (.iload_n 1, 1) := by decide +kernel
theorem dX6_imageAt_1 : decode cX6_imageAt 1 = .ok (.ifCond .ne 10, 3) := by decide +kernel
theorem dX6_imageAt_4 : decode cX6_imageAt 4 = .ok (.aload_n 0, 1) := by decide +kernel
theorem dX6_imageAt_5 : decode cX6_imageAt 5 = .ok (.getfield 19, 3) := by decide +kernel
theorem dX6_imageAt_8 : decode cX6_imageAt 8 = .ok (.goto 7, 3) := by decide +kernel
theorem dX6_imageAt_11 : decode cX6_imageAt 11 = .ok (.aload_n 0, 1) := by decide +kernel
theorem dX6_imageAt_12 : decode cX6_imageAt 12 = .ok (.getfield 22, 3) := by decide +kernel
theorem dX6_imageAt_15 : decode cX6_imageAt 15 = .ok (.areturn, 1) := by decide +kernel
theorem dX6_yearsCanBe_0 : decode cX6_yearsCanBe 0 = .ok (.aload_n 0, 1) := by decide +kernel
theorem dX6_yearsCanBe_1 : decode cX6_yearsCanBe 1 = .ok (.getfield 37, 3) := by decide +kernel
theorem dX6_yearsCanBe_4 : decode cX6_yearsCanBe 4 = .ok (.aload_n 0, 1) := by decide +kernel
theorem dX6_yearsCanBe_5 : decode cX6_yearsCanBe 5 = .ok (.getfield 10, 3) := by decide +kernel
theorem dX6_yearsCanBe_8 : decode cX6_yearsCanBe 8 = .ok (.getfield 73, 3) := by decide +kernel
theorem dX6_yearsCanBe_11 : decode cX6_yearsCanBe 11 = .ok (.invokevirtual 107, 3) := by decide +kernel
theorem dX6_yearsCanBe_14 : decode cX6_yearsCanBe 14 = .ok (.bipush (-6), 2) := by decide +kernel
theorem dX6_yearsCanBe_16 : decode cX6_yearsCanBe 16 = .ok (.if_icmp .ne 29, 3) := by decide +kernel
theorem dX6_yearsCanBe_19 : decode cX6_yearsCanBe 19 = .ok (.aload_n 0, 1) := by decide +kernel
theorem dX6_yearsCanBe_20 : decode cX6_yearsCanBe 20 = .ok (.getfield 44, 3) := by decide +kernel
theorem dX6_yearsCanBe_23 : decode cX6_yearsCanBe 23 = .ok (.aload_n 0, 1) := by decide +kernel
theorem dX6_yearsCanBe_24 : decode cX6_yearsCanBe 24 = .ok (.getfield 10, 3) := by decide +kernel
theorem dX6_yearsCanBe_27 : decode cX6_yearsCanBe 27 = .ok (.aload_n 0, 1) := by decide +kernel
theorem dX6_yearsCanBe_28 : decode cX6_yearsCanBe 28 = .ok (.getfield 16, 3) := by decide +kernel
theorem dX6_yearsCanBe_31 : decode cX6_yearsCanBe 31 = .ok (.aload_n 0, 1) := by decide +kernel
theorem dX6_yearsCanBe_32 : decode cX6_yearsCanBe 32 = .ok (.getfield 37, 3) := by decide +kernel
theorem dX6_yearsCanBe_35 : decode cX6_yearsCanBe 35 = .ok (.invokevirtual 110, 3) := by decide +kernel
theorem dX6_yearsCanBe_38 : decode cX6_yearsCanBe 38 = .ok (.ifCond .eq 7, 3) := by decide +kernel
theorem dX6_yearsCanBe_41 : decode cX6_yearsCanBe 41 = .ok (.iconst 1, 1) := by decide +kernel
theorem dX6_yearsCanBe_42 : decode cX6_yearsCanBe 42 = .ok (.goto 4, 3) := by decide +kernel
theorem dX6_yearsCanBe_45 : decode cX6_yearsCanBe 45 = .ok (.iconst 0, 1) := by decide +kernel
theorem dX6_yearsCanBe_46 : decode cX6_yearsCanBe 46 = .ok (.ireturn, 1) := by decide +kernel
theorem dX6_drawYear_0 : decode cX6_drawYear 0 = .ok (.aload_n 0, 1) := by decide +kernel
theorem dX6_drawYear_1 : decode cX6_drawYear 1 = .ok (.getfield 16, 3) := by decide +kernel
theorem dX6_drawYear_4 : decode cX6_drawYear 4 = .ok (.aload_n 0, 1) := by decide +kernel
theorem dX6_drawYear_5 : decode cX6_drawYear 5 = .ok (.getfield 10, 3) := by decide +kernel
theorem dX6_drawYear_8 : decode cX6_drawYear 8 = .ok (.invokevirtual 124, 3) := by decide +kernel
theorem dX6_drawYear_11 : decode cX6_drawYear 11 = .ok (.iload_n 1, 1) := by decide +kernel
theorem dX6_drawYear_12 : decode cX6_drawYear 12 = .ok (.istore_n 3, 1) := by decide +kernel
theorem dX6_drawYear_13 : decode cX6_drawYear 13 = .ok (.iconst 0, 1) := by decide +kernel
theorem dX6_drawYear_14 : decode cX6_drawYear 14 = .ok (.istore 4, 2) := by decide +kernel
theorem dX6_drawYear_16 : decode cX6_drawYear 16 = .ok (.iload 4, 2) := by decide +kernel
theorem dX6_drawYear_18 : decode cX6_drawYear 18 = .ok (.iload_n 2, 1) := by decide +kernel
theorem dX6_drawYear_19 : decode cX6_drawYear 19 = .ok (.if_icmp .ge 26, 3) := by decide +kernel
theorem dX6_drawYear_22 : decode cX6_drawYear 22 = .ok (.bipush 75, 2) := by decide +kernel
theorem dX6_drawYear_24 : decode cX6_drawYear 24 = .ok (.iload_n 3, 1) := by decide +kernel
theorem dX6_drawYear_25 : decode cX6_drawYear 25 = .ok (.imul, 1) := by decide +kernel
theorem dX6_drawYear_26 : decode cX6_drawYear 26 = .ok (.bipush 74, 2) := by decide +kernel
theorem dX6_drawYear_28 : decode cX6_drawYear 28 = .ok (.iadd, 1) := by decide +kernel
theorem dX6_drawYear_29 : decode cX6_drawYear 29 = .ok (.ldc_w 263, 3) := by decide +kernel
theorem dX6_drawYear_32 : decode cX6_drawYear 32 = .ok (.irem, 1) := by decide +kernel
theorem dX6_drawYear_33 : decode cX6_drawYear 33 = .ok (.istore_n 3, 1) := by decide +kernel
theorem dX6_drawYear_34 : decode cX6_drawYear 34 = .ok (.aload_n 0, 1) := by decide +kernel
theorem dX6_drawYear_35 : decode cX6_drawYear 35 = .ok (.iload_n 3, 1) := by decide +kernel
theorem dX6_drawYear_36 : decode cX6_drawYear 36 = .ok (.invokevirtual 264, 3) := by decide +kernel
theorem dX6_drawYear_39 : decode cX6_drawYear 39 = .ok (.iinc 4 1, 3) := by decide +kernel
theorem dX6_drawYear_42 : decode cX6_drawYear 42 = .ok (.goto (-26), 3) := by decide +kernel
theorem dX6_drawYear_45 : decode cX6_drawYear 45 = .ok (.return_, 1) := by decide +kernel
theorem dX6_drawAct_0 : decode cX6_drawAct 0 = .ok (.iload_n 1, 1) := by decide +kernel
theorem dX6_drawAct_1 : decode cX6_drawAct 1 = .ok (.bipush 8, 2) := by decide +kernel
theorem dX6_drawAct_3 : decode cX6_drawAct 3 = .ok (.idiv, 1) := by decide +kernel
theorem dX6_drawAct_4 : decode cX6_drawAct 4 = .ok (.aload_n 0, 1) := by decide +kernel
theorem dX6_drawAct_5 : decode cX6_drawAct 5 = .ok (.getfield 16, 3) := by decide +kernel
theorem dX6_drawAct_8 : decode cX6_drawAct 8 = .ok (.getfield 73, 3) := by decide +kernel
theorem dX6_drawAct_11 : decode cX6_drawAct 11 = .ok (.invokestatic 178, 3) := by decide +kernel
theorem dX6_drawAct_14 : decode cX6_drawAct 14 = .ok (.istore_n 2, 1) := by decide +kernel
theorem dX6_drawAct_15 : decode cX6_drawAct 15 = .ok (.iload_n 1, 1) := by decide +kernel
theorem dX6_drawAct_16 : decode cX6_drawAct 16 = .ok (.bipush 64, 2) := by decide +kernel
theorem dX6_drawAct_18 : decode cX6_drawAct 18 = .ok (.idiv, 1) := by decide +kernel
theorem dX6_drawAct_19 : decode cX6_drawAct 19 = .ok (.aload_n 0, 1) := by decide +kernel
theorem dX6_drawAct_20 : decode cX6_drawAct 20 = .ok (.getfield 16, 3) := by decide +kernel
theorem dX6_drawAct_23 : decode cX6_drawAct 23 = .ok (.getfield 73, 3) := by decide +kernel
theorem dX6_drawAct_26 : decode cX6_drawAct 26 = .ok (.invokestatic 178, 3) := by decide +kernel
theorem dX6_drawAct_29 : decode cX6_drawAct 29 = .ok (.istore_n 3, 1) := by decide +kernel
theorem dX6_drawAct_30 : decode cX6_drawAct 30 = .ok (.iload_n 1, 1) := by decide +kernel
theorem dX6_drawAct_31 : decode cX6_drawAct 31 = .ok (.bipush 8, 2) := by decide +kernel
theorem dX6_drawAct_33 : decode cX6_drawAct 33 = .ok (.irem, 1) := by decide +kernel
theorem dX6_drawAct_34 : decode cX6_drawAct 34 = .ok (.tableswitch 68 0 3 #[30, 43, 56, 56], 30) := by decide +kernel
theorem dX6_drawAct_64 : decode cX6_drawAct 64 = .ok (.aload_n 0, 1) := by decide +kernel
theorem dX6_drawAct_65 : decode cX6_drawAct 65 = .ok (.getfield 16, 3) := by decide +kernel
theorem dX6_drawAct_68 : decode cX6_drawAct 68 = .ok (.iload_n 2, 1) := by decide +kernel
theorem dX6_drawAct_69 : decode cX6_drawAct 69 = .ok (.iconst 1, 1) := by decide +kernel
theorem dX6_drawAct_70 : decode cX6_drawAct 70 = .ok (.invokevirtual 267, 3) := by decide +kernel
theorem dX6_drawAct_73 : decode cX6_drawAct 73 = .ok (.pop, 1) := by decide +kernel
theorem dX6_drawAct_74 : decode cX6_drawAct 74 = .ok (.goto 35, 3) := by decide +kernel
theorem dX6_drawAct_77 : decode cX6_drawAct 77 = .ok (.aload_n 0, 1) := by decide +kernel
theorem dX6_drawAct_78 : decode cX6_drawAct 78 = .ok (.getfield 16, 3) := by decide +kernel
theorem dX6_drawAct_81 : decode cX6_drawAct 81 = .ok (.iload_n 2, 1) := by decide +kernel
theorem dX6_drawAct_82 : decode cX6_drawAct 82 = .ok (.iload_n 3, 1) := by decide +kernel
theorem dX6_drawAct_83 : decode cX6_drawAct 83 = .ok (.invokevirtual 270, 3) := by decide +kernel
theorem dX6_drawAct_86 : decode cX6_drawAct 86 = .ok (.pop, 1) := by decide +kernel
theorem dX6_drawAct_87 : decode cX6_drawAct 87 = .ok (.goto 22, 3) := by decide +kernel
theorem dX6_drawAct_90 : decode cX6_drawAct 90 = .ok (.aload_n 0, 1) := by decide +kernel
theorem dX6_drawAct_91 : decode cX6_drawAct 91 = .ok (.getfield 16, 3) := by decide +kernel
theorem dX6_drawAct_94 : decode cX6_drawAct 94 = .ok (.bipush 10, 2) := by decide +kernel
theorem dX6_drawAct_96 : decode cX6_drawAct 96 = .ok (.invokevirtual 273, 3) := by decide +kernel
theorem dX6_drawAct_99 : decode cX6_drawAct 99 = .ok (.goto 10, 3) := by decide +kernel
theorem dX6_drawAct_102 : decode cX6_drawAct 102 = .ok (.aload_n 0, 1) := by decide +kernel
theorem dX6_drawAct_103 : decode cX6_drawAct 103 = .ok (.getfield 16, 3) := by decide +kernel
theorem dX6_drawAct_106 : decode cX6_drawAct 106 = .ok (.invokevirtual 276, 3) := by decide +kernel
theorem dX6_drawAct_109 : decode cX6_drawAct 109 = .ok (.return_, 1) := by decide +kernel
theorem dX6_within_0 : decode cX6_within 0 = .ok (.iload_n 0, 1) := by decide +kernel
theorem dX6_within_1 : decode cX6_within 1 = .ok (.iload_n 1, 1) := by decide +kernel
theorem dX6_within_2 : decode cX6_within 2 = .ok (.if_icmp .lt 12, 3) := by decide +kernel
theorem dX6_within_5 : decode cX6_within 5 = .ok (.iload_n 0, 1) := by decide +kernel
theorem dX6_within_6 : decode cX6_within 6 = .ok (.iload_n 2, 1) := by decide +kernel
theorem dX6_within_7 : decode cX6_within 7 = .ok (.if_icmp .gt 7, 3) := by decide +kernel
theorem dX6_within_10 : decode cX6_within 10 = .ok (.iconst 1, 1) := by decide +kernel
theorem dX6_within_11 : decode cX6_within 11 = .ok (.goto 4, 3) := by decide +kernel
theorem dX6_within_14 : decode cX6_within 14 = .ok (.iconst 0, 1) := by decide +kernel
theorem dX6_within_15 : decode cX6_within 15 = .ok (.ireturn, 1) := by decide +kernel
theorem dX6_leftOver_0 : decode cX6_leftOver 0 = .ok (.iload_n 1, 1) := by decide +kernel
theorem dX6_leftOver_1 : decode cX6_leftOver 1 = .ok (.ifCond .gt 5, 3) := by decide +kernel
theorem dX6_leftOver_4 : decode cX6_leftOver 4 = .ok (.iconst 0, 1) := by decide +kernel
theorem dX6_leftOver_5 : decode cX6_leftOver 5 = .ok (.ireturn, 1) := by decide +kernel
theorem dX6_leftOver_6 : decode cX6_leftOver 6 = .ok (.iload_n 0, 1) := by decide +kernel
theorem dX6_leftOver_7 : decode cX6_leftOver 7 = .ok (.iload_n 1, 1) := by decide +kernel
theorem dX6_leftOver_8 : decode cX6_leftOver 8 = .ok (.irem, 1) := by decide +kernel
theorem dX6_leftOver_9 : decode cX6_leftOver 9 = .ok (.istore_n 2, 1) := by decide +kernel
theorem dX6_leftOver_10 : decode cX6_leftOver 10 = .ok (.iload_n 2, 1) := by decide +kernel
theorem dX6_leftOver_11 : decode cX6_leftOver 11 = .ok (.ifCond .ge 9, 3) := by decide +kernel
theorem dX6_leftOver_14 : decode cX6_leftOver 14 = .ok (.iload_n 2, 1) := by decide +kernel
theorem dX6_leftOver_15 : decode cX6_leftOver 15 = .ok (.iload_n 1, 1) := by decide +kernel
theorem dX6_leftOver_16 : decode cX6_leftOver 16 = .ok (.iadd, 1) := by decide +kernel
theorem dX6_leftOver_17 : decode cX6_leftOver 17 = .ok (.goto 4, 3) := by decide +kernel
theorem dX6_leftOver_20 : decode cX6_leftOver 20 = .ok (.iload_n 2, 1) := by decide +kernel
theorem dX6_leftOver_21 : decode cX6_leftOver 21 = .ok (.ireturn, 1) := by decide +kernel
theorem dX6_cut_0 : decode cX6_cut 0 = .ok (.iload_n 1, 1) := by decide +kernel
theorem dX6_cut_1 : decode cX6_cut 1 = .ok (.ifCond .le 9, 3) := by decide +kernel
theorem dX6_cut_4 : decode cX6_cut 4 = .ok (.iload_n 0, 1) := by decide +kernel
theorem dX6_cut_5 : decode cX6_cut 5 = .ok (.iload_n 1, 1) := by decide +kernel
theorem dX6_cut_6 : decode cX6_cut 6 = .ok (.idiv, 1) := by decide +kernel
theorem dX6_cut_7 : decode cX6_cut 7 = .ok (.goto 4, 3) := by decide +kernel
theorem dX6_cut_10 : decode cX6_cut 10 = .ok (.iconst 0, 1) := by decide +kernel
theorem dX6_cut_11 : decode cX6_cut 11 = .ok (.ireturn, 1) := by decide +kernel
theorem dX6_cut__0 : decode cX6_cut_ 0 = .ok (.lload_n 2, 1) := by decide +kernel
theorem dX6_cut__1 : decode cX6_cut_ 1 = .ok (.lconst 0, 1) := by decide +kernel
theorem dX6_cut__2 : decode cX6_cut_ 2 = .ok (.lcmp, 1) := by decide +kernel
theorem dX6_cut__3 : decode cX6_cut_ 3 = .ok (.ifCond .le 9, 3) := by decide +kernel
theorem dX6_cut__6 : decode cX6_cut_ 6 = .ok (.lload_n 0, 1) := by decide +kernel
theorem dX6_cut__7 : decode cX6_cut_ 7 = .ok (.lload_n 2, 1) := by decide +kernel
theorem dX6_cut__8 : decode cX6_cut_ 8 = .ok (.ldiv, 1) := by decide +kernel
theorem dX6_cut__9 : decode cX6_cut_ 9 = .ok (.goto 4, 3) := by decide +kernel
theorem dX6_cut__12 : decode cX6_cut_ 12 = .ok (.lconst 0, 1) := by decide +kernel
theorem dX6_cut__13 : decode cX6_cut_ 13 = .ok (.lreturn, 1) := by decide +kernel
theorem dX6_commonDivisor_0 : decode cX6_commonDivisor 0 = .ok (.lload_n 0, 1) := by decide +kernel
theorem dX6_commonDivisor_1 : decode cX6_commonDivisor 1 = .ok (.lstore 4, 2) := by decide +kernel
theorem dX6_commonDivisor_3 : decode cX6_commonDivisor 3 = .ok (.lload_n 2, 1) := by decide +kernel
theorem dX6_commonDivisor_4 : decode cX6_commonDivisor 4 = .ok (.lstore 6, 2) := by decide +kernel
theorem dX6_commonDivisor_6 : decode cX6_commonDivisor 6 = .ok (.iconst 0, 1) := by decide +kernel
theorem dX6_commonDivisor_7 : decode cX6_commonDivisor 7 = .ok (.istore 8, 2) := by decide +kernel
theorem dX6_commonDivisor_9 : decode cX6_commonDivisor 9 = .ok (.iload 8, 2) := by decide +kernel
theorem dX6_commonDivisor_11 : decode cX6_commonDivisor 11 = .ok (.bipush 100, 2) := by decide +kernel
theorem dX6_commonDivisor_13 : decode cX6_commonDivisor 13 = .ok (.if_icmp .ge 31, 3) := by decide +kernel
theorem dX6_commonDivisor_16 : decode cX6_commonDivisor 16 = .ok (.lload 6, 2) := by decide +kernel
theorem dX6_commonDivisor_18 : decode cX6_commonDivisor 18 = .ok (.lconst 0, 1) := by decide +kernel
theorem dX6_commonDivisor_19 : decode cX6_commonDivisor 19 = .ok (.lcmp, 1) := by decide +kernel
theorem dX6_commonDivisor_20 : decode cX6_commonDivisor 20 = .ok (.ifCond .eq 24, 3) := by decide +kernel
theorem dX6_commonDivisor_23 : decode cX6_commonDivisor 23 = .ok (.lload 4, 2) := by decide +kernel
theorem dX6_commonDivisor_25 : decode cX6_commonDivisor 25 = .ok (.lload 6, 2) := by decide +kernel
theorem dX6_commonDivisor_27 : decode cX6_commonDivisor 27 = .ok (.lrem, 1) := by decide +kernel
theorem dX6_commonDivisor_28 : decode cX6_commonDivisor 28 = .ok (.lstore 9, 2) := by decide +kernel
theorem dX6_commonDivisor_30 : decode cX6_commonDivisor 30 = .ok (.lload 6, 2) := by decide +kernel
theorem dX6_commonDivisor_32 : decode cX6_commonDivisor 32 = .ok (.lstore 4, 2) := by decide +kernel
theorem dX6_commonDivisor_34 : decode cX6_commonDivisor 34 = .ok (.lload 9, 2) := by decide +kernel
theorem dX6_commonDivisor_36 : decode cX6_commonDivisor 36 = .ok (.lstore 6, 2) := by decide +kernel
theorem dX6_commonDivisor_38 : decode cX6_commonDivisor 38 = .ok (.iinc 8 1, 3) := by decide +kernel
theorem dX6_commonDivisor_41 : decode cX6_commonDivisor 41 = .ok (.goto (-32), 3) := by decide +kernel
theorem dX6_commonDivisor_44 : decode cX6_commonDivisor 44 = .ok (.lload 4, 2) := by decide +kernel
theorem dX6_commonDivisor_46 : decode cX6_commonDivisor 46 = .ok (.lreturn, 1) := by decide +kernel
theorem dX6_power_0 : decode cX6_power 0 = .ok (.lconst 1, 1) := by decide +kernel
theorem dX6_power_1 : decode cX6_power 1 = .ok (.lstore_n 3, 1) := by decide +kernel
theorem dX6_power_2 : decode cX6_power 2 = .ok (.iconst 0, 1) := by decide +kernel
theorem dX6_power_3 : decode cX6_power 3 = .ok (.istore 5, 2) := by decide +kernel
theorem dX6_power_5 : decode cX6_power 5 = .ok (.iload 5, 2) := by decide +kernel
theorem dX6_power_7 : decode cX6_power 7 = .ok (.iload_n 2, 1) := by decide +kernel
theorem dX6_power_8 : decode cX6_power 8 = .ok (.if_icmp .ge 13, 3) := by decide +kernel
theorem dX6_power_11 : decode cX6_power 11 = .ok (.lload_n 3, 1) := by decide +kernel
theorem dX6_power_12 : decode cX6_power 12 = .ok (.lload_n 0, 1) := by decide +kernel
theorem dX6_power_13 : decode cX6_power 13 = .ok (.lmul, 1) := by decide +kernel
theorem dX6_power_14 : decode cX6_power 14 = .ok (.lstore_n 3, 1) := by decide +kernel
theorem dX6_power_15 : decode cX6_power 15 = .ok (.iinc 5 1, 3) := by decide +kernel
theorem dX6_power_18 : decode cX6_power 18 = .ok (.goto (-13), 3) := by decide +kernel
theorem dX6_power_21 : decode cX6_power 21 = .ok (.lload_n 3, 1) := by decide +kernel
theorem dX6_power_22 : decode cX6_power 22 = .ok (.lreturn, 1) := by decide +kernel
theorem dJ6_numberOfTrailingZeros_0f7a4_0 : decode cJ6_numberOfTrailingZeros_0f7a4 0 = .ok (.iload_n 0, 1) := by decide +kernel
theorem dJ6_numberOfTrailingZeros_0f7a4_1 : decode cJ6_numberOfTrailingZeros_0f7a4 1 = .ok (.iconst (-1), 1) := by decide +kernel
theorem dJ6_numberOfTrailingZeros_0f7a4_2 : decode cJ6_numberOfTrailingZeros_0f7a4 2 = .ok (.ixor, 1) := by decide +kernel
theorem dJ6_numberOfTrailingZeros_0f7a4_3 : decode cJ6_numberOfTrailingZeros_0f7a4 3 = .ok (.iload_n 0, 1) := by decide +kernel
theorem dJ6_numberOfTrailingZeros_0f7a4_4 : decode cJ6_numberOfTrailingZeros_0f7a4 4 = .ok (.iconst 1, 1) := by decide +kernel
theorem dJ6_numberOfTrailingZeros_0f7a4_5 : decode cJ6_numberOfTrailingZeros_0f7a4 5 = .ok (.isub, 1) := by decide +kernel
theorem dJ6_numberOfTrailingZeros_0f7a4_6 : decode cJ6_numberOfTrailingZeros_0f7a4 6 = .ok (.iand, 1) := by decide +kernel
theorem dJ6_numberOfTrailingZeros_0f7a4_7 : decode cJ6_numberOfTrailingZeros_0f7a4 7 = .ok (.istore_n 0, 1) := by decide +kernel
theorem dJ6_numberOfTrailingZeros_0f7a4_8 : decode cJ6_numberOfTrailingZeros_0f7a4 8 = .ok (.iload_n 0, 1) := by decide +kernel
theorem dJ6_numberOfTrailingZeros_0f7a4_9 : decode cJ6_numberOfTrailingZeros_0f7a4 9 = .ok (.ifCond .gt 8, 3) := by decide +kernel
theorem dJ6_numberOfTrailingZeros_0f7a4_12 : decode cJ6_numberOfTrailingZeros_0f7a4 12 = .ok (.iload_n 0, 1) := by decide +kernel
theorem dJ6_numberOfTrailingZeros_0f7a4_13 : decode cJ6_numberOfTrailingZeros_0f7a4 13 = .ok (.bipush 32, 2) := by decide +kernel
theorem dJ6_numberOfTrailingZeros_0f7a4_15 : decode cJ6_numberOfTrailingZeros_0f7a4 15 = .ok (.iand, 1) := by decide +kernel
theorem dJ6_numberOfTrailingZeros_0f7a4_16 : decode cJ6_numberOfTrailingZeros_0f7a4 16 = .ok (.ireturn, 1) := by decide +kernel
theorem dJ6_numberOfTrailingZeros_0f7a4_17 : decode cJ6_numberOfTrailingZeros_0f7a4 17 = .ok (.iconst 1, 1) := by decide +kernel
theorem dJ6_numberOfTrailingZeros_0f7a4_18 : decode cJ6_numberOfTrailingZeros_0f7a4 18 = .ok (.istore_n 1, 1) := by decide +kernel
theorem dJ6_numberOfTrailingZeros_0f7a4_19 : decode cJ6_numberOfTrailingZeros_0f7a4 19 = .ok (.iload_n 0, 1) := by decide +kernel
theorem dJ6_numberOfTrailingZeros_0f7a4_20 : decode cJ6_numberOfTrailingZeros_0f7a4 20 = .ok (.ldc_w 264, 3) := by decide +kernel
theorem dJ6_numberOfTrailingZeros_0f7a4_23 : decode cJ6_numberOfTrailingZeros_0f7a4 23 = .ok (.if_icmp .le 11, 3) := by decide +kernel
theorem dJ6_numberOfTrailingZeros_0f7a4_26 : decode cJ6_numberOfTrailingZeros_0f7a4 26 = .ok (.iinc 1 16, 3) := by decide +kernel
theorem dJ6_numberOfTrailingZeros_0f7a4_29 : decode cJ6_numberOfTrailingZeros_0f7a4 29 = .ok (.iload_n 0, 1) := by decide +kernel
theorem dJ6_numberOfTrailingZeros_0f7a4_30 : decode cJ6_numberOfTrailingZeros_0f7a4 30 = .ok (.bipush 16, 2) := by decide +kernel
theorem dJ6_numberOfTrailingZeros_0f7a4_32 : decode cJ6_numberOfTrailingZeros_0f7a4 32 = .ok (.iushr, 1) := by decide +kernel
theorem dJ6_numberOfTrailingZeros_0f7a4_33 : decode cJ6_numberOfTrailingZeros_0f7a4 33 = .ok (.istore_n 0, 1) := by decide +kernel
theorem dJ6_numberOfTrailingZeros_0f7a4_34 : decode cJ6_numberOfTrailingZeros_0f7a4 34 = .ok (.iload_n 0, 1) := by decide +kernel
theorem dJ6_numberOfTrailingZeros_0f7a4_35 : decode cJ6_numberOfTrailingZeros_0f7a4 35 = .ok (.sipush 256, 3) := by decide +kernel
theorem dJ6_numberOfTrailingZeros_0f7a4_38 : decode cJ6_numberOfTrailingZeros_0f7a4 38 = .ok (.if_icmp .le 11, 3) := by decide +kernel
theorem dJ6_numberOfTrailingZeros_0f7a4_41 : decode cJ6_numberOfTrailingZeros_0f7a4 41 = .ok (.iinc 1 8, 3) := by decide +kernel
theorem dJ6_numberOfTrailingZeros_0f7a4_44 : decode cJ6_numberOfTrailingZeros_0f7a4 44 = .ok (.iload_n 0, 1) := by decide +kernel
theorem dJ6_numberOfTrailingZeros_0f7a4_45 : decode cJ6_numberOfTrailingZeros_0f7a4 45 = .ok (.bipush 8, 2) := by decide +kernel
theorem dJ6_numberOfTrailingZeros_0f7a4_47 : decode cJ6_numberOfTrailingZeros_0f7a4 47 = .ok (.iushr, 1) := by decide +kernel
theorem dJ6_numberOfTrailingZeros_0f7a4_48 : decode cJ6_numberOfTrailingZeros_0f7a4 48 = .ok (.istore_n 0, 1) := by decide +kernel
theorem dJ6_numberOfTrailingZeros_0f7a4_49 : decode cJ6_numberOfTrailingZeros_0f7a4 49 = .ok (.iload_n 0, 1) := by decide +kernel
theorem dJ6_numberOfTrailingZeros_0f7a4_50 : decode cJ6_numberOfTrailingZeros_0f7a4 50 = .ok (.bipush 16, 2) := by decide +kernel
theorem dJ6_numberOfTrailingZeros_0f7a4_52 : decode cJ6_numberOfTrailingZeros_0f7a4 52 = .ok (.if_icmp .le 10, 3) := by decide +kernel
theorem dJ6_numberOfTrailingZeros_0f7a4_55 : decode cJ6_numberOfTrailingZeros_0f7a4 55 = .ok (.iinc 1 4, 3) := by decide +kernel
theorem dJ6_numberOfTrailingZeros_0f7a4_58 : decode cJ6_numberOfTrailingZeros_0f7a4 58 = .ok (.iload_n 0, 1) := by decide +kernel
theorem dJ6_numberOfTrailingZeros_0f7a4_59 : decode cJ6_numberOfTrailingZeros_0f7a4 59 = .ok (.iconst 4, 1) := by decide +kernel
theorem dJ6_numberOfTrailingZeros_0f7a4_60 : decode cJ6_numberOfTrailingZeros_0f7a4 60 = .ok (.iushr, 1) := by decide +kernel
theorem dJ6_numberOfTrailingZeros_0f7a4_61 : decode cJ6_numberOfTrailingZeros_0f7a4 61 = .ok (.istore_n 0, 1) := by decide +kernel
theorem dJ6_numberOfTrailingZeros_0f7a4_62 : decode cJ6_numberOfTrailingZeros_0f7a4 62 = .ok (.iload_n 0, 1) := by decide +kernel
theorem dJ6_numberOfTrailingZeros_0f7a4_63 : decode cJ6_numberOfTrailingZeros_0f7a4 63 = .ok (.iconst 4, 1) := by decide +kernel
theorem dJ6_numberOfTrailingZeros_0f7a4_64 : decode cJ6_numberOfTrailingZeros_0f7a4 64 = .ok (.if_icmp .le 10, 3) := by decide +kernel
theorem dJ6_numberOfTrailingZeros_0f7a4_67 : decode cJ6_numberOfTrailingZeros_0f7a4 67 = .ok (.iinc 1 2, 3) := by decide +kernel
theorem dJ6_numberOfTrailingZeros_0f7a4_70 : decode cJ6_numberOfTrailingZeros_0f7a4 70 = .ok (.iload_n 0, 1) := by decide +kernel
theorem dJ6_numberOfTrailingZeros_0f7a4_71 : decode cJ6_numberOfTrailingZeros_0f7a4 71 = .ok (.iconst 2, 1) := by decide +kernel
theorem dJ6_numberOfTrailingZeros_0f7a4_72 : decode cJ6_numberOfTrailingZeros_0f7a4 72 = .ok (.iushr, 1) := by decide +kernel
theorem dJ6_numberOfTrailingZeros_0f7a4_73 : decode cJ6_numberOfTrailingZeros_0f7a4 73 = .ok (.istore_n 0, 1) := by decide +kernel
theorem dJ6_numberOfTrailingZeros_0f7a4_74 : decode cJ6_numberOfTrailingZeros_0f7a4 74 = .ok (.iload_n 1, 1) := by decide +kernel
theorem dJ6_numberOfTrailingZeros_0f7a4_75 : decode cJ6_numberOfTrailingZeros_0f7a4 75 = .ok (.iload_n 0, 1) := by decide +kernel
theorem dJ6_numberOfTrailingZeros_0f7a4_76 : decode cJ6_numberOfTrailingZeros_0f7a4 76 = .ok (.iconst 1, 1) := by decide +kernel
theorem dJ6_numberOfTrailingZeros_0f7a4_77 : decode cJ6_numberOfTrailingZeros_0f7a4 77 = .ok (.iushr, 1) := by decide +kernel
theorem dJ6_numberOfTrailingZeros_0f7a4_78 : decode cJ6_numberOfTrailingZeros_0f7a4 78 = .ok (.iadd, 1) := by decide +kernel
theorem dJ6_numberOfTrailingZeros_0f7a4_79 : decode cJ6_numberOfTrailingZeros_0f7a4 79 = .ok (.ireturn, 1) := by decide +kernel
theorem dJ6_bitCount_0f7a4_0 : decode cJ6_bitCount_0f7a4 0 = .ok (.iload_n 0, 1) := by decide +kernel
theorem dJ6_bitCount_0f7a4_1 : decode cJ6_bitCount_0f7a4 1 = .ok (.iload_n 0, 1) := by decide +kernel
theorem dJ6_bitCount_0f7a4_2 : decode cJ6_bitCount_0f7a4 2 = .ok (.iconst 1, 1) := by decide +kernel
theorem dJ6_bitCount_0f7a4_3 : decode cJ6_bitCount_0f7a4 3 = .ok (.iushr, 1) := by decide +kernel
theorem dJ6_bitCount_0f7a4_4 : decode cJ6_bitCount_0f7a4 4 = .ok (.ldc_w 265, 3) := by decide +kernel
theorem dJ6_bitCount_0f7a4_7 : decode cJ6_bitCount_0f7a4 7 = .ok (.iand, 1) := by decide +kernel
theorem dJ6_bitCount_0f7a4_8 : decode cJ6_bitCount_0f7a4 8 = .ok (.isub, 1) := by decide +kernel
theorem dJ6_bitCount_0f7a4_9 : decode cJ6_bitCount_0f7a4 9 = .ok (.istore_n 0, 1) := by decide +kernel
theorem dJ6_bitCount_0f7a4_10 : decode cJ6_bitCount_0f7a4 10 = .ok (.iload_n 0, 1) := by decide +kernel
theorem dJ6_bitCount_0f7a4_11 : decode cJ6_bitCount_0f7a4 11 = .ok (.ldc_w 266, 3) := by decide +kernel
theorem dJ6_bitCount_0f7a4_14 : decode cJ6_bitCount_0f7a4 14 = .ok (.iand, 1) := by decide +kernel
theorem dJ6_bitCount_0f7a4_15 : decode cJ6_bitCount_0f7a4 15 = .ok (.iload_n 0, 1) := by decide +kernel
theorem dJ6_bitCount_0f7a4_16 : decode cJ6_bitCount_0f7a4 16 = .ok (.iconst 2, 1) := by decide +kernel
theorem dJ6_bitCount_0f7a4_17 : decode cJ6_bitCount_0f7a4 17 = .ok (.iushr, 1) := by decide +kernel
theorem dJ6_bitCount_0f7a4_18 : decode cJ6_bitCount_0f7a4 18 = .ok (.ldc_w 266, 3) := by decide +kernel
theorem dJ6_bitCount_0f7a4_21 : decode cJ6_bitCount_0f7a4 21 = .ok (.iand, 1) := by decide +kernel
theorem dJ6_bitCount_0f7a4_22 : decode cJ6_bitCount_0f7a4 22 = .ok (.iadd, 1) := by decide +kernel
theorem dJ6_bitCount_0f7a4_23 : decode cJ6_bitCount_0f7a4 23 = .ok (.istore_n 0, 1) := by decide +kernel
theorem dJ6_bitCount_0f7a4_24 : decode cJ6_bitCount_0f7a4 24 = .ok (.iload_n 0, 1) := by decide +kernel
theorem dJ6_bitCount_0f7a4_25 : decode cJ6_bitCount_0f7a4 25 = .ok (.iload_n 0, 1) := by decide +kernel
theorem dJ6_bitCount_0f7a4_26 : decode cJ6_bitCount_0f7a4 26 = .ok (.iconst 4, 1) := by decide +kernel
theorem dJ6_bitCount_0f7a4_27 : decode cJ6_bitCount_0f7a4 27 = .ok (.iushr, 1) := by decide +kernel
theorem dJ6_bitCount_0f7a4_28 : decode cJ6_bitCount_0f7a4 28 = .ok (.iadd, 1) := by decide +kernel
theorem dJ6_bitCount_0f7a4_29 : decode cJ6_bitCount_0f7a4 29 = .ok (.ldc_w 267, 3) := by decide +kernel
theorem dJ6_bitCount_0f7a4_32 : decode cJ6_bitCount_0f7a4 32 = .ok (.iand, 1) := by decide +kernel
theorem dJ6_bitCount_0f7a4_33 : decode cJ6_bitCount_0f7a4 33 = .ok (.istore_n 0, 1) := by decide +kernel
theorem dJ6_bitCount_0f7a4_34 : decode cJ6_bitCount_0f7a4 34 = .ok (.iload_n 0, 1) := by decide +kernel
theorem dJ6_bitCount_0f7a4_35 : decode cJ6_bitCount_0f7a4 35 = .ok (.iload_n 0, 1) := by decide +kernel
theorem dJ6_bitCount_0f7a4_36 : decode cJ6_bitCount_0f7a4 36 = .ok (.bipush 8, 2) := by decide +kernel
theorem dJ6_bitCount_0f7a4_38 : decode cJ6_bitCount_0f7a4 38 = .ok (.iushr, 1) := by decide +kernel
theorem dJ6_bitCount_0f7a4_39 : decode cJ6_bitCount_0f7a4 39 = .ok (.iadd, 1) := by decide +kernel
theorem dJ6_bitCount_0f7a4_40 : decode cJ6_bitCount_0f7a4 40 = .ok (.istore_n 0, 1) := by decide +kernel
theorem dJ6_bitCount_0f7a4_41 : decode cJ6_bitCount_0f7a4 41 = .ok (.iload_n 0, 1) := by decide +kernel
theorem dJ6_bitCount_0f7a4_42 : decode cJ6_bitCount_0f7a4 42 = .ok (.iload_n 0, 1) := by decide +kernel
theorem dJ6_bitCount_0f7a4_43 : decode cJ6_bitCount_0f7a4 43 = .ok (.bipush 16, 2) := by decide +kernel
theorem dJ6_bitCount_0f7a4_45 : decode cJ6_bitCount_0f7a4 45 = .ok (.iushr, 1) := by decide +kernel
theorem dJ6_bitCount_0f7a4_46 : decode cJ6_bitCount_0f7a4 46 = .ok (.iadd, 1) := by decide +kernel
theorem dJ6_bitCount_0f7a4_47 : decode cJ6_bitCount_0f7a4 47 = .ok (.istore_n 0, 1) := by decide +kernel
theorem dJ6_bitCount_0f7a4_48 : decode cJ6_bitCount_0f7a4 48 = .ok (.iload_n 0, 1) := by decide +kernel
theorem dJ6_bitCount_0f7a4_49 : decode cJ6_bitCount_0f7a4 49 = .ok (.bipush 63, 2) := by decide +kernel
theorem dJ6_bitCount_0f7a4_51 : decode cJ6_bitCount_0f7a4 51 = .ok (.iand, 1) := by decide +kernel
theorem dJ6_bitCount_0f7a4_52 : decode cJ6_bitCount_0f7a4 52 = .ok (.ireturn, 1) := by decide +kernel
theorem dJ9_max_7cf53_0 : decode cJ9_max_7cf53 0 = .ok (.iload_n 0, 1) := by decide +kernel
theorem dJ9_max_7cf53_1 : decode cJ9_max_7cf53 1 = .ok (.iload_n 1, 1) := by decide +kernel
theorem dJ9_max_7cf53_2 : decode cJ9_max_7cf53 2 = .ok (.if_icmp .lt 7, 3) := by decide +kernel
theorem dJ9_max_7cf53_5 : decode cJ9_max_7cf53 5 = .ok (.iload_n 0, 1) := by decide +kernel
theorem dJ9_max_7cf53_6 : decode cJ9_max_7cf53 6 = .ok (.goto 4, 3) := by decide +kernel
theorem dJ9_max_7cf53_9 : decode cJ9_max_7cf53 9 = .ok (.iload_n 1, 1) := by decide +kernel
theorem dJ9_max_7cf53_10 : decode cJ9_max_7cf53 10 = .ok (.ireturn, 1) := by decide +kernel
theorem dJ9_min_7cf53_0 : decode cJ9_min_7cf53 0 = .ok (.iload_n 0, 1) := by decide +kernel
theorem dJ9_min_7cf53_1 : decode cJ9_min_7cf53 1 = .ok (.iload_n 1, 1) := by decide +kernel
theorem dJ9_min_7cf53_2 : decode cJ9_min_7cf53 2 = .ok (.if_icmp .gt 7, 3) := by decide +kernel
theorem dJ9_min_7cf53_5 : decode cJ9_min_7cf53 5 = .ok (.iload_n 0, 1) := by decide +kernel
theorem dJ9_min_7cf53_6 : decode cJ9_min_7cf53 6 = .ok (.goto 4, 3) := by decide +kernel
theorem dJ9_min_7cf53_9 : decode cJ9_min_7cf53 9 = .ok (.iload_n 1, 1) := by decide +kernel
theorem dJ9_min_7cf53_10 : decode cJ9_min_7cf53 10 = .ok (.ireturn, 1) := by decide +kernel
end
section
-- decode rows: printed by the TURN, copied
theorem dX7_init_0 : decode cX7_init 0 = .ok (.aload_n 0, 1) := by decide +kernel
theorem dX7_init_1 : decode cX7_init 1 = .ok (.invokespecial 1, 3) := by decide +kernel
theorem dX7_init_4 : decode cX7_init 4 = .ok (.aload_n 0, 1) := by decide +kernel
theorem dX7_init_5 : decode cX7_init 5 = .ok (.iconst 4, 1) := by decide +kernel
theorem dX7_init_6 : decode cX7_init 6 = .ok (.putfield 7, 3) := by decide +kernel
theorem dX7_init_9 : decode cX7_init 9 = .ok (.aload_n 0, 1) := by decide +kernel
theorem dX7_init_10 : decode cX7_init 10 = .ok (.bipush 90, 2) := by decide +kernel
theorem dX7_init_12 : decode cX7_init 12 = .ok (.putfield 13, 3) := by decide +kernel
theorem dX7_init_15 : decode cX7_init 15 = .ok (.aload_n 0, 1) := by decide +kernel
theorem dX7_init_16 : decode cX7_init 16 = .ok (.bipush 6, 2) := by decide +kernel
theorem dX7_init_18 : decode cX7_init 18 = .ok (.newarray .int, 2) := by decide +kernel
theorem dX7_init_20 : decode cX7_init 20 = .ok (.putfield 16, 3) := by decide +kernel
theorem dX7_init_23 : decode cX7_init 23 = .ok (.aload_n 0, 1) := by decide +kernel
theorem dX7_init_24 : decode cX7_init 24 = .ok (.bipush 6, 2) := by decide +kernel
theorem dX7_init_26 : decode cX7_init 26 = .ok (.newarray .int, 2) := by decide +kernel
theorem dX7_init_28 : decode cX7_init 28 = .ok (.putfield 20, 3) := by decide +kernel
theorem dX7_init_31 : decode cX7_init 31 = .ok (.aload_n 0, 1) := by decide +kernel
theorem dX7_init_32 : decode cX7_init 32 = .ok (.bipush 6, 2) := by decide +kernel
theorem dX7_init_34 : decode cX7_init 34 = .ok (.newarray .int, 2) := by decide +kernel
theorem dX7_init_36 : decode cX7_init 36 = .ok (.putfield 23, 3) := by decide +kernel
theorem dX7_init_39 : decode cX7_init 39 = .ok (.aload_n 0, 1) := by decide +kernel
theorem dX7_init_40 : decode cX7_init 40 = .ok (.bipush 6, 2) := by decide +kernel
theorem dX7_init_42 : decode cX7_init 42 = .ok (.newarray .int, 2) := by decide +kernel
theorem dX7_init_44 : decode cX7_init 44 = .ok (.putfield 26, 3) := by decide +kernel
theorem dX7_init_47 : decode cX7_init 47 = .ok (.aload_n 0, 1) := by decide +kernel
theorem dX7_init_48 : decode cX7_init 48 = .ok (.bipush 6, 2) := by decide +kernel
theorem dX7_init_50 : decode cX7_init 50 = .ok (.newarray .int, 2) := by decide +kernel
theorem dX7_init_52 : decode cX7_init 52 = .ok (.putfield 29, 3) := by decide +kernel
theorem dX7_init_55 : decode cX7_init 55 = .ok (.aload_n 0, 1) := by decide +kernel
theorem dX7_init_56 : decode cX7_init 56 = .ok (.bipush 16, 2) := by decide +kernel
theorem dX7_init_58 : decode cX7_init 58 = .ok (.newarray .int, 2) := by decide +kernel
theorem dX7_init_60 : decode cX7_init 60 = .ok (.putfield 32, 3) := by decide +kernel
theorem dX7_init_63 : decode cX7_init 63 = .ok (.aload_n 0, 1) := by decide +kernel
theorem dX7_init_64 : decode cX7_init 64 = .ok (.bipush 60, 2) := by decide +kernel
theorem dX7_init_66 : decode cX7_init 66 = .ok (.newarray .int, 2) := by decide +kernel
theorem dX7_init_68 : decode cX7_init 68 = .ok (.putfield 35, 3) := by decide +kernel
theorem dX7_init_71 : decode cX7_init 71 = .ok (.aload_n 0, 1) := by decide +kernel
theorem dX7_init_72 : decode cX7_init 72 = .ok (.bipush 6, 2) := by decide +kernel
theorem dX7_init_74 : decode cX7_init 74 = .ok (.newarray .int, 2) := by decide +kernel
theorem dX7_init_76 : decode cX7_init 76 = .ok (.putfield 38, 3) := by decide +kernel
theorem dX7_init_79 : decode cX7_init 79 = .ok (.aload_n 0, 1) := by decide +kernel
theorem dX7_init_80 : decode cX7_init 80 = .ok (.bipush 6, 2) := by decide +kernel
theorem dX7_init_82 : decode cX7_init 82 = .ok (.newarray .int, 2) := by decide +kernel
theorem dX7_init_84 : decode cX7_init 84 = .ok (.putfield 41, 3) := by decide +kernel
theorem dX7_init_87 : decode cX7_init 87 = .ok (.aload_n 0, 1) := by decide +kernel
theorem dX7_init_88 : decode cX7_init 88 = .ok (.bipush 6, 2) := by decide +kernel
theorem dX7_init_90 : decode cX7_init 90 = .ok (.newarray .int, 2) := by decide +kernel
theorem dX7_init_92 : decode cX7_init 92 = .ok (.putfield 44, 3) := by decide +kernel
theorem dX7_init_95 : decode cX7_init 95 = .ok (.aload_n 0, 1) := by decide +kernel
theorem dX7_init_96 : decode cX7_init 96 = .ok (.bipush 6, 2) := by decide +kernel
theorem dX7_init_98 : decode cX7_init 98 = .ok (.newarray .int, 2) := by decide +kernel
theorem dX7_init_100 : decode cX7_init 100 = .ok (.putfield 47, 3) := by decide +kernel
theorem dX7_init_103 : decode cX7_init 103 = .ok (.aload_n 0, 1) := by decide +kernel
theorem dX7_init_104 : decode cX7_init 104 = .ok (.bipush 6, 2) := by decide +kernel
theorem dX7_init_106 : decode cX7_init 106 = .ok (.newarray .int, 2) := by decide +kernel
theorem dX7_init_108 : decode cX7_init 108 = .ok (.putfield 50, 3) := by decide +kernel
theorem dX7_init_111 : decode cX7_init 111 = .ok (.aload_n 0, 1) := by decide +kernel
theorem dX7_init_112 : decode cX7_init 112 = .ok (.bipush 6, 2) := by decide +kernel
theorem dX7_init_114 : decode cX7_init 114 = .ok (.newarray .int, 2) := by decide +kernel
theorem dX7_init_116 : decode cX7_init 116 = .ok (.putfield 53, 3) := by decide +kernel
theorem dX7_init_119 : decode cX7_init 119 = .ok (.aload_n 0, 1) := by decide +kernel
theorem dX7_init_120 : decode cX7_init 120 = .ok (.sipush 140, 3) := by decide +kernel
theorem dX7_init_123 : decode cX7_init 123 = .ok (.newarray .int, 2) := by decide +kernel
theorem dX7_init_125 : decode cX7_init 125 = .ok (.putfield 56, 3) := by decide +kernel
theorem dX7_init_128 : decode cX7_init 128 = .ok (.aload_n 0, 1) := by decide +kernel
theorem dX7_init_129 : decode cX7_init 129 = .ok (.iconst 2, 1) := by decide +kernel
theorem dX7_init_130 : decode cX7_init 130 = .ok (.newarray .boolean, 2) := by decide +kernel
theorem dX7_init_132 : decode cX7_init 132 = .ok (.putfield 59, 3) := by decide +kernel
theorem dX7_init_135 : decode cX7_init 135 = .ok (.aload_n 0, 1) := by decide +kernel
theorem dX7_init_136 : decode cX7_init 136 = .ok (.invokevirtual 63, 3) := by decide +kernel
theorem dX7_init_139 : decode cX7_init 139 = .ok (.return_, 1) := by decide +kernel
theorem dX7_clear_0 : decode cX7_clear 0 = .ok (.aload_n 0, 1) := by decide +kernel
theorem dX7_clear_1 : decode cX7_clear 1 = .ok (.iconst 0, 1) := by decide +kernel
theorem dX7_clear_2 : decode cX7_clear 2 = .ok (.putfield 66, 3) := by decide +kernel
theorem dX7_clear_5 : decode cX7_clear 5 = .ok (.aload_n 0, 1) := by decide +kernel
theorem dX7_clear_6 : decode cX7_clear 6 = .ok (.iconst 0, 1) := by decide +kernel
theorem dX7_clear_7 : decode cX7_clear 7 = .ok (.putfield 69, 3) := by decide +kernel
theorem dX7_clear_10 : decode cX7_clear 10 = .ok (.aload_n 0, 1) := by decide +kernel
theorem dX7_clear_11 : decode cX7_clear 11 = .ok (.iconst 0, 1) := by decide +kernel
theorem dX7_clear_12 : decode cX7_clear 12 = .ok (.putfield 72, 3) := by decide +kernel
theorem dX7_clear_15 : decode cX7_clear 15 = .ok (.aload_n 0, 1) := by decide +kernel
theorem dX7_clear_16 : decode cX7_clear 16 = .ok (.iconst 0, 1) := by decide +kernel
theorem dX7_clear_17 : decode cX7_clear 17 = .ok (.putfield 75, 3) := by decide +kernel
theorem dX7_clear_20 : decode cX7_clear 20 = .ok (.iconst 0, 1) := by decide +kernel
theorem dX7_clear_21 : decode cX7_clear 21 = .ok (.istore_n 1, 1) := by decide +kernel
theorem dX7_clear_22 : decode cX7_clear 22 = .ok (.iload_n 1, 1) := by decide +kernel
theorem dX7_clear_23 : decode cX7_clear 23 = .ok (.bipush 6, 2) := by decide +kernel
theorem dX7_clear_25 : decode cX7_clear 25 = .ok (.if_icmp .ge 64, 3) := by decide +kernel
theorem dX7_clear_28 : decode cX7_clear 28 = .ok (.aload_n 0, 1) := by decide +kernel
theorem dX7_clear_29 : decode cX7_clear 29 = .ok (.getfield 16, 3) := by decide +kernel
theorem dX7_clear_32 : decode cX7_clear 32 = .ok (.iload_n 1, 1) := by decide +kernel
theorem dX7_clear_33 : decode cX7_clear 33 = .ok (.iload_n 1, 1) := by decide +kernel
theorem dX7_clear_34 : decode cX7_clear 34 = .ok (.aload_n 0, 1) := by decide +kernel
theorem dX7_clear_35 : decode cX7_clear 35 = .ok (.getfield 7, 3) := by decide +kernel
theorem dX7_clear_38 : decode cX7_clear 38 = .ok (.if_icmp .ge 14, 3) := by decide +kernel
theorem dX7_clear_41 : decode cX7_clear 41 = .ok (.iload_n 1, 1) := by decide +kernel
theorem dX7_clear_42 : decode cX7_clear 42 = .ok (.iconst 1, 1) := by decide +kernel
theorem dX7_clear_43 : decode cX7_clear 43 = .ok (.iadd, 1) := by decide +kernel
theorem dX7_clear_44 : decode cX7_clear 44 = .ok (.aload_n 0, 1) := by decide +kernel
theorem dX7_clear_45 : decode cX7_clear 45 = .ok (.getfield 7, 3) := by decide +kernel
theorem dX7_clear_48 : decode cX7_clear 48 = .ok (.irem, 1) := by decide +kernel
theorem dX7_clear_49 : decode cX7_clear 49 = .ok (.goto 5, 3) := by decide +kernel
theorem dX7_clear_52 : decode cX7_clear 52 = .ok (.bipush (-6), 2) := by decide +kernel
theorem dX7_clear_54 : decode cX7_clear 54 = .ok (.iastore, 1) := by decide +kernel
theorem dX7_clear_55 : decode cX7_clear 55 = .ok (.aload_n 0, 1) := by decide +kernel
theorem dX7_clear_56 : decode cX7_clear 56 = .ok (.getfield 20, 3) := by decide +kernel
theorem dX7_clear_59 : decode cX7_clear 59 = .ok (.iload_n 1, 1) := by decide +kernel
theorem dX7_clear_60 : decode cX7_clear 60 = .ok (.iload_n 1, 1) := by decide +kernel
theorem dX7_clear_61 : decode cX7_clear 61 = .ok (.iastore, 1) := by decide +kernel
theorem dX7_clear_62 : decode cX7_clear 62 = .ok (.aload_n 0, 1) := by decide +kernel
theorem dX7_clear_63 : decode cX7_clear 63 = .ok (.getfield 23, 3) := by decide +kernel
theorem dX7_clear_66 : decode cX7_clear 66 = .ok (.iload_n 1, 1) := by decide +kernel
theorem dX7_clear_67 : decode cX7_clear 67 = .ok (.iconst 0, 1) := by decide +kernel
theorem dX7_clear_68 : decode cX7_clear 68 = .ok (.iastore, 1) := by decide +kernel
theorem dX7_clear_69 : decode cX7_clear 69 = .ok (.aload_n 0, 1) := by decide +kernel
theorem dX7_clear_70 : decode cX7_clear 70 = .ok (.getfield 26, 3) := by decide +kernel
theorem dX7_clear_73 : decode cX7_clear 73 = .ok (.iload_n 1, 1) := by decide +kernel
theorem dX7_clear_74 : decode cX7_clear 74 = .ok (.iconst 0, 1) := by decide +kernel
theorem dX7_clear_75 : decode cX7_clear 75 = .ok (.iastore, 1) := by decide +kernel
theorem dX7_clear_76 : decode cX7_clear 76 = .ok (.aload_n 0, 1) := by decide +kernel
theorem dX7_clear_77 : decode cX7_clear 77 = .ok (.getfield 29, 3) := by decide +kernel
theorem dX7_clear_80 : decode cX7_clear 80 = .ok (.iload_n 1, 1) := by decide +kernel
theorem dX7_clear_81 : decode cX7_clear 81 = .ok (.iconst 0, 1) := by decide +kernel
theorem dX7_clear_82 : decode cX7_clear 82 = .ok (.iastore, 1) := by decide +kernel
theorem dX7_clear_83 : decode cX7_clear 83 = .ok (.iinc 1 1, 3) := by decide +kernel
theorem dX7_clear_86 : decode cX7_clear 86 = .ok (.goto (-64), 3) := by decide +kernel
theorem dX7_clear_89 : decode cX7_clear 89 = .ok (.return_, 1) := by decide +kernel
theorem dX7_in_0 : decode cX7_in 0 = .ok (.iload_n 0, 1) := by decide +kernel
theorem dX7_in_1 : decode cX7_in 1 = .ok (.iload_n 1, 1) := by decide +kernel
theorem dX7_in_2 : decode cX7_in 2 = .ok (.if_icmp .lt 12, 3) := by decide +kernel
theorem dX7_in_5 : decode cX7_in 5 = .ok (.iload_n 0, 1) := by decide +kernel
theorem dX7_in_6 : decode cX7_in 6 = .ok (.iload_n 2, 1) := by decide +kernel
theorem dX7_in_7 : decode cX7_in 7 = .ok (.if_icmp .gt 7, 3) := by decide +kernel
theorem dX7_in_10 : decode cX7_in 10 = .ok (.iconst 1, 1) := by decide +kernel
theorem dX7_in_11 : decode cX7_in 11 = .ok (.goto 4, 3) := by decide +kernel
theorem dX7_in_14 : decode cX7_in 14 = .ok (.iconst 0, 1) := by decide +kernel
theorem dX7_in_15 : decode cX7_in 15 = .ok (.ireturn, 1) := by decide +kernel
theorem dX7_has_0 : decode cX7_has 0 = .ok (.iload_n 0, 1) := by decide +kernel
theorem dX7_has_1 : decode cX7_has 1 = .ok (.iload_n 1, 1) := by decide +kernel
theorem dX7_has_2 : decode cX7_has 2 = .ok (.ishr, 1) := by decide +kernel
theorem dX7_has_3 : decode cX7_has 3 = .ok (.iconst 1, 1) := by decide +kernel
theorem dX7_has_4 : decode cX7_has 4 = .ok (.iand, 1) := by decide +kernel
theorem dX7_has_5 : decode cX7_has 5 = .ok (.iconst 1, 1) := by decide +kernel
theorem dX7_has_6 : decode cX7_has 6 = .ok (.if_icmp .ne 7, 3) := by decide +kernel
theorem dX7_has_9 : decode cX7_has 9 = .ok (.iconst 1, 1) := by decide +kernel
theorem dX7_has_10 : decode cX7_has 10 = .ok (.goto 4, 3) := by decide +kernel
theorem dX7_has_13 : decode cX7_has 13 = .ok (.iconst 0, 1) := by decide +kernel
theorem dX7_has_14 : decode cX7_has 14 = .ok (.ireturn, 1) := by decide +kernel
theorem dX7_isOne_0 : decode cX7_isOne 0 = .ok (.iload_n 1, 1) := by decide +kernel
theorem dX7_isOne_1 : decode cX7_isOne 1 = .ok (.iconst 0, 1) := by decide +kernel
theorem dX7_isOne_2 : decode cX7_isOne 2 = .ok (.aload_n 0, 1) := by decide +kernel
theorem dX7_isOne_3 : decode cX7_isOne 3 = .ok (.getfield 7, 3) := by decide +kernel
theorem dX7_isOne_6 : decode cX7_isOne 6 = .ok (.iconst 1, 1) := by decide +kernel
theorem dX7_isOne_7 : decode cX7_isOne 7 = .ok (.isub, 1) := by decide +kernel
theorem dX7_isOne_8 : decode cX7_isOne 8 = .ok (.invokestatic 78, 3) := by decide +kernel
theorem dX7_isOne_11 : decode cX7_isOne 11 = .ok (.ireturn, 1) := by decide +kernel
theorem dX7_areTwo_0 : decode cX7_areTwo 0 = .ok (.aload_n 0, 1) := by decide +kernel
theorem dX7_areTwo_1 : decode cX7_areTwo 1 = .ok (.iload_n 1, 1) := by decide +kernel
theorem dX7_areTwo_2 : decode cX7_areTwo 2 = .ok (.invokevirtual 82, 3) := by decide +kernel
theorem dX7_areTwo_5 : decode cX7_areTwo 5 = .ok (.ifCond .eq 20, 3) := by decide +kernel
theorem dX7_areTwo_8 : decode cX7_areTwo 8 = .ok (.aload_n 0, 1) := by decide +kernel
theorem dX7_areTwo_9 : decode cX7_areTwo 9 = .ok (.iload_n 2, 1) := by decide +kernel
theorem dX7_areTwo_10 : decode cX7_areTwo 10 = .ok (.invokevirtual 82, 3) := by decide +kernel
theorem dX7_areTwo_13 : decode cX7_areTwo 13 = .ok (.ifCond .eq 12, 3) := by decide +kernel
theorem dX7_areTwo_16 : decode cX7_areTwo 16 = .ok (.iload_n 1, 1) := by decide +kernel
theorem dX7_areTwo_17 : decode cX7_areTwo 17 = .ok (.iload_n 2, 1) := by decide +kernel
theorem dX7_areTwo_18 : decode cX7_areTwo 18 = .ok (.if_icmp .eq 7, 3) := by decide +kernel
theorem dX7_areTwo_21 : decode cX7_areTwo 21 = .ok (.iconst 1, 1) := by decide +kernel
theorem dX7_areTwo_22 : decode cX7_areTwo 22 = .ok (.goto 4, 3) := by decide +kernel
theorem dX7_areTwo_25 : decode cX7_areTwo 25 = .ok (.iconst 0, 1) := by decide +kernel
theorem dX7_areTwo_26 : decode cX7_areTwo 26 = .ok (.ireturn, 1) := by decide +kernel
theorem dX7_lands_0 : decode cX7_lands 0 = .ok (.iload_n 1, 1) := by decide +kernel
theorem dX7_lands_1 : decode cX7_lands 1 = .ok (.iconst 3, 1) := by decide +kernel
theorem dX7_lands_2 : decode cX7_lands 2 = .ok (.bipush 6, 2) := by decide +kernel
theorem dX7_lands_4 : decode cX7_lands 4 = .ok (.invokestatic 78, 3) := by decide +kernel
theorem dX7_lands_7 : decode cX7_lands 7 = .ok (.ifCond .ne 6, 3) := by decide +kernel
theorem dX7_lands_10 : decode cX7_lands 10 = .ok (.bipush (-2), 2) := by decide +kernel
theorem dX7_lands_12 : decode cX7_lands 12 = .ok (.ireturn, 1) := by decide +kernel
theorem dX7_lands_13 : decode cX7_lands 13 = .ok (.aload_n 0, 1) := by decide +kernel
theorem dX7_lands_14 : decode cX7_lands 14 = .ok (.getfield 7, 3) := by decide +kernel
theorem dX7_lands_17 : decode cX7_lands 17 = .ok (.istore_n 2, 1) := by decide +kernel
theorem dX7_lands_18 : decode cX7_lands 18 = .ok (.aload_n 0, 1) := by decide +kernel
theorem dX7_lands_19 : decode cX7_lands 19 = .ok (.iload_n 1, 1) := by decide +kernel
theorem dX7_lands_20 : decode cX7_lands 20 = .ok (.putfield 7, 3) := by decide +kernel
theorem dX7_lands_23 : decode cX7_lands 23 = .ok (.aload_n 0, 1) := by decide +kernel
theorem dX7_lands_24 : decode cX7_lands 24 = .ok (.invokevirtual 63, 3) := by decide +kernel
theorem dX7_lands_27 : decode cX7_lands 27 = .ok (.iload_n 2, 1) := by decide +kernel
theorem dX7_lands_28 : decode cX7_lands 28 = .ok (.ireturn, 1) := by decide +kernel
theorem dX7_season_0 : decode cX7_season 0 = .ok (.iload_n 1, 1) := by decide +kernel
theorem dX7_season_1 : decode cX7_season 1 = .ok (.iconst 1, 1) := by decide +kernel
theorem dX7_season_2 : decode cX7_season 2 = .ok (.bipush 99, 2) := by decide +kernel
theorem dX7_season_4 : decode cX7_season 4 = .ok (.invokestatic 78, 3) := by decide +kernel
theorem dX7_season_7 : decode cX7_season 7 = .ok (.ifCond .ne 6, 3) := by decide +kernel
theorem dX7_season_10 : decode cX7_season 10 = .ok (.bipush (-2), 2) := by decide +kernel
theorem dX7_season_12 : decode cX7_season 12 = .ok (.ireturn, 1) := by decide +kernel
theorem dX7_season_13 : decode cX7_season 13 = .ok (.aload_n 0, 1) := by decide +kernel
theorem dX7_season_14 : decode cX7_season 14 = .ok (.getfield 72, 3) := by decide +kernel
theorem dX7_season_17 : decode cX7_season 17 = .ok (.ifCond .eq 6, 3) := by decide +kernel
theorem dX7_season_20 : decode cX7_season 20 = .ok (.bipush (-3), 2) := by decide +kernel
theorem dX7_season_22 : decode cX7_season 22 = .ok (.ireturn, 1) := by decide +kernel
theorem dX7_season_23 : decode cX7_season 23 = .ok (.aload_n 0, 1) := by decide +kernel
theorem dX7_season_24 : decode cX7_season 24 = .ok (.getfield 13, 3) := by decide +kernel
theorem dX7_season_27 : decode cX7_season 27 = .ok (.istore_n 2, 1) := by decide +kernel
theorem dX7_season_28 : decode cX7_season 28 = .ok (.aload_n 0, 1) := by decide +kernel
theorem dX7_season_29 : decode cX7_season 29 = .ok (.iload_n 1, 1) := by decide +kernel
theorem dX7_season_30 : decode cX7_season 30 = .ok (.putfield 13, 3) := by decide +kernel
theorem dX7_season_33 : decode cX7_season 33 = .ok (.iload_n 2, 1) := by decide +kernel
theorem dX7_season_34 : decode cX7_season 34 = .ok (.ireturn, 1) := by decide +kernel
theorem dX7_set_0 : decode cX7_set 0 = .ok (.aload_n 0, 1) := by decide +kernel
theorem dX7_set_1 : decode cX7_set 1 = .ok (.iload_n 1, 1) := by decide +kernel
theorem dX7_set_2 : decode cX7_set 2 = .ok (.invokevirtual 82, 3) := by decide +kernel
theorem dX7_set_5 : decode cX7_set 5 = .ok (.ifCond .ne 5, 3) := by decide +kernel
theorem dX7_set_8 : decode cX7_set 8 = .ok (.iconst (-1), 1) := by decide +kernel
theorem dX7_set_9 : decode cX7_set 9 = .ok (.ireturn, 1) := by decide +kernel
theorem dX7_set_10 : decode cX7_set 10 = .ok (.iload_n 2, 1) := by decide +kernel
theorem dX7_set_11 : decode cX7_set 11 = .ok (.iconst 0, 1) := by decide +kernel
theorem dX7_set_12 : decode cX7_set 12 = .ok (.iconst 1, 1) := by decide +kernel
theorem dX7_set_13 : decode cX7_set 13 = .ok (.invokestatic 78, 3) := by decide +kernel
theorem dX7_set_16 : decode cX7_set 16 = .ok (.ifCond .eq 21, 3) := by decide +kernel
theorem dX7_set_19 : decode cX7_set 19 = .ok (.iload_n 3, 1) := by decide +kernel
theorem dX7_set_20 : decode cX7_set 20 = .ok (.iconst 0, 1) := by decide +kernel
theorem dX7_set_21 : decode cX7_set 21 = .ok (.iload_n 2, 1) := by decide +kernel
theorem dX7_set_22 : decode cX7_set 22 = .ok (.ifCond .ne 8, 3) := by decide +kernel
theorem dX7_set_25 : decode cX7_set 25 = .ok (.bipush 9, 2) := by decide +kernel
theorem dX7_set_27 : decode cX7_set 27 = .ok (.goto 4, 3) := by decide +kernel
theorem dX7_set_30 : decode cX7_set 30 = .ok (.iconst 1, 1) := by decide +kernel
theorem dX7_set_31 : decode cX7_set 31 = .ok (.invokestatic 78, 3) := by decide +kernel
theorem dX7_set_34 : decode cX7_set 34 = .ok (.ifCond .ne 6, 3) := by decide +kernel
theorem dX7_set_37 : decode cX7_set 37 = .ok (.bipush (-2), 2) := by decide +kernel
theorem dX7_set_39 : decode cX7_set 39 = .ok (.ireturn, 1) := by decide +kernel
theorem dX7_set_40 : decode cX7_set 40 = .ok (.iload_n 2, 1) := by decide +kernel
theorem dX7_set_41 : decode cX7_set 41 = .ok (.ifCond .ne 12, 3) := by decide +kernel
theorem dX7_set_44 : decode cX7_set 44 = .ok (.aload_n 0, 1) := by decide +kernel
theorem dX7_set_45 : decode cX7_set 45 = .ok (.getfield 26, 3) := by decide +kernel
theorem dX7_set_48 : decode cX7_set 48 = .ok (.iload_n 1, 1) := by decide +kernel
theorem dX7_set_49 : decode cX7_set 49 = .ok (.iaload, 1) := by decide +kernel
theorem dX7_set_50 : decode cX7_set 50 = .ok (.goto 9, 3) := by decide +kernel
theorem dX7_set_53 : decode cX7_set 53 = .ok (.aload_n 0, 1) := by decide +kernel
theorem dX7_set_54 : decode cX7_set 54 = .ok (.getfield 29, 3) := by decide +kernel
theorem dX7_set_57 : decode cX7_set 57 = .ok (.iload_n 1, 1) := by decide +kernel
theorem dX7_set_58 : decode cX7_set 58 = .ok (.iaload, 1) := by decide +kernel
theorem dX7_set_59 : decode cX7_set 59 = .ok (.istore 4, 2) := by decide +kernel
theorem dX7_set_61 : decode cX7_set 61 = .ok (.aload_n 0, 1) := by decide +kernel
theorem dX7_set_62 : decode cX7_set 62 = .ok (.getfield 26, 3) := by decide +kernel
theorem dX7_set_65 : decode cX7_set 65 = .ok (.iload_n 1, 1) := by decide +kernel
theorem dX7_set_66 : decode cX7_set 66 = .ok (.iload_n 2, 1) := by decide +kernel
theorem dX7_set_67 : decode cX7_set 67 = .ok (.ifCond .ne 7, 3) := by decide +kernel
theorem dX7_set_70 : decode cX7_set 70 = .ok (.iload_n 3, 1) := by decide +kernel
theorem dX7_set_71 : decode cX7_set 71 = .ok (.goto 9, 3) := by decide +kernel
theorem dX7_set_74 : decode cX7_set 74 = .ok (.aload_n 0, 1) := by decide +kernel
theorem dX7_set_75 : decode cX7_set 75 = .ok (.getfield 26, 3) := by decide +kernel
theorem dX7_set_78 : decode cX7_set 78 = .ok (.iload_n 1, 1) := by decide +kernel
theorem dX7_set_79 : decode cX7_set 79 = .ok (.iaload, 1) := by decide +kernel
theorem dX7_set_80 : decode cX7_set 80 = .ok (.iastore, 1) := by decide +kernel
theorem dX7_set_81 : decode cX7_set 81 = .ok (.aload_n 0, 1) := by decide +kernel
theorem dX7_set_82 : decode cX7_set 82 = .ok (.getfield 29, 3) := by decide +kernel
theorem dX7_set_85 : decode cX7_set 85 = .ok (.iload_n 1, 1) := by decide +kernel
theorem dX7_set_86 : decode cX7_set 86 = .ok (.iload_n 2, 1) := by decide +kernel
theorem dX7_set_87 : decode cX7_set 87 = .ok (.iconst 1, 1) := by decide +kernel
theorem dX7_set_88 : decode cX7_set 88 = .ok (.if_icmp .ne 7, 3) := by decide +kernel
theorem dX7_set_91 : decode cX7_set 91 = .ok (.iload_n 3, 1) := by decide +kernel
theorem dX7_set_92 : decode cX7_set 92 = .ok (.goto 9, 3) := by decide +kernel
theorem dX7_set_95 : decode cX7_set 95 = .ok (.aload_n 0, 1) := by decide +kernel
theorem dX7_set_96 : decode cX7_set 96 = .ok (.getfield 29, 3) := by decide +kernel
theorem dX7_set_99 : decode cX7_set 99 = .ok (.iload_n 1, 1) := by decide +kernel
theorem dX7_set_100 : decode cX7_set 100 = .ok (.iaload, 1) := by decide +kernel
theorem dX7_set_101 : decode cX7_set 101 = .ok (.iastore, 1) := by decide +kernel
theorem dX7_set_102 : decode cX7_set 102 = .ok (.iload 4, 2) := by decide +kernel
theorem dX7_set_104 : decode cX7_set 104 = .ok (.ireturn, 1) := by decide +kernel
theorem dX7_say_0 : decode cX7_say 0 = .ok (.iload_n 1, 1) := by decide +kernel
theorem dX7_say_1 : decode cX7_say 1 = .ok (.bipush 33, 2) := by decide +kernel
theorem dX7_say_3 : decode cX7_say 3 = .ok (.bipush 126, 2) := by decide +kernel
theorem dX7_say_5 : decode cX7_say 5 = .ok (.invokestatic 78, 3) := by decide +kernel
theorem dX7_say_8 : decode cX7_say 8 = .ok (.ifCond .ne 6, 3) := by decide +kernel
theorem dX7_say_11 : decode cX7_say 11 = .ok (.bipush (-2), 2) := by decide +kernel
theorem dX7_say_13 : decode cX7_say 13 = .ok (.ireturn, 1) := by decide +kernel
theorem dX7_say_14 : decode cX7_say 14 = .ok (.aload_n 0, 1) := by decide +kernel
theorem dX7_say_15 : decode cX7_say 15 = .ok (.getfield 86, 3) := by decide +kernel
theorem dX7_say_18 : decode cX7_say 18 = .ok (.bipush 60, 2) := by decide +kernel
theorem dX7_say_20 : decode cX7_say 20 = .ok (.if_icmp .ne 6, 3) := by decide +kernel
theorem dX7_say_23 : decode cX7_say 23 = .ok (.bipush (-4), 2) := by decide +kernel
theorem dX7_say_25 : decode cX7_say 25 = .ok (.ireturn, 1) := by decide +kernel
theorem dX7_say_26 : decode cX7_say 26 = .ok (.aload_n 0, 1) := by decide +kernel
theorem dX7_say_27 : decode cX7_say 27 = .ok (.getfield 35, 3) := by decide +kernel
theorem dX7_say_30 : decode cX7_say 30 = .ok (.aload_n 0, 1) := by decide +kernel
theorem dX7_say_31 : decode cX7_say 31 = .ok (.getfield 86, 3) := by decide +kernel
theorem dX7_say_34 : decode cX7_say 34 = .ok (.iload_n 1, 1) := by decide +kernel
theorem dX7_say_35 : decode cX7_say 35 = .ok (.iastore, 1) := by decide +kernel
theorem dX7_say_36 : decode cX7_say 36 = .ok (.aload_n 0, 1) := by decide +kernel
theorem dX7_say_37 : decode cX7_say 37 = .ok (.dup, 1) := by decide +kernel
theorem dX7_say_38 : decode cX7_say 38 = .ok (.getfield 86, 3) := by decide +kernel
theorem dX7_say_41 : decode cX7_say 41 = .ok (.iconst 1, 1) := by decide +kernel
theorem dX7_say_42 : decode cX7_say 42 = .ok (.iadd, 1) := by decide +kernel
theorem dX7_say_43 : decode cX7_say 43 = .ok (.putfield 86, 3) := by decide +kernel
theorem dX7_say_46 : decode cX7_say 46 = .ok (.aload_n 0, 1) := by decide +kernel
theorem dX7_say_47 : decode cX7_say 47 = .ok (.getfield 86, 3) := by decide +kernel
theorem dX7_say_50 : decode cX7_say 50 = .ok (.ireturn, 1) := by decide +kernel
theorem dX7_wipe_0 : decode cX7_wipe 0 = .ok (.aload_n 0, 1) := by decide +kernel
theorem dX7_wipe_1 : decode cX7_wipe 1 = .ok (.getfield 86, 3) := by decide +kernel
theorem dX7_wipe_4 : decode cX7_wipe 4 = .ok (.istore_n 1, 1) := by decide +kernel
theorem dX7_wipe_5 : decode cX7_wipe 5 = .ok (.aload_n 0, 1) := by decide +kernel
theorem dX7_wipe_6 : decode cX7_wipe 6 = .ok (.iconst 0, 1) := by decide +kernel
theorem dX7_wipe_7 : decode cX7_wipe 7 = .ok (.putfield 86, 3) := by decide +kernel
theorem dX7_wipe_10 : decode cX7_wipe 10 = .ok (.iload_n 1, 1) := by decide +kernel
theorem dX7_wipe_11 : decode cX7_wipe 11 = .ok (.ireturn, 1) := by decide +kernel
theorem dX7_isChild_0 : decode cX7_isChild 0 = .ok (.aload_n 0, 1) := by decide +kernel
theorem dX7_isChild_1 : decode cX7_isChild 1 = .ok (.iload_n 1, 1) := by decide +kernel
theorem dX7_isChild_2 : decode cX7_isChild 2 = .ok (.bipush 65, 2) := by decide +kernel
theorem dX7_isChild_4 : decode cX7_isChild 4 = .ok (.isub, 1) := by decide +kernel
theorem dX7_isChild_5 : decode cX7_isChild 5 = .ok (.invokevirtual 82, 3) := by decide +kernel
theorem dX7_isChild_8 : decode cX7_isChild 8 = .ok (.ireturn, 1) := by decide +kernel
theorem dX7_faultOf_0 : decode cX7_faultOf 0 = .ok (.iconst 0, 1) := by decide +kernel
theorem dX7_faultOf_1 : decode cX7_faultOf 1 = .ok (.istore_n 1, 1) := by decide +kernel
theorem dX7_faultOf_2 : decode cX7_faultOf 2 = .ok (.iconst 0, 1) := by decide +kernel
theorem dX7_faultOf_3 : decode cX7_faultOf 3 = .ok (.istore_n 2, 1) := by decide +kernel
theorem dX7_faultOf_4 : decode cX7_faultOf 4 = .ok (.iload_n 2, 1) := by decide +kernel
theorem dX7_faultOf_5 : decode cX7_faultOf 5 = .ok (.aload_n 0, 1) := by decide +kernel
theorem dX7_faultOf_6 : decode cX7_faultOf 6 = .ok (.getfield 86, 3) := by decide +kernel
theorem dX7_faultOf_9 : decode cX7_faultOf 9 = .ok (.if_icmp .ge 99, 3) := by decide +kernel
theorem dX7_faultOf_12 : decode cX7_faultOf 12 = .ok (.aload_n 0, 1) := by decide +kernel
theorem dX7_faultOf_13 : decode cX7_faultOf 13 = .ok (.getfield 35, 3) := by decide +kernel
theorem dX7_faultOf_16 : decode cX7_faultOf 16 = .ok (.iload_n 2, 1) := by decide +kernel
theorem dX7_faultOf_17 : decode cX7_faultOf 17 = .ok (.iaload, 1) := by decide +kernel
theorem dX7_faultOf_18 : decode cX7_faultOf 18 = .ok (.istore_n 3, 1) := by decide +kernel
theorem dX7_faultOf_19 : decode cX7_faultOf 19 = .ok (.aload_n 0, 1) := by decide +kernel
theorem dX7_faultOf_20 : decode cX7_faultOf 20 = .ok (.iload_n 3, 1) := by decide +kernel
theorem dX7_faultOf_21 : decode cX7_faultOf 21 = .ok (.invokevirtual 89, 3) := by decide +kernel
theorem dX7_faultOf_24 : decode cX7_faultOf 24 = .ok (.ifCond .ne 46, 3) := by decide +kernel
theorem dX7_faultOf_27 : decode cX7_faultOf 27 = .ok (.iload_n 1, 1) := by decide +kernel
theorem dX7_faultOf_28 : decode cX7_faultOf 28 = .ok (.ifCond .eq 24, 3) := by decide +kernel
theorem dX7_faultOf_31 : decode cX7_faultOf 31 = .ok (.iload_n 3, 1) := by decide +kernel
theorem dX7_faultOf_32 : decode cX7_faultOf 32 = .ok (.bipush 115, 2) := by decide +kernel
theorem dX7_faultOf_34 : decode cX7_faultOf 34 = .ok (.if_icmp .eq 36, 3) := by decide +kernel
theorem dX7_faultOf_37 : decode cX7_faultOf 37 = .ok (.iload_n 3, 1) := by decide +kernel
theorem dX7_faultOf_38 : decode cX7_faultOf 38 = .ok (.bipush 100, 2) := by decide +kernel
theorem dX7_faultOf_40 : decode cX7_faultOf 40 = .ok (.if_icmp .eq 30, 3) := by decide +kernel
theorem dX7_faultOf_43 : decode cX7_faultOf 43 = .ok (.iload_n 3, 1) := by decide +kernel
theorem dX7_faultOf_44 : decode cX7_faultOf 44 = .ok (.bipush 109, 2) := by decide +kernel
theorem dX7_faultOf_46 : decode cX7_faultOf 46 = .ok (.if_icmp .ne 28, 3) := by decide +kernel
theorem dX7_faultOf_49 : decode cX7_faultOf 49 = .ok (.goto 21, 3) := by decide +kernel
theorem dX7_faultOf_52 : decode cX7_faultOf 52 = .ok (.iload_n 3, 1) := by decide +kernel
theorem dX7_faultOf_53 : decode cX7_faultOf 53 = .ok (.bipush 46, 2) := by decide +kernel
theorem dX7_faultOf_55 : decode cX7_faultOf 55 = .ok (.if_icmp .eq 15, 3) := by decide +kernel
theorem dX7_faultOf_58 : decode cX7_faultOf 58 = .ok (.iload_n 3, 1) := by decide +kernel
theorem dX7_faultOf_59 : decode cX7_faultOf 59 = .ok (.bipush 58, 2) := by decide +kernel
theorem dX7_faultOf_61 : decode cX7_faultOf 61 = .ok (.if_icmp .eq 9, 3) := by decide +kernel
theorem dX7_faultOf_64 : decode cX7_faultOf 64 = .ok (.iload_n 3, 1) := by decide +kernel
theorem dX7_faultOf_65 : decode cX7_faultOf 65 = .ok (.bipush 59, 2) := by decide +kernel
theorem dX7_faultOf_67 : decode cX7_faultOf 67 = .ok (.if_icmp .ne 7, 3) := by decide +kernel
theorem dX7_faultOf_70 : decode cX7_faultOf 70 = .ok (.iconst 1, 1) := by decide +kernel
theorem dX7_faultOf_71 : decode cX7_faultOf 71 = .ok (.goto 4, 3) := by decide +kernel
theorem dX7_faultOf_74 : decode cX7_faultOf 74 = .ok (.iconst 0, 1) := by decide +kernel
theorem dX7_faultOf_75 : decode cX7_faultOf 75 = .ok (.istore 4, 2) := by decide +kernel
theorem dX7_faultOf_77 : decode cX7_faultOf 77 = .ok (.iload 4, 2) := by decide +kernel
theorem dX7_faultOf_79 : decode cX7_faultOf 79 = .ok (.ifCond .ne 5, 3) := by decide +kernel
theorem dX7_faultOf_82 : decode cX7_faultOf 82 = .ok (.iload_n 2, 1) := by decide +kernel
theorem dX7_faultOf_83 : decode cX7_faultOf 83 = .ok (.ireturn, 1) := by decide +kernel
theorem dX7_faultOf_84 : decode cX7_faultOf 84 = .ok (.iload_n 1, 1) := by decide +kernel
theorem dX7_faultOf_85 : decode cX7_faultOf 85 = .ok (.ifCond .ne 15, 3) := by decide +kernel
theorem dX7_faultOf_88 : decode cX7_faultOf 88 = .ok (.aload_n 0, 1) := by decide +kernel
theorem dX7_faultOf_89 : decode cX7_faultOf 89 = .ok (.iload_n 3, 1) := by decide +kernel
theorem dX7_faultOf_90 : decode cX7_faultOf 90 = .ok (.invokevirtual 89, 3) := by decide +kernel
theorem dX7_faultOf_93 : decode cX7_faultOf 93 = .ok (.ifCond .eq 7, 3) := by decide +kernel
theorem dX7_faultOf_96 : decode cX7_faultOf 96 = .ok (.iconst 1, 1) := by decide +kernel
theorem dX7_faultOf_97 : decode cX7_faultOf 97 = .ok (.goto 4, 3) := by decide +kernel
theorem dX7_faultOf_100 : decode cX7_faultOf 100 = .ok (.iconst 0, 1) := by decide +kernel
theorem dX7_faultOf_101 : decode cX7_faultOf 101 = .ok (.istore_n 1, 1) := by decide +kernel
theorem dX7_faultOf_102 : decode cX7_faultOf 102 = .ok (.iinc 2 1, 3) := by decide +kernel
theorem dX7_faultOf_105 : decode cX7_faultOf 105 = .ok (.goto (-101), 3) := by decide +kernel
theorem dX7_faultOf_108 : decode cX7_faultOf 108 = .ok (.iload_n 1, 1) := by decide +kernel
theorem dX7_faultOf_109 : decode cX7_faultOf 109 = .ok (.ifCond .eq 10, 3) := by decide +kernel
theorem dX7_faultOf_112 : decode cX7_faultOf 112 = .ok (.aload_n 0, 1) := by decide +kernel
theorem dX7_faultOf_113 : decode cX7_faultOf 113 = .ok (.getfield 86, 3) := by decide +kernel
theorem dX7_faultOf_116 : decode cX7_faultOf 116 = .ok (.goto 5, 3) := by decide +kernel
theorem dX7_faultOf_119 : decode cX7_faultOf 119 = .ok (.bipush (-6), 2) := by decide +kernel
theorem dX7_faultOf_121 : decode cX7_faultOf 121 = .ok (.ireturn, 1) := by decide +kernel
theorem dX7_fault_0 : decode cX7_fault 0 = .ok (.aload_n 0, 1) := by decide +kernel
theorem dX7_fault_1 : decode cX7_fault 1 = .ok (.invokevirtual 92, 3) := by decide +kernel
theorem dX7_fault_4 : decode cX7_fault 4 = .ok (.ireturn, 1) := by decide +kernel
theorem dX7_asNow_0 : decode cX7_asNow 0 = .ok (.aload_n 0, 1) := by decide +kernel
theorem dX7_asNow_1 : decode cX7_asNow 1 = .ok (.aload_n 0, 1) := by decide +kernel
theorem dX7_asNow_2 : decode cX7_asNow 2 = .ok (.getfield 66, 3) := by decide +kernel
theorem dX7_asNow_5 : decode cX7_asNow 5 = .ok (.putfield 96, 3) := by decide +kernel
theorem dX7_asNow_8 : decode cX7_asNow 8 = .ok (.aload_n 0, 1) := by decide +kernel
theorem dX7_asNow_9 : decode cX7_asNow 9 = .ok (.aload_n 0, 1) := by decide +kernel
theorem dX7_asNow_10 : decode cX7_asNow 10 = .ok (.getfield 69, 3) := by decide +kernel
theorem dX7_asNow_13 : decode cX7_asNow 13 = .ok (.putfield 99, 3) := by decide +kernel
theorem dX7_asNow_16 : decode cX7_asNow 16 = .ok (.aload_n 0, 1) := by decide +kernel
theorem dX7_asNow_17 : decode cX7_asNow 17 = .ok (.aload_n 0, 1) := by decide +kernel
theorem dX7_asNow_18 : decode cX7_asNow 18 = .ok (.getfield 72, 3) := by decide +kernel
theorem dX7_asNow_21 : decode cX7_asNow 21 = .ok (.putfield 102, 3) := by decide +kernel
theorem dX7_asNow_24 : decode cX7_asNow 24 = .ok (.iconst 0, 1) := by decide +kernel
theorem dX7_asNow_25 : decode cX7_asNow 25 = .ok (.istore_n 1, 1) := by decide +kernel
theorem dX7_asNow_26 : decode cX7_asNow 26 = .ok (.iload_n 1, 1) := by decide +kernel
theorem dX7_asNow_27 : decode cX7_asNow 27 = .ok (.bipush 6, 2) := by decide +kernel
theorem dX7_asNow_29 : decode cX7_asNow 29 = .ok (.if_icmp .ge 52, 3) := by decide +kernel
theorem dX7_asNow_32 : decode cX7_asNow 32 = .ok (.aload_n 0, 1) := by decide +kernel
theorem dX7_asNow_33 : decode cX7_asNow 33 = .ok (.getfield 38, 3) := by decide +kernel
theorem dX7_asNow_36 : decode cX7_asNow 36 = .ok (.iload_n 1, 1) := by decide +kernel
theorem dX7_asNow_37 : decode cX7_asNow 37 = .ok (.aload_n 0, 1) := by decide +kernel
theorem dX7_asNow_38 : decode cX7_asNow 38 = .ok (.getfield 16, 3) := by decide +kernel
theorem dX7_asNow_41 : decode cX7_asNow 41 = .ok (.iload_n 1, 1) := by decide +kernel
theorem dX7_asNow_42 : decode cX7_asNow 42 = .ok (.iaload, 1) := by decide +kernel
theorem dX7_asNow_43 : decode cX7_asNow 43 = .ok (.iastore, 1) := by decide +kernel
theorem dX7_asNow_44 : decode cX7_asNow 44 = .ok (.aload_n 0, 1) := by decide +kernel
theorem dX7_asNow_45 : decode cX7_asNow 45 = .ok (.getfield 41, 3) := by decide +kernel
theorem dX7_asNow_48 : decode cX7_asNow 48 = .ok (.iload_n 1, 1) := by decide +kernel
theorem dX7_asNow_49 : decode cX7_asNow 49 = .ok (.aload_n 0, 1) := by decide +kernel
theorem dX7_asNow_50 : decode cX7_asNow 50 = .ok (.getfield 20, 3) := by decide +kernel
theorem dX7_asNow_53 : decode cX7_asNow 53 = .ok (.iload_n 1, 1) := by decide +kernel
theorem dX7_asNow_54 : decode cX7_asNow 54 = .ok (.iaload, 1) := by decide +kernel
theorem dX7_asNow_55 : decode cX7_asNow 55 = .ok (.iastore, 1) := by decide +kernel
theorem dX7_asNow_56 : decode cX7_asNow 56 = .ok (.aload_n 0, 1) := by decide +kernel
theorem dX7_asNow_57 : decode cX7_asNow 57 = .ok (.getfield 44, 3) := by decide +kernel
theorem dX7_asNow_60 : decode cX7_asNow 60 = .ok (.iload_n 1, 1) := by decide +kernel
theorem dX7_asNow_61 : decode cX7_asNow 61 = .ok (.aload_n 0, 1) := by decide +kernel
theorem dX7_asNow_62 : decode cX7_asNow 62 = .ok (.getfield 23, 3) := by decide +kernel
theorem dX7_asNow_65 : decode cX7_asNow 65 = .ok (.iload_n 1, 1) := by decide +kernel
theorem dX7_asNow_66 : decode cX7_asNow 66 = .ok (.iaload, 1) := by decide +kernel
theorem dX7_asNow_67 : decode cX7_asNow 67 = .ok (.iastore, 1) := by decide +kernel
theorem dX7_asNow_68 : decode cX7_asNow 68 = .ok (.aload_n 0, 1) := by decide +kernel
theorem dX7_asNow_69 : decode cX7_asNow 69 = .ok (.getfield 47, 3) := by decide +kernel
theorem dX7_asNow_72 : decode cX7_asNow 72 = .ok (.iload_n 1, 1) := by decide +kernel
theorem dX7_asNow_73 : decode cX7_asNow 73 = .ok (.iconst 0, 1) := by decide +kernel
theorem dX7_asNow_74 : decode cX7_asNow 74 = .ok (.iastore, 1) := by decide +kernel
theorem dX7_asNow_75 : decode cX7_asNow 75 = .ok (.iinc 1 1, 3) := by decide +kernel
theorem dX7_asNow_78 : decode cX7_asNow 78 = .ok (.goto (-52), 3) := by decide +kernel
theorem dX7_asNow_81 : decode cX7_asNow 81 = .ok (.return_, 1) := by decide +kernel
theorem dX7_equinox_0 : decode cX7_equinox 0 = .ok (.iconst 0, 1) := by decide +kernel
theorem dX7_equinox_1 : decode cX7_equinox 1 = .ok (.istore_n 1, 1) := by decide +kernel
theorem dX7_equinox_2 : decode cX7_equinox 2 = .ok (.iload_n 1, 1) := by decide +kernel
theorem dX7_equinox_3 : decode cX7_equinox 3 = .ok (.aload_n 0, 1) := by decide +kernel
theorem dX7_equinox_4 : decode cX7_equinox 4 = .ok (.getfield 7, 3) := by decide +kernel
theorem dX7_equinox_7 : decode cX7_equinox 7 = .ok (.if_icmp .ge 110, 3) := by decide +kernel
theorem dX7_equinox_10 : decode cX7_equinox 10 = .ok (.aload_n 0, 1) := by decide +kernel
theorem dX7_equinox_11 : decode cX7_equinox 11 = .ok (.getfield 38, 3) := by decide +kernel
theorem dX7_equinox_14 : decode cX7_equinox 14 = .ok (.iload_n 1, 1) := by decide +kernel
theorem dX7_equinox_15 : decode cX7_equinox 15 = .ok (.iaload, 1) := by decide +kernel
theorem dX7_equinox_16 : decode cX7_equinox 16 = .ok (.ifCond .lt 69, 3) := by decide +kernel
theorem dX7_equinox_19 : decode cX7_equinox 19 = .ok (.aload_n 0, 1) := by decide +kernel
theorem dX7_equinox_20 : decode cX7_equinox 20 = .ok (.getfield 44, 3) := by decide +kernel
theorem dX7_equinox_23 : decode cX7_equinox 23 = .ok (.iload_n 1, 1) := by decide +kernel
theorem dX7_equinox_24 : decode cX7_equinox 24 = .ok (.iaload, 1) := by decide +kernel
theorem dX7_equinox_25 : decode cX7_equinox 25 = .ok (.ifCond .ne 60, 3) := by decide +kernel
theorem dX7_equinox_28 : decode cX7_equinox 28 = .ok (.aload_n 0, 1) := by decide +kernel
theorem dX7_equinox_29 : decode cX7_equinox 29 = .ok (.getfield 38, 3) := by decide +kernel
theorem dX7_equinox_32 : decode cX7_equinox 32 = .ok (.iload_n 1, 1) := by decide +kernel
theorem dX7_equinox_33 : decode cX7_equinox 33 = .ok (.aload_n 0, 1) := by decide +kernel
theorem dX7_equinox_34 : decode cX7_equinox 34 = .ok (.getfield 38, 3) := by decide +kernel
theorem dX7_equinox_37 : decode cX7_equinox 37 = .ok (.iload_n 1, 1) := by decide +kernel
theorem dX7_equinox_38 : decode cX7_equinox 38 = .ok (.iaload, 1) := by decide +kernel
theorem dX7_equinox_39 : decode cX7_equinox 39 = .ok (.iconst 1, 1) := by decide +kernel
theorem dX7_equinox_40 : decode cX7_equinox 40 = .ok (.iadd, 1) := by decide +kernel
theorem dX7_equinox_41 : decode cX7_equinox 41 = .ok (.aload_n 0, 1) := by decide +kernel
theorem dX7_equinox_42 : decode cX7_equinox 42 = .ok (.getfield 7, 3) := by decide +kernel
theorem dX7_equinox_45 : decode cX7_equinox 45 = .ok (.irem, 1) := by decide +kernel
theorem dX7_equinox_46 : decode cX7_equinox 46 = .ok (.iload_n 1, 1) := by decide +kernel
theorem dX7_equinox_47 : decode cX7_equinox 47 = .ok (.if_icmp .ne 14, 3) := by decide +kernel
theorem dX7_equinox_50 : decode cX7_equinox 50 = .ok (.iload_n 1, 1) := by decide +kernel
theorem dX7_equinox_51 : decode cX7_equinox 51 = .ok (.iconst 1, 1) := by decide +kernel
theorem dX7_equinox_52 : decode cX7_equinox 52 = .ok (.iadd, 1) := by decide +kernel
theorem dX7_equinox_53 : decode cX7_equinox 53 = .ok (.aload_n 0, 1) := by decide +kernel
theorem dX7_equinox_54 : decode cX7_equinox 54 = .ok (.getfield 7, 3) := by decide +kernel
theorem dX7_equinox_57 : decode cX7_equinox 57 = .ok (.irem, 1) := by decide +kernel
theorem dX7_equinox_58 : decode cX7_equinox 58 = .ok (.goto 16, 3) := by decide +kernel
theorem dX7_equinox_61 : decode cX7_equinox 61 = .ok (.aload_n 0, 1) := by decide +kernel
theorem dX7_equinox_62 : decode cX7_equinox 62 = .ok (.getfield 38, 3) := by decide +kernel
theorem dX7_equinox_65 : decode cX7_equinox 65 = .ok (.iload_n 1, 1) := by decide +kernel
theorem dX7_equinox_66 : decode cX7_equinox 66 = .ok (.iaload, 1) := by decide +kernel
theorem dX7_equinox_67 : decode cX7_equinox 67 = .ok (.iconst 1, 1) := by decide +kernel
theorem dX7_equinox_68 : decode cX7_equinox 68 = .ok (.iadd, 1) := by decide +kernel
theorem dX7_equinox_69 : decode cX7_equinox 69 = .ok (.aload_n 0, 1) := by decide +kernel
theorem dX7_equinox_70 : decode cX7_equinox 70 = .ok (.getfield 7, 3) := by decide +kernel
theorem dX7_equinox_73 : decode cX7_equinox 73 = .ok (.irem, 1) := by decide +kernel
theorem dX7_equinox_74 : decode cX7_equinox 74 = .ok (.iastore, 1) := by decide +kernel
theorem dX7_equinox_75 : decode cX7_equinox 75 = .ok (.aload_n 0, 1) := by decide +kernel
theorem dX7_equinox_76 : decode cX7_equinox 76 = .ok (.getfield 47, 3) := by decide +kernel
theorem dX7_equinox_79 : decode cX7_equinox 79 = .ok (.iload_n 1, 1) := by decide +kernel
theorem dX7_equinox_80 : decode cX7_equinox 80 = .ok (.dup2, 1) := by decide +kernel
theorem dX7_equinox_81 : decode cX7_equinox 81 = .ok (.iaload, 1) := by decide +kernel
theorem dX7_equinox_82 : decode cX7_equinox 82 = .ok (.iconst 1, 1) := by decide +kernel
theorem dX7_equinox_83 : decode cX7_equinox 83 = .ok (.iadd, 1) := by decide +kernel
theorem dX7_equinox_84 : decode cX7_equinox 84 = .ok (.iastore, 1) := by decide +kernel
theorem dX7_equinox_85 : decode cX7_equinox 85 = .ok (.aload_n 0, 1) := by decide +kernel
theorem dX7_equinox_86 : decode cX7_equinox 86 = .ok (.getfield 44, 3) := by decide +kernel
theorem dX7_equinox_89 : decode cX7_equinox 89 = .ok (.iload_n 1, 1) := by decide +kernel
theorem dX7_equinox_90 : decode cX7_equinox 90 = .ok (.aload_n 0, 1) := by decide +kernel
theorem dX7_equinox_91 : decode cX7_equinox 91 = .ok (.getfield 44, 3) := by decide +kernel
theorem dX7_equinox_94 : decode cX7_equinox 94 = .ok (.iload_n 1, 1) := by decide +kernel
theorem dX7_equinox_95 : decode cX7_equinox 95 = .ok (.iaload, 1) := by decide +kernel
theorem dX7_equinox_96 : decode cX7_equinox 96 = .ok (.iconst 1, 1) := by decide +kernel
theorem dX7_equinox_97 : decode cX7_equinox 97 = .ok (.if_icmp .ne 7, 3) := by decide +kernel
theorem dX7_equinox_100 : decode cX7_equinox 100 = .ok (.iconst 0, 1) := by decide +kernel
theorem dX7_equinox_101 : decode cX7_equinox 101 = .ok (.goto 9, 3) := by decide +kernel
theorem dX7_equinox_104 : decode cX7_equinox 104 = .ok (.aload_n 0, 1) := by decide +kernel
theorem dX7_equinox_105 : decode cX7_equinox 105 = .ok (.getfield 44, 3) := by decide +kernel
theorem dX7_equinox_108 : decode cX7_equinox 108 = .ok (.iload_n 1, 1) := by decide +kernel
theorem dX7_equinox_109 : decode cX7_equinox 109 = .ok (.iaload, 1) := by decide +kernel
theorem dX7_equinox_110 : decode cX7_equinox 110 = .ok (.iastore, 1) := by decide +kernel
theorem dX7_equinox_111 : decode cX7_equinox 111 = .ok (.iinc 1 1, 3) := by decide +kernel
theorem dX7_equinox_114 : decode cX7_equinox 114 = .ok (.goto (-112), 3) := by decide +kernel
theorem dX7_equinox_117 : decode cX7_equinox 117 = .ok (.aload_n 0, 1) := by decide +kernel
theorem dX7_equinox_118 : decode cX7_equinox 118 = .ok (.dup, 1) := by decide +kernel
theorem dX7_equinox_119 : decode cX7_equinox 119 = .ok (.getfield 99, 3) := by decide +kernel
theorem dX7_equinox_122 : decode cX7_equinox 122 = .ok (.iconst 1, 1) := by decide +kernel
theorem dX7_equinox_123 : decode cX7_equinox 123 = .ok (.iadd, 1) := by decide +kernel
theorem dX7_equinox_124 : decode cX7_equinox 124 = .ok (.putfield 99, 3) := by decide +kernel
theorem dX7_equinox_127 : decode cX7_equinox 127 = .ok (.aload_n 0, 1) := by decide +kernel
theorem dX7_equinox_128 : decode cX7_equinox 128 = .ok (.iconst 0, 1) := by decide +kernel
theorem dX7_equinox_129 : decode cX7_equinox 129 = .ok (.putfield 102, 3) := by decide +kernel
theorem dX7_equinox_132 : decode cX7_equinox 132 = .ok (.return_, 1) := by decide +kernel
theorem dX7_days_0 : decode cX7_days 0 = .ok (.iconst 0, 1) := by decide +kernel
theorem dX7_days_1 : decode cX7_days 1 = .ok (.istore_n 2, 1) := by decide +kernel
theorem dX7_days_2 : decode cX7_days 2 = .ok (.iload_n 2, 1) := by decide +kernel
theorem dX7_days_3 : decode cX7_days 3 = .ok (.iload_n 1, 1) := by decide +kernel
theorem dX7_days_4 : decode cX7_days 4 = .ok (.if_icmp .ge 44, 3) := by decide +kernel
theorem dX7_days_7 : decode cX7_days 7 = .ok (.aload_n 0, 1) := by decide +kernel
theorem dX7_days_8 : decode cX7_days 8 = .ok (.dup, 1) := by decide +kernel
theorem dX7_days_9 : decode cX7_days 9 = .ok (.getfield 96, 3) := by decide +kernel
theorem dX7_days_12 : decode cX7_days 12 = .ok (.iconst 1, 1) := by decide +kernel
theorem dX7_days_13 : decode cX7_days 13 = .ok (.iadd, 1) := by decide +kernel
theorem dX7_days_14 : decode cX7_days 14 = .ok (.putfield 96, 3) := by decide +kernel
theorem dX7_days_17 : decode cX7_days 17 = .ok (.aload_n 0, 1) := by decide +kernel
theorem dX7_days_18 : decode cX7_days 18 = .ok (.dup, 1) := by decide +kernel
theorem dX7_days_19 : decode cX7_days 19 = .ok (.getfield 102, 3) := by decide +kernel
theorem dX7_days_22 : decode cX7_days 22 = .ok (.iconst 1, 1) := by decide +kernel
theorem dX7_days_23 : decode cX7_days 23 = .ok (.iadd, 1) := by decide +kernel
theorem dX7_days_24 : decode cX7_days 24 = .ok (.putfield 102, 3) := by decide +kernel
theorem dX7_days_27 : decode cX7_days 27 = .ok (.aload_n 0, 1) := by decide +kernel
theorem dX7_days_28 : decode cX7_days 28 = .ok (.getfield 102, 3) := by decide +kernel
theorem dX7_days_31 : decode cX7_days 31 = .ok (.aload_n 0, 1) := by decide +kernel
theorem dX7_days_32 : decode cX7_days 32 = .ok (.getfield 13, 3) := by decide +kernel
theorem dX7_days_35 : decode cX7_days 35 = .ok (.if_icmp .ne 7, 3) := by decide +kernel
theorem dX7_days_38 : decode cX7_days 38 = .ok (.aload_n 0, 1) := by decide +kernel
theorem dX7_days_39 : decode cX7_days 39 = .ok (.invokevirtual 105, 3) := by decide +kernel
theorem dX7_days_42 : decode cX7_days 42 = .ok (.iinc 2 1, 3) := by decide +kernel
theorem dX7_days_45 : decode cX7_days 45 = .ok (.goto (-43), 3) := by decide +kernel
theorem dX7_days_48 : decode cX7_days 48 = .ok (.return_, 1) := by decide +kernel
theorem dX7_whyNoHats_0 : decode cX7_whyNoHats 0 = .ok (.aload_n 0, 1) := by decide +kernel
theorem dX7_whyNoHats_1 : decode cX7_whyNoHats 1 = .ok (.getfield 38, 3) := by decide +kernel
theorem dX7_whyNoHats_4 : decode cX7_whyNoHats 4 = .ok (.iload_n 1, 1) := by decide +kernel
theorem dX7_whyNoHats_5 : decode cX7_whyNoHats 5 = .ok (.iaload, 1) := by decide +kernel
theorem dX7_whyNoHats_6 : decode cX7_whyNoHats 6 = .ok (.ifCond .lt 12, 3) := by decide +kernel
theorem dX7_whyNoHats_9 : decode cX7_whyNoHats 9 = .ok (.aload_n 0, 1) := by decide +kernel
theorem dX7_whyNoHats_10 : decode cX7_whyNoHats 10 = .ok (.getfield 38, 3) := by decide +kernel
theorem dX7_whyNoHats_13 : decode cX7_whyNoHats 13 = .ok (.iload_n 2, 1) := by decide +kernel
theorem dX7_whyNoHats_14 : decode cX7_whyNoHats 14 = .ok (.iaload, 1) := by decide +kernel
theorem dX7_whyNoHats_15 : decode cX7_whyNoHats 15 = .ok (.ifCond .ge 5, 3) := by decide +kernel
theorem dX7_whyNoHats_18 : decode cX7_whyNoHats 18 = .ok (.iconst 1, 1) := by decide +kernel
theorem dX7_whyNoHats_19 : decode cX7_whyNoHats 19 = .ok (.ireturn, 1) := by decide +kernel
theorem dX7_whyNoHats_20 : decode cX7_whyNoHats 20 = .ok (.iload_n 1, 1) := by decide +kernel
theorem dX7_whyNoHats_21 : decode cX7_whyNoHats 21 = .ok (.iload_n 2, 1) := by decide +kernel
theorem dX7_whyNoHats_22 : decode cX7_whyNoHats 22 = .ok (.if_icmp .ne 7, 3) := by decide +kernel
theorem dX7_whyNoHats_25 : decode cX7_whyNoHats 25 = .ok (.iconst 2, 1) := by decide +kernel
theorem dX7_whyNoHats_26 : decode cX7_whyNoHats 26 = .ok (.goto 15, 3) := by decide +kernel
theorem dX7_whyNoHats_29 : decode cX7_whyNoHats 29 = .ok (.aload_n 0, 1) := by decide +kernel
theorem dX7_whyNoHats_30 : decode cX7_whyNoHats 30 = .ok (.getfield 102, 3) := by decide +kernel
theorem dX7_whyNoHats_33 : decode cX7_whyNoHats 33 = .ok (.ifCond .eq 7, 3) := by decide +kernel
theorem dX7_whyNoHats_36 : decode cX7_whyNoHats 36 = .ok (.iconst 3, 1) := by decide +kernel
theorem dX7_whyNoHats_37 : decode cX7_whyNoHats 37 = .ok (.goto 4, 3) := by decide +kernel
theorem dX7_whyNoHats_40 : decode cX7_whyNoHats 40 = .ok (.iconst 0, 1) := by decide +kernel
theorem dX7_whyNoHats_41 : decode cX7_whyNoHats 41 = .ok (.ireturn, 1) := by decide +kernel
theorem dX7_hats_0 : decode cX7_hats 0 = .ok (.aload_n 0, 1) := by decide +kernel
theorem dX7_hats_1 : decode cX7_hats 1 = .ok (.getfield 41, 3) := by decide +kernel
theorem dX7_hats_4 : decode cX7_hats 4 = .ok (.iload_n 1, 1) := by decide +kernel
theorem dX7_hats_5 : decode cX7_hats 5 = .ok (.iaload, 1) := by decide +kernel
theorem dX7_hats_6 : decode cX7_hats 6 = .ok (.istore_n 3, 1) := by decide +kernel
theorem dX7_hats_7 : decode cX7_hats 7 = .ok (.aload_n 0, 1) := by decide +kernel
theorem dX7_hats_8 : decode cX7_hats 8 = .ok (.getfield 41, 3) := by decide +kernel
theorem dX7_hats_11 : decode cX7_hats 11 = .ok (.iload_n 1, 1) := by decide +kernel
theorem dX7_hats_12 : decode cX7_hats 12 = .ok (.aload_n 0, 1) := by decide +kernel
theorem dX7_hats_13 : decode cX7_hats 13 = .ok (.getfield 41, 3) := by decide +kernel
theorem dX7_hats_16 : decode cX7_hats 16 = .ok (.iload_n 2, 1) := by decide +kernel
theorem dX7_hats_17 : decode cX7_hats 17 = .ok (.iaload, 1) := by decide +kernel
theorem dX7_hats_18 : decode cX7_hats 18 = .ok (.iastore, 1) := by decide +kernel
theorem dX7_hats_19 : decode cX7_hats 19 = .ok (.aload_n 0, 1) := by decide +kernel
theorem dX7_hats_20 : decode cX7_hats 20 = .ok (.getfield 41, 3) := by decide +kernel
theorem dX7_hats_23 : decode cX7_hats 23 = .ok (.iload_n 2, 1) := by decide +kernel
theorem dX7_hats_24 : decode cX7_hats 24 = .ok (.iload_n 3, 1) := by decide +kernel
theorem dX7_hats_25 : decode cX7_hats 25 = .ok (.iastore, 1) := by decide +kernel
theorem dX7_hats_26 : decode cX7_hats 26 = .ok (.return_, 1) := by decide +kernel
theorem dX7_whyNot_0 : decode cX7_whyNot 0 = .ok (.aload_n 0, 1) := by decide +kernel
theorem dX7_whyNot_1 : decode cX7_whyNot 1 = .ok (.getfield 38, 3) := by decide +kernel
theorem dX7_whyNot_4 : decode cX7_whyNot 4 = .ok (.iload_n 1, 1) := by decide +kernel
theorem dX7_whyNot_5 : decode cX7_whyNot 5 = .ok (.iaload, 1) := by decide +kernel
theorem dX7_whyNot_6 : decode cX7_whyNot 6 = .ok (.ifCond .ge 7, 3) := by decide +kernel
theorem dX7_whyNot_9 : decode cX7_whyNot 9 = .ok (.iconst 1, 1) := by decide +kernel
theorem dX7_whyNot_10 : decode cX7_whyNot 10 = .ok (.goto 23, 3) := by decide +kernel
theorem dX7_whyNot_13 : decode cX7_whyNot 13 = .ok (.iload_n 2, 1) := by decide +kernel
theorem dX7_whyNot_14 : decode cX7_whyNot 14 = .ok (.bipush 100, 2) := by decide +kernel
theorem dX7_whyNot_16 : decode cX7_whyNot 16 = .ok (.if_icmp .eq 16, 3) := by decide +kernel
theorem dX7_whyNot_19 : decode cX7_whyNot 19 = .ok (.aload_n 0, 1) := by decide +kernel
theorem dX7_whyNot_20 : decode cX7_whyNot 20 = .ok (.getfield 44, 3) := by decide +kernel
theorem dX7_whyNot_23 : decode cX7_whyNot 23 = .ok (.iload_n 1, 1) := by decide +kernel
theorem dX7_whyNot_24 : decode cX7_whyNot 24 = .ok (.iaload, 1) := by decide +kernel
theorem dX7_whyNot_25 : decode cX7_whyNot 25 = .ok (.ifCond .eq 7, 3) := by decide +kernel
theorem dX7_whyNot_28 : decode cX7_whyNot 28 = .ok (.iconst 4, 1) := by decide +kernel
theorem dX7_whyNot_29 : decode cX7_whyNot 29 = .ok (.goto 4, 3) := by decide +kernel
theorem dX7_whyNot_32 : decode cX7_whyNot 32 = .ok (.iconst 0, 1) := by decide +kernel
theorem dX7_whyNot_33 : decode cX7_whyNot 33 = .ok (.ireturn, 1) := by decide +kernel
theorem dX7_goYears_0 : decode cX7_goYears 0 = .ok (.aload_n 0, 1) := by decide +kernel
theorem dX7_goYears_1 : decode cX7_goYears 1 = .ok (.invokevirtual 108, 3) := by decide +kernel
theorem dX7_goYears_4 : decode cX7_goYears 4 = .ok (.aload_n 0, 1) := by decide +kernel
theorem dX7_goYears_5 : decode cX7_goYears 5 = .ok (.iconst 0, 1) := by decide +kernel
theorem dX7_goYears_6 : decode cX7_goYears 6 = .ok (.putfield 111, 3) := by decide +kernel
theorem dX7_goYears_9 : decode cX7_goYears 9 = .ok (.iconst 0, 1) := by decide +kernel
theorem dX7_goYears_10 : decode cX7_goYears 10 = .ok (.istore_n 1, 1) := by decide +kernel
theorem dX7_goYears_11 : decode cX7_goYears 11 = .ok (.iload_n 1, 1) := by decide +kernel
theorem dX7_goYears_12 : decode cX7_goYears 12 = .ok (.aload_n 0, 1) := by decide +kernel
theorem dX7_goYears_13 : decode cX7_goYears 13 = .ok (.getfield 86, 3) := by decide +kernel
theorem dX7_goYears_16 : decode cX7_goYears 16 = .ok (.if_icmp .ge 232, 3) := by decide +kernel
theorem dX7_goYears_19 : decode cX7_goYears 19 = .ok (.aload_n 0, 1) := by decide +kernel
theorem dX7_goYears_20 : decode cX7_goYears 20 = .ok (.getfield 35, 3) := by decide +kernel
theorem dX7_goYears_23 : decode cX7_goYears 23 = .ok (.iload_n 1, 1) := by decide +kernel
theorem dX7_goYears_24 : decode cX7_goYears 24 = .ok (.iaload, 1) := by decide +kernel
theorem dX7_goYears_25 : decode cX7_goYears 25 = .ok (.istore_n 2, 1) := by decide +kernel
theorem dX7_goYears_26 : decode cX7_goYears 26 = .ok (.aload_n 0, 1) := by decide +kernel
theorem dX7_goYears_27 : decode cX7_goYears 27 = .ok (.iconst 0, 1) := by decide +kernel
theorem dX7_goYears_28 : decode cX7_goYears 28 = .ok (.putfield 114, 3) := by decide +kernel
theorem dX7_goYears_31 : decode cX7_goYears 31 = .ok (.aload_n 0, 1) := by decide +kernel
theorem dX7_goYears_32 : decode cX7_goYears 32 = .ok (.iload_n 2, 1) := by decide +kernel
theorem dX7_goYears_33 : decode cX7_goYears 33 = .ok (.invokevirtual 89, 3) := by decide +kernel
theorem dX7_goYears_36 : decode cX7_goYears 36 = .ok (.ifCond .ne 43, 3) := by decide +kernel
theorem dX7_goYears_39 : decode cX7_goYears 39 = .ok (.aload_n 0, 1) := by decide +kernel
theorem dX7_goYears_40 : decode cX7_goYears 40 = .ok (.iload_n 2, 1) := by decide +kernel
theorem dX7_goYears_41 : decode cX7_goYears 41 = .ok (.bipush 46, 2) := by decide +kernel
theorem dX7_goYears_43 : decode cX7_goYears 43 = .ok (.if_icmp .ne 7, 3) := by decide +kernel
theorem dX7_goYears_46 : decode cX7_goYears 46 = .ok (.iconst 1, 1) := by decide +kernel
theorem dX7_goYears_47 : decode cX7_goYears 47 = .ok (.goto 23, 3) := by decide +kernel
theorem dX7_goYears_50 : decode cX7_goYears 50 = .ok (.iload_n 2, 1) := by decide +kernel
theorem dX7_goYears_51 : decode cX7_goYears 51 = .ok (.bipush 58, 2) := by decide +kernel
theorem dX7_goYears_53 : decode cX7_goYears 53 = .ok (.if_icmp .ne 8, 3) := by decide +kernel
theorem dX7_goYears_56 : decode cX7_goYears 56 = .ok (.bipush 10, 2) := by decide +kernel
theorem dX7_goYears_58 : decode cX7_goYears 58 = .ok (.goto 12, 3) := by decide +kernel
theorem dX7_goYears_61 : decode cX7_goYears 61 = .ok (.aload_n 0, 1) := by decide +kernel
theorem dX7_goYears_62 : decode cX7_goYears 62 = .ok (.getfield 13, 3) := by decide +kernel
theorem dX7_goYears_65 : decode cX7_goYears 65 = .ok (.aload_n 0, 1) := by decide +kernel
theorem dX7_goYears_66 : decode cX7_goYears 66 = .ok (.getfield 102, 3) := by decide +kernel
theorem dX7_goYears_69 : decode cX7_goYears 69 = .ok (.isub, 1) := by decide +kernel
theorem dX7_goYears_70 : decode cX7_goYears 70 = .ok (.invokevirtual 117, 3) := by decide +kernel
theorem dX7_goYears_73 : decode cX7_goYears 73 = .ok (.iinc 1 1, 3) := by decide +kernel
theorem dX7_goYears_76 : decode cX7_goYears 76 = .ok (.goto 147, 3) := by decide +kernel
theorem dX7_goYears_79 : decode cX7_goYears 79 = .ok (.iload_n 2, 1) := by decide +kernel
theorem dX7_goYears_80 : decode cX7_goYears 80 = .ok (.bipush 65, 2) := by decide +kernel
theorem dX7_goYears_82 : decode cX7_goYears 82 = .ok (.isub, 1) := by decide +kernel
theorem dX7_goYears_83 : decode cX7_goYears 83 = .ok (.istore_n 3, 1) := by decide +kernel
theorem dX7_goYears_84 : decode cX7_goYears 84 = .ok (.aload_n 0, 1) := by decide +kernel
theorem dX7_goYears_85 : decode cX7_goYears 85 = .ok (.getfield 35, 3) := by decide +kernel
theorem dX7_goYears_88 : decode cX7_goYears 88 = .ok (.iload_n 1, 1) := by decide +kernel
theorem dX7_goYears_89 : decode cX7_goYears 89 = .ok (.iconst 1, 1) := by decide +kernel
theorem dX7_goYears_90 : decode cX7_goYears 90 = .ok (.iadd, 1) := by decide +kernel
theorem dX7_goYears_91 : decode cX7_goYears 91 = .ok (.iaload, 1) := by decide +kernel
theorem dX7_goYears_92 : decode cX7_goYears 92 = .ok (.istore 4, 2) := by decide +kernel
theorem dX7_goYears_94 : decode cX7_goYears 94 = .ok (.aload_n 0, 1) := by decide +kernel
theorem dX7_goYears_95 : decode cX7_goYears 95 = .ok (.iload 4, 2) := by decide +kernel
theorem dX7_goYears_97 : decode cX7_goYears 97 = .ok (.invokevirtual 89, 3) := by decide +kernel
theorem dX7_goYears_100 : decode cX7_goYears 100 = .ok (.ifCond .eq 37, 3) := by decide +kernel
theorem dX7_goYears_103 : decode cX7_goYears 103 = .ok (.aload_n 0, 1) := by decide +kernel
theorem dX7_goYears_104 : decode cX7_goYears 104 = .ok (.aload_n 0, 1) := by decide +kernel
theorem dX7_goYears_105 : decode cX7_goYears 105 = .ok (.iload_n 3, 1) := by decide +kernel
theorem dX7_goYears_106 : decode cX7_goYears 106 = .ok (.iload 4, 2) := by decide +kernel
theorem dX7_goYears_108 : decode cX7_goYears 108 = .ok (.bipush 65, 2) := by decide +kernel
theorem dX7_goYears_110 : decode cX7_goYears 110 = .ok (.isub, 1) := by decide +kernel
theorem dX7_goYears_111 : decode cX7_goYears 111 = .ok (.invokevirtual 121, 3) := by decide +kernel
theorem dX7_goYears_114 : decode cX7_goYears 114 = .ok (.putfield 114, 3) := by decide +kernel
theorem dX7_goYears_117 : decode cX7_goYears 117 = .ok (.aload_n 0, 1) := by decide +kernel
theorem dX7_goYears_118 : decode cX7_goYears 118 = .ok (.getfield 114, 3) := by decide +kernel
theorem dX7_goYears_121 : decode cX7_goYears 121 = .ok (.ifCond .ne 99, 3) := by decide +kernel
theorem dX7_goYears_124 : decode cX7_goYears 124 = .ok (.aload_n 0, 1) := by decide +kernel
theorem dX7_goYears_125 : decode cX7_goYears 125 = .ok (.iload_n 3, 1) := by decide +kernel
theorem dX7_goYears_126 : decode cX7_goYears 126 = .ok (.iload 4, 2) := by decide +kernel
theorem dX7_goYears_128 : decode cX7_goYears 128 = .ok (.bipush 65, 2) := by decide +kernel
theorem dX7_goYears_130 : decode cX7_goYears 130 = .ok (.isub, 1) := by decide +kernel
theorem dX7_goYears_131 : decode cX7_goYears 131 = .ok (.invokevirtual 125, 3) := by decide +kernel
theorem dX7_goYears_134 : decode cX7_goYears 134 = .ok (.goto 86, 3) := by decide +kernel
theorem dX7_goYears_137 : decode cX7_goYears 137 = .ok (.aload_n 0, 1) := by decide +kernel
theorem dX7_goYears_138 : decode cX7_goYears 138 = .ok (.aload_n 0, 1) := by decide +kernel
theorem dX7_goYears_139 : decode cX7_goYears 139 = .ok (.iload_n 3, 1) := by decide +kernel
theorem dX7_goYears_140 : decode cX7_goYears 140 = .ok (.iload 4, 2) := by decide +kernel
theorem dX7_goYears_142 : decode cX7_goYears 142 = .ok (.invokevirtual 129, 3) := by decide +kernel
theorem dX7_goYears_145 : decode cX7_goYears 145 = .ok (.putfield 114, 3) := by decide +kernel
theorem dX7_goYears_148 : decode cX7_goYears 148 = .ok (.aload_n 0, 1) := by decide +kernel
theorem dX7_goYears_149 : decode cX7_goYears 149 = .ok (.getfield 38, 3) := by decide +kernel
theorem dX7_goYears_152 : decode cX7_goYears 152 = .ok (.iload_n 3, 1) := by decide +kernel
theorem dX7_goYears_153 : decode cX7_goYears 153 = .ok (.aload_n 0, 1) := by decide +kernel
theorem dX7_goYears_154 : decode cX7_goYears 154 = .ok (.getfield 114, 3) := by decide +kernel
theorem dX7_goYears_157 : decode cX7_goYears 157 = .ok (.ifCond .ne 15, 3) := by decide +kernel
theorem dX7_goYears_160 : decode cX7_goYears 160 = .ok (.iload 4, 2) := by decide +kernel
theorem dX7_goYears_162 : decode cX7_goYears 162 = .ok (.bipush 100, 2) := by decide +kernel
theorem dX7_goYears_164 : decode cX7_goYears 164 = .ok (.if_icmp .ne 8, 3) := by decide +kernel
theorem dX7_goYears_167 : decode cX7_goYears 167 = .ok (.bipush (-6), 2) := by decide +kernel
theorem dX7_goYears_169 : decode cX7_goYears 169 = .ok (.goto 9, 3) := by decide +kernel
theorem dX7_goYears_172 : decode cX7_goYears 172 = .ok (.aload_n 0, 1) := by decide +kernel
theorem dX7_goYears_173 : decode cX7_goYears 173 = .ok (.getfield 38, 3) := by decide +kernel
theorem dX7_goYears_176 : decode cX7_goYears 176 = .ok (.iload_n 3, 1) := by decide +kernel
theorem dX7_goYears_177 : decode cX7_goYears 177 = .ok (.iaload, 1) := by decide +kernel
theorem dX7_goYears_178 : decode cX7_goYears 178 = .ok (.iastore, 1) := by decide +kernel
theorem dX7_goYears_179 : decode cX7_goYears 179 = .ok (.aload_n 0, 1) := by decide +kernel
theorem dX7_goYears_180 : decode cX7_goYears 180 = .ok (.getfield 44, 3) := by decide +kernel
theorem dX7_goYears_183 : decode cX7_goYears 183 = .ok (.iload_n 3, 1) := by decide +kernel
theorem dX7_goYears_184 : decode cX7_goYears 184 = .ok (.aload_n 0, 1) := by decide +kernel
theorem dX7_goYears_185 : decode cX7_goYears 185 = .ok (.getfield 114, 3) := by decide +kernel
theorem dX7_goYears_188 : decode cX7_goYears 188 = .ok (.ifCond .gt 10, 3) := by decide +kernel
theorem dX7_goYears_191 : decode cX7_goYears 191 = .ok (.iload 4, 2) := by decide +kernel
theorem dX7_goYears_193 : decode cX7_goYears 193 = .ok (.bipush 100, 2) := by decide +kernel
theorem dX7_goYears_195 : decode cX7_goYears 195 = .ok (.if_icmp .ne 12, 3) := by decide +kernel
theorem dX7_goYears_198 : decode cX7_goYears 198 = .ok (.aload_n 0, 1) := by decide +kernel
theorem dX7_goYears_199 : decode cX7_goYears 199 = .ok (.getfield 44, 3) := by decide +kernel
theorem dX7_goYears_202 : decode cX7_goYears 202 = .ok (.iload_n 3, 1) := by decide +kernel
theorem dX7_goYears_203 : decode cX7_goYears 203 = .ok (.iaload, 1) := by decide +kernel
theorem dX7_goYears_204 : decode cX7_goYears 204 = .ok (.goto 15, 3) := by decide +kernel
theorem dX7_goYears_207 : decode cX7_goYears 207 = .ok (.iload 4, 2) := by decide +kernel
theorem dX7_goYears_209 : decode cX7_goYears 209 = .ok (.bipush 115, 2) := by decide +kernel
theorem dX7_goYears_211 : decode cX7_goYears 211 = .ok (.if_icmp .ne 7, 3) := by decide +kernel
theorem dX7_goYears_214 : decode cX7_goYears 214 = .ok (.iconst 1, 1) := by decide +kernel
theorem dX7_goYears_215 : decode cX7_goYears 215 = .ok (.goto 4, 3) := by decide +kernel
theorem dX7_goYears_218 : decode cX7_goYears 218 = .ok (.iconst 2, 1) := by decide +kernel
theorem dX7_goYears_219 : decode cX7_goYears 219 = .ok (.iastore, 1) := by decide +kernel
theorem dX7_goYears_220 : decode cX7_goYears 220 = .ok (.iinc 1 2, 3) := by decide +kernel
theorem dX7_goYears_223 : decode cX7_goYears 223 = .ok (.aload_n 0, 1) := by decide +kernel
theorem dX7_goYears_224 : decode cX7_goYears 224 = .ok (.getfield 114, 3) := by decide +kernel
theorem dX7_goYears_227 : decode cX7_goYears 227 = .ok (.ifCond .le 8, 3) := by decide +kernel
theorem dX7_goYears_230 : decode cX7_goYears 230 = .ok (.aload_n 0, 1) := by decide +kernel
theorem dX7_goYears_231 : decode cX7_goYears 231 = .ok (.getfield 111, 3) := by decide +kernel
theorem dX7_goYears_234 : decode cX7_goYears 234 = .ok (.ireturn, 1) := by decide +kernel
theorem dX7_goYears_235 : decode cX7_goYears 235 = .ok (.aload_n 0, 1) := by decide +kernel
theorem dX7_goYears_236 : decode cX7_goYears 236 = .ok (.dup, 1) := by decide +kernel
theorem dX7_goYears_237 : decode cX7_goYears 237 = .ok (.getfield 111, 3) := by decide +kernel
theorem dX7_goYears_240 : decode cX7_goYears 240 = .ok (.iconst 1, 1) := by decide +kernel
theorem dX7_goYears_241 : decode cX7_goYears 241 = .ok (.iadd, 1) := by decide +kernel
theorem dX7_goYears_242 : decode cX7_goYears 242 = .ok (.putfield 111, 3) := by decide +kernel
theorem dX7_goYears_245 : decode cX7_goYears 245 = .ok (.goto (-234), 3) := by decide +kernel
theorem dX7_goYears_248 : decode cX7_goYears 248 = .ok (.bipush (-6), 2) := by decide +kernel
theorem dX7_goYears_250 : decode cX7_goYears 250 = .ok (.ireturn, 1) := by decide +kernel
theorem dX7_judge_0 : decode cX7_judge 0 = .ok (.iload_n 1, 1) := by decide +kernel
theorem dX7_judge_1 : decode cX7_judge 1 = .ok (.iconst 0, 1) := by decide +kernel
theorem dX7_judge_2 : decode cX7_judge 2 = .ok (.iconst 1, 1) := by decide +kernel
theorem dX7_judge_3 : decode cX7_judge 3 = .ok (.invokestatic 78, 3) := by decide +kernel
theorem dX7_judge_6 : decode cX7_judge 6 = .ok (.ifCond .ne 6, 3) := by decide +kernel
theorem dX7_judge_9 : decode cX7_judge 9 = .ok (.bipush (-2), 2) := by decide +kernel
theorem dX7_judge_11 : decode cX7_judge 11 = .ok (.ireturn, 1) := by decide +kernel
theorem dX7_judge_12 : decode cX7_judge 12 = .ok (.aload_n 0, 1) := by decide +kernel
theorem dX7_judge_13 : decode cX7_judge 13 = .ok (.invokevirtual 92, 3) := by decide +kernel
theorem dX7_judge_16 : decode cX7_judge 16 = .ok (.ifCond .lt 6, 3) := by decide +kernel
theorem dX7_judge_19 : decode cX7_judge 19 = .ok (.bipush (-5), 2) := by decide +kernel
theorem dX7_judge_21 : decode cX7_judge 21 = .ok (.ireturn, 1) := by decide +kernel
theorem dX7_judge_22 : decode cX7_judge 22 = .ok (.aload_n 0, 1) := by decide +kernel
theorem dX7_judge_23 : decode cX7_judge 23 = .ok (.invokevirtual 132, 3) := by decide +kernel
theorem dX7_judge_26 : decode cX7_judge 26 = .ok (.istore_n 2, 1) := by decide +kernel
theorem dX7_judge_27 : decode cX7_judge 27 = .ok (.iload_n 2, 1) := by decide +kernel
theorem dX7_judge_28 : decode cX7_judge 28 = .ok (.ifCond .lt 7, 3) := by decide +kernel
theorem dX7_judge_31 : decode cX7_judge 31 = .ok (.iload_n 1, 1) := by decide +kernel
theorem dX7_judge_32 : decode cX7_judge 32 = .ok (.ifCond .ne 7, 3) := by decide +kernel
theorem dX7_judge_35 : decode cX7_judge 35 = .ok (.iload_n 2, 1) := by decide +kernel
theorem dX7_judge_36 : decode cX7_judge 36 = .ok (.goto 7, 3) := by decide +kernel
theorem dX7_judge_39 : decode cX7_judge 39 = .ok (.aload_n 0, 1) := by decide +kernel
theorem dX7_judge_40 : decode cX7_judge 40 = .ok (.getfield 114, 3) := by decide +kernel
theorem dX7_judge_43 : decode cX7_judge 43 = .ok (.ireturn, 1) := by decide +kernel
theorem dX7_barOfYears_0 : decode cX7_barOfYears 0 = .ok (.aload_n 0, 1) := by decide +kernel
theorem dX7_barOfYears_1 : decode cX7_barOfYears 1 = .ok (.invokevirtual 92, 3) := by decide +kernel
theorem dX7_barOfYears_4 : decode cX7_barOfYears 4 = .ok (.ifCond .ge 10, 3) := by decide +kernel
theorem dX7_barOfYears_7 : decode cX7_barOfYears 7 = .ok (.aload_n 0, 1) := by decide +kernel
theorem dX7_barOfYears_8 : decode cX7_barOfYears 8 = .ok (.invokevirtual 132, 3) := by decide +kernel
theorem dX7_barOfYears_11 : decode cX7_barOfYears 11 = .ok (.ifCond .lt 8, 3) := by decide +kernel
theorem dX7_barOfYears_14 : decode cX7_barOfYears 14 = .ok (.bipush (-5), 2) := by decide +kernel
theorem dX7_barOfYears_16 : decode cX7_barOfYears 16 = .ok (.goto 4, 3) := by decide +kernel
theorem dX7_barOfYears_19 : decode cX7_barOfYears 19 = .ok (.iconst 0, 1) := by decide +kernel
theorem dX7_barOfYears_20 : decode cX7_barOfYears 20 = .ok (.ireturn, 1) := by decide +kernel
theorem dX7_done_0 : decode cX7_done 0 = .ok (.aload_n 0, 1) := by decide +kernel
theorem dX7_done_1 : decode cX7_done 1 = .ok (.invokevirtual 135, 3) := by decide +kernel
theorem dX7_done_4 : decode cX7_done 4 = .ok (.ifCond .ge 6, 3) := by decide +kernel
theorem dX7_done_7 : decode cX7_done 7 = .ok (.bipush (-5), 2) := by decide +kernel
theorem dX7_done_9 : decode cX7_done 9 = .ok (.ireturn, 1) := by decide +kernel
theorem dX7_done_10 : decode cX7_done 10 = .ok (.aload_n 0, 1) := by decide +kernel
theorem dX7_done_11 : decode cX7_done 11 = .ok (.aload_n 0, 1) := by decide +kernel
theorem dX7_done_12 : decode cX7_done 12 = .ok (.getfield 96, 3) := by decide +kernel
theorem dX7_done_15 : decode cX7_done 15 = .ok (.putfield 66, 3) := by decide +kernel
theorem dX7_done_18 : decode cX7_done 18 = .ok (.aload_n 0, 1) := by decide +kernel
theorem dX7_done_19 : decode cX7_done 19 = .ok (.aload_n 0, 1) := by decide +kernel
theorem dX7_done_20 : decode cX7_done 20 = .ok (.getfield 99, 3) := by decide +kernel
theorem dX7_done_23 : decode cX7_done 23 = .ok (.putfield 69, 3) := by decide +kernel
theorem dX7_done_26 : decode cX7_done 26 = .ok (.aload_n 0, 1) := by decide +kernel
theorem dX7_done_27 : decode cX7_done 27 = .ok (.aload_n 0, 1) := by decide +kernel
theorem dX7_done_28 : decode cX7_done 28 = .ok (.getfield 102, 3) := by decide +kernel
theorem dX7_done_31 : decode cX7_done 31 = .ok (.putfield 72, 3) := by decide +kernel
theorem dX7_done_34 : decode cX7_done 34 = .ok (.iconst 0, 1) := by decide +kernel
theorem dX7_done_35 : decode cX7_done 35 = .ok (.istore_n 1, 1) := by decide +kernel
theorem dX7_done_36 : decode cX7_done 36 = .ok (.iload_n 1, 1) := by decide +kernel
theorem dX7_done_37 : decode cX7_done 37 = .ok (.bipush 6, 2) := by decide +kernel
theorem dX7_done_39 : decode cX7_done 39 = .ok (.if_icmp .ge 45, 3) := by decide +kernel
theorem dX7_done_42 : decode cX7_done 42 = .ok (.aload_n 0, 1) := by decide +kernel
theorem dX7_done_43 : decode cX7_done 43 = .ok (.getfield 16, 3) := by decide +kernel
theorem dX7_done_46 : decode cX7_done 46 = .ok (.iload_n 1, 1) := by decide +kernel
theorem dX7_done_47 : decode cX7_done 47 = .ok (.aload_n 0, 1) := by decide +kernel
theorem dX7_done_48 : decode cX7_done 48 = .ok (.getfield 38, 3) := by decide +kernel
theorem dX7_done_51 : decode cX7_done 51 = .ok (.iload_n 1, 1) := by decide +kernel
theorem dX7_done_52 : decode cX7_done 52 = .ok (.iaload, 1) := by decide +kernel
theorem dX7_done_53 : decode cX7_done 53 = .ok (.iastore, 1) := by decide +kernel
theorem dX7_done_54 : decode cX7_done 54 = .ok (.aload_n 0, 1) := by decide +kernel
theorem dX7_done_55 : decode cX7_done 55 = .ok (.getfield 20, 3) := by decide +kernel
theorem dX7_done_58 : decode cX7_done 58 = .ok (.iload_n 1, 1) := by decide +kernel
theorem dX7_done_59 : decode cX7_done 59 = .ok (.aload_n 0, 1) := by decide +kernel
theorem dX7_done_60 : decode cX7_done 60 = .ok (.getfield 41, 3) := by decide +kernel
theorem dX7_done_63 : decode cX7_done 63 = .ok (.iload_n 1, 1) := by decide +kernel
theorem dX7_done_64 : decode cX7_done 64 = .ok (.iaload, 1) := by decide +kernel
theorem dX7_done_65 : decode cX7_done 65 = .ok (.iastore, 1) := by decide +kernel
theorem dX7_done_66 : decode cX7_done 66 = .ok (.aload_n 0, 1) := by decide +kernel
theorem dX7_done_67 : decode cX7_done 67 = .ok (.getfield 23, 3) := by decide +kernel
theorem dX7_done_70 : decode cX7_done 70 = .ok (.iload_n 1, 1) := by decide +kernel
theorem dX7_done_71 : decode cX7_done 71 = .ok (.aload_n 0, 1) := by decide +kernel
theorem dX7_done_72 : decode cX7_done 72 = .ok (.getfield 44, 3) := by decide +kernel
theorem dX7_done_75 : decode cX7_done 75 = .ok (.iload_n 1, 1) := by decide +kernel
theorem dX7_done_76 : decode cX7_done 76 = .ok (.iaload, 1) := by decide +kernel
theorem dX7_done_77 : decode cX7_done 77 = .ok (.iastore, 1) := by decide +kernel
theorem dX7_done_78 : decode cX7_done 78 = .ok (.iinc 1 1, 3) := by decide +kernel
theorem dX7_done_81 : decode cX7_done 81 = .ok (.goto (-45), 3) := by decide +kernel
theorem dX7_done_84 : decode cX7_done 84 = .ok (.aload_n 0, 1) := by decide +kernel
theorem dX7_done_85 : decode cX7_done 85 = .ok (.iconst 0, 1) := by decide +kernel
theorem dX7_done_86 : decode cX7_done 86 = .ok (.putfield 86, 3) := by decide +kernel
theorem dX7_done_89 : decode cX7_done 89 = .ok (.aload_n 0, 1) := by decide +kernel
theorem dX7_done_90 : decode cX7_done 90 = .ok (.getfield 111, 3) := by decide +kernel
theorem dX7_done_93 : decode cX7_done 93 = .ok (.ireturn, 1) := by decide +kernel
theorem dX7_state_0 : decode cX7_state 0 = .ok (.aload_n 0, 1) := by decide +kernel
theorem dX7_state_1 : decode cX7_state 1 = .ok (.iload_n 1, 1) := by decide +kernel
theorem dX7_state_2 : decode cX7_state 2 = .ok (.invokevirtual 82, 3) := by decide +kernel
theorem dX7_state_5 : decode cX7_state 5 = .ok (.ifCond .ne 5, 3) := by decide +kernel
theorem dX7_state_8 : decode cX7_state 8 = .ok (.iconst (-1), 1) := by decide +kernel
theorem dX7_state_9 : decode cX7_state 9 = .ok (.ireturn, 1) := by decide +kernel
theorem dX7_state_10 : decode cX7_state 10 = .ok (.iload_n 2, 1) := by decide +kernel
theorem dX7_state_11 : decode cX7_state 11 = .ok (.ifCond .ne 12, 3) := by decide +kernel
theorem dX7_state_14 : decode cX7_state 14 = .ok (.aload_n 0, 1) := by decide +kernel
theorem dX7_state_15 : decode cX7_state 15 = .ok (.getfield 16, 3) := by decide +kernel
theorem dX7_state_18 : decode cX7_state 18 = .ok (.iload_n 1, 1) := by decide +kernel
theorem dX7_state_19 : decode cX7_state 19 = .ok (.iaload, 1) := by decide +kernel
theorem dX7_state_20 : decode cX7_state 20 = .ok (.goto 33, 3) := by decide +kernel
theorem dX7_state_23 : decode cX7_state 23 = .ok (.iload_n 2, 1) := by decide +kernel
theorem dX7_state_24 : decode cX7_state 24 = .ok (.iconst 1, 1) := by decide +kernel
theorem dX7_state_25 : decode cX7_state 25 = .ok (.if_icmp .ne 12, 3) := by decide +kernel
theorem dX7_state_28 : decode cX7_state 28 = .ok (.aload_n 0, 1) := by decide +kernel
theorem dX7_state_29 : decode cX7_state 29 = .ok (.getfield 20, 3) := by decide +kernel
theorem dX7_state_32 : decode cX7_state 32 = .ok (.iload_n 1, 1) := by decide +kernel
theorem dX7_state_33 : decode cX7_state 33 = .ok (.iaload, 1) := by decide +kernel
theorem dX7_state_34 : decode cX7_state 34 = .ok (.goto 19, 3) := by decide +kernel
theorem dX7_state_37 : decode cX7_state 37 = .ok (.iload_n 2, 1) := by decide +kernel
theorem dX7_state_38 : decode cX7_state 38 = .ok (.iconst 2, 1) := by decide +kernel
theorem dX7_state_39 : decode cX7_state 39 = .ok (.if_icmp .ne 12, 3) := by decide +kernel
theorem dX7_state_42 : decode cX7_state 42 = .ok (.aload_n 0, 1) := by decide +kernel
theorem dX7_state_43 : decode cX7_state 43 = .ok (.getfield 23, 3) := by decide +kernel
theorem dX7_state_46 : decode cX7_state 46 = .ok (.iload_n 1, 1) := by decide +kernel
theorem dX7_state_47 : decode cX7_state 47 = .ok (.iaload, 1) := by decide +kernel
theorem dX7_state_48 : decode cX7_state 48 = .ok (.goto 5, 3) := by decide +kernel
theorem dX7_state_51 : decode cX7_state 51 = .ok (.bipush (-2), 2) := by decide +kernel
theorem dX7_state_53 : decode cX7_state 53 = .ok (.ireturn, 1) := by decide +kernel
theorem dX7_behind_0 : decode cX7_behind 0 = .ok (.aload_n 0, 1) := by decide +kernel
theorem dX7_behind_1 : decode cX7_behind 1 = .ok (.iload_n 1, 1) := by decide +kernel
theorem dX7_behind_2 : decode cX7_behind 2 = .ok (.invokevirtual 82, 3) := by decide +kernel
theorem dX7_behind_5 : decode cX7_behind 5 = .ok (.ifCond .ne 5, 3) := by decide +kernel
theorem dX7_behind_8 : decode cX7_behind 8 = .ok (.iconst (-1), 1) := by decide +kernel
theorem dX7_behind_9 : decode cX7_behind 9 = .ok (.ireturn, 1) := by decide +kernel
theorem dX7_behind_10 : decode cX7_behind 10 = .ok (.iload_n 2, 1) := by decide +kernel
theorem dX7_behind_11 : decode cX7_behind 11 = .ok (.iconst 0, 1) := by decide +kernel
theorem dX7_behind_12 : decode cX7_behind 12 = .ok (.iconst 2, 1) := by decide +kernel
theorem dX7_behind_13 : decode cX7_behind 13 = .ok (.invokestatic 78, 3) := by decide +kernel
theorem dX7_behind_16 : decode cX7_behind 16 = .ok (.ifCond .ne 6, 3) := by decide +kernel
theorem dX7_behind_19 : decode cX7_behind 19 = .ok (.bipush (-2), 2) := by decide +kernel
theorem dX7_behind_21 : decode cX7_behind 21 = .ok (.ireturn, 1) := by decide +kernel
theorem dX7_behind_22 : decode cX7_behind 22 = .ok (.aload_n 0, 1) := by decide +kernel
theorem dX7_behind_23 : decode cX7_behind 23 = .ok (.invokevirtual 135, 3) := by decide +kernel
theorem dX7_behind_26 : decode cX7_behind 26 = .ok (.ifCond .ge 6, 3) := by decide +kernel
theorem dX7_behind_29 : decode cX7_behind 29 = .ok (.bipush (-5), 2) := by decide +kernel
theorem dX7_behind_31 : decode cX7_behind 31 = .ok (.ireturn, 1) := by decide +kernel
theorem dX7_behind_32 : decode cX7_behind 32 = .ok (.iload_n 2, 1) := by decide +kernel
theorem dX7_behind_33 : decode cX7_behind 33 = .ok (.ifCond .ne 12, 3) := by decide +kernel
theorem dX7_behind_36 : decode cX7_behind 36 = .ok (.aload_n 0, 1) := by decide +kernel
theorem dX7_behind_37 : decode cX7_behind 37 = .ok (.getfield 38, 3) := by decide +kernel
theorem dX7_behind_40 : decode cX7_behind 40 = .ok (.iload_n 1, 1) := by decide +kernel
theorem dX7_behind_41 : decode cX7_behind 41 = .ok (.iaload, 1) := by decide +kernel
theorem dX7_behind_42 : decode cX7_behind 42 = .ok (.goto 23, 3) := by decide +kernel
theorem dX7_behind_45 : decode cX7_behind 45 = .ok (.iload_n 2, 1) := by decide +kernel
theorem dX7_behind_46 : decode cX7_behind 46 = .ok (.iconst 1, 1) := by decide +kernel
theorem dX7_behind_47 : decode cX7_behind 47 = .ok (.if_icmp .ne 12, 3) := by decide +kernel
theorem dX7_behind_50 : decode cX7_behind 50 = .ok (.aload_n 0, 1) := by decide +kernel
theorem dX7_behind_51 : decode cX7_behind 51 = .ok (.getfield 41, 3) := by decide +kernel
theorem dX7_behind_54 : decode cX7_behind 54 = .ok (.iload_n 1, 1) := by decide +kernel
theorem dX7_behind_55 : decode cX7_behind 55 = .ok (.iaload, 1) := by decide +kernel
theorem dX7_behind_56 : decode cX7_behind 56 = .ok (.goto 9, 3) := by decide +kernel
theorem dX7_behind_59 : decode cX7_behind 59 = .ok (.aload_n 0, 1) := by decide +kernel
theorem dX7_behind_60 : decode cX7_behind 60 = .ok (.getfield 47, 3) := by decide +kernel
theorem dX7_behind_63 : decode cX7_behind 63 = .ok (.iload_n 1, 1) := by decide +kernel
theorem dX7_behind_64 : decode cX7_behind 64 = .ok (.iaload, 1) := by decide +kernel
theorem dX7_behind_65 : decode cX7_behind 65 = .ok (.ireturn, 1) := by decide +kernel
theorem dX7_day_0 : decode cX7_day 0 = .ok (.aload_n 0, 1) := by decide +kernel
theorem dX7_day_1 : decode cX7_day 1 = .ok (.invokevirtual 135, 3) := by decide +kernel
theorem dX7_day_4 : decode cX7_day 4 = .ok (.ifCond .ge 8, 3) := by decide +kernel
theorem dX7_day_7 : decode cX7_day 7 = .ok (.bipush (-5), 2) := by decide +kernel
theorem dX7_day_9 : decode cX7_day 9 = .ok (.goto 7, 3) := by decide +kernel
theorem dX7_day_12 : decode cX7_day 12 = .ok (.aload_n 0, 1) := by decide +kernel
theorem dX7_day_13 : decode cX7_day 13 = .ok (.getfield 96, 3) := by decide +kernel
theorem dX7_day_16 : decode cX7_day 16 = .ok (.ireturn, 1) := by decide +kernel
theorem dX7_whereBehind_0 : decode cX7_whereBehind 0 = .ok (.aload_n 0, 1) := by decide +kernel
theorem dX7_whereBehind_1 : decode cX7_whereBehind 1 = .ok (.getfield 16, 3) := by decide +kernel
theorem dX7_whereBehind_4 : decode cX7_whereBehind 4 = .ok (.iload_n 1, 1) := by decide +kernel
theorem dX7_whereBehind_5 : decode cX7_whereBehind 5 = .ok (.iaload, 1) := by decide +kernel
theorem dX7_whereBehind_6 : decode cX7_whereBehind 6 = .ok (.ifCond .ge 6, 3) := by decide +kernel
theorem dX7_whereBehind_9 : decode cX7_whereBehind 9 = .ok (.bipush (-6), 2) := by decide +kernel
theorem dX7_whereBehind_11 : decode cX7_whereBehind 11 = .ok (.ireturn, 1) := by decide +kernel
theorem dX7_whereBehind_12 : decode cX7_whereBehind 12 = .ok (.aload_n 0, 1) := by decide +kernel
theorem dX7_whereBehind_13 : decode cX7_whereBehind 13 = .ok (.getfield 23, 3) := by decide +kernel
theorem dX7_whereBehind_16 : decode cX7_whereBehind 16 = .ok (.iload_n 1, 1) := by decide +kernel
theorem dX7_whereBehind_17 : decode cX7_whereBehind 17 = .ok (.iaload, 1) := by decide +kernel
theorem dX7_whereBehind_18 : decode cX7_whereBehind 18 = .ok (.iconst 2, 1) := by decide +kernel
theorem dX7_whereBehind_19 : decode cX7_whereBehind 19 = .ok (.if_icmp .ne 7, 3) := by decide +kernel
theorem dX7_whereBehind_22 : decode cX7_whereBehind 22 = .ok (.iconst 0, 1) := by decide +kernel
theorem dX7_whereBehind_23 : decode cX7_whereBehind 23 = .ok (.goto 24, 3) := by decide +kernel
theorem dX7_whereBehind_26 : decode cX7_whereBehind 26 = .ok (.aload_n 0, 1) := by decide +kernel
theorem dX7_whereBehind_27 : decode cX7_whereBehind 27 = .ok (.getfield 23, 3) := by decide +kernel
theorem dX7_whereBehind_30 : decode cX7_whereBehind 30 = .ok (.iload_n 1, 1) := by decide +kernel
theorem dX7_whereBehind_31 : decode cX7_whereBehind 31 = .ok (.iaload, 1) := by decide +kernel
theorem dX7_whereBehind_32 : decode cX7_whereBehind 32 = .ok (.iconst 1, 1) := by decide +kernel
theorem dX7_whereBehind_33 : decode cX7_whereBehind 33 = .ok (.if_icmp .ne 13, 3) := by decide +kernel
theorem dX7_whereBehind_36 : decode cX7_whereBehind 36 = .ok (.iload_n 2, 1) := by decide +kernel
theorem dX7_whereBehind_37 : decode cX7_whereBehind 37 = .ok (.ifCond .le 9, 3) := by decide +kernel
theorem dX7_whereBehind_40 : decode cX7_whereBehind 40 = .ok (.iload_n 2, 1) := by decide +kernel
theorem dX7_whereBehind_41 : decode cX7_whereBehind 41 = .ok (.iconst 1, 1) := by decide +kernel
theorem dX7_whereBehind_42 : decode cX7_whereBehind 42 = .ok (.isub, 1) := by decide +kernel
theorem dX7_whereBehind_43 : decode cX7_whereBehind 43 = .ok (.goto 4, 3) := by decide +kernel
theorem dX7_whereBehind_46 : decode cX7_whereBehind 46 = .ok (.iload_n 2, 1) := by decide +kernel
theorem dX7_whereBehind_47 : decode cX7_whereBehind 47 = .ok (.istore_n 3, 1) := by decide +kernel
theorem dX7_whereBehind_48 : decode cX7_whereBehind 48 = .ok (.aload_n 0, 1) := by decide +kernel
theorem dX7_whereBehind_49 : decode cX7_whereBehind 49 = .ok (.getfield 16, 3) := by decide +kernel
theorem dX7_whereBehind_52 : decode cX7_whereBehind 52 = .ok (.iload_n 1, 1) := by decide +kernel
theorem dX7_whereBehind_53 : decode cX7_whereBehind 53 = .ok (.iaload, 1) := by decide +kernel
theorem dX7_whereBehind_54 : decode cX7_whereBehind 54 = .ok (.iload_n 1, 1) := by decide +kernel
theorem dX7_whereBehind_55 : decode cX7_whereBehind 55 = .ok (.isub, 1) := by decide +kernel
theorem dX7_whereBehind_56 : decode cX7_whereBehind 56 = .ok (.aload_n 0, 1) := by decide +kernel
theorem dX7_whereBehind_57 : decode cX7_whereBehind 57 = .ok (.getfield 7, 3) := by decide +kernel
theorem dX7_whereBehind_60 : decode cX7_whereBehind 60 = .ok (.iadd, 1) := by decide +kernel
theorem dX7_whereBehind_61 : decode cX7_whereBehind 61 = .ok (.aload_n 0, 1) := by decide +kernel
theorem dX7_whereBehind_62 : decode cX7_whereBehind 62 = .ok (.getfield 7, 3) := by decide +kernel
theorem dX7_whereBehind_65 : decode cX7_whereBehind 65 = .ok (.irem, 1) := by decide +kernel
theorem dX7_whereBehind_66 : decode cX7_whereBehind 66 = .ok (.istore 4, 2) := by decide +kernel
theorem dX7_whereBehind_68 : decode cX7_whereBehind 68 = .ok (.iload_n 1, 1) := by decide +kernel
theorem dX7_whereBehind_69 : decode cX7_whereBehind 69 = .ok (.iconst 1, 1) := by decide +kernel
theorem dX7_whereBehind_70 : decode cX7_whereBehind 70 = .ok (.iadd, 1) := by decide +kernel
theorem dX7_whereBehind_71 : decode cX7_whereBehind 71 = .ok (.iload 4, 2) := by decide +kernel
theorem dX7_whereBehind_73 : decode cX7_whereBehind 73 = .ok (.iconst 1, 1) := by decide +kernel
theorem dX7_whereBehind_74 : decode cX7_whereBehind 74 = .ok (.isub, 1) := by decide +kernel
theorem dX7_whereBehind_75 : decode cX7_whereBehind 75 = .ok (.iload_n 3, 1) := by decide +kernel
theorem dX7_whereBehind_76 : decode cX7_whereBehind 76 = .ok (.iadd, 1) := by decide +kernel
theorem dX7_whereBehind_77 : decode cX7_whereBehind 77 = .ok (.aload_n 0, 1) := by decide +kernel
theorem dX7_whereBehind_78 : decode cX7_whereBehind 78 = .ok (.getfield 7, 3) := by decide +kernel
theorem dX7_whereBehind_81 : decode cX7_whereBehind 81 = .ok (.iconst 1, 1) := by decide +kernel
theorem dX7_whereBehind_82 : decode cX7_whereBehind 82 = .ok (.isub, 1) := by decide +kernel
theorem dX7_whereBehind_83 : decode cX7_whereBehind 83 = .ok (.irem, 1) := by decide +kernel
theorem dX7_whereBehind_84 : decode cX7_whereBehind 84 = .ok (.iadd, 1) := by decide +kernel
theorem dX7_whereBehind_85 : decode cX7_whereBehind 85 = .ok (.aload_n 0, 1) := by decide +kernel
theorem dX7_whereBehind_86 : decode cX7_whereBehind 86 = .ok (.getfield 7, 3) := by decide +kernel
theorem dX7_whereBehind_89 : decode cX7_whereBehind 89 = .ok (.irem, 1) := by decide +kernel
theorem dX7_whereBehind_90 : decode cX7_whereBehind 90 = .ok (.ireturn, 1) := by decide +kernel
theorem dX7_equinoxes_0 : decode cX7_equinoxes 0 = .ok (.aload_n 0, 1) := by decide +kernel
theorem dX7_equinoxes_1 : decode cX7_equinoxes 1 = .ok (.getfield 72, 3) := by decide +kernel
theorem dX7_equinoxes_4 : decode cX7_equinoxes 4 = .ok (.iload_n 1, 1) := by decide +kernel
theorem dX7_equinoxes_5 : decode cX7_equinoxes 5 = .ok (.iadd, 1) := by decide +kernel
theorem dX7_equinoxes_6 : decode cX7_equinoxes 6 = .ok (.aload_n 0, 1) := by decide +kernel
theorem dX7_equinoxes_7 : decode cX7_equinoxes 7 = .ok (.getfield 13, 3) := by decide +kernel
theorem dX7_equinoxes_10 : decode cX7_equinoxes 10 = .ok (.idiv, 1) := by decide +kernel
theorem dX7_equinoxes_11 : decode cX7_equinoxes 11 = .ok (.ireturn, 1) := by decide +kernel
theorem dX7_firstDay_0 : decode cX7_firstDay 0 = .ok (.iload_n 1, 1) := by decide +kernel
theorem dX7_firstDay_1 : decode cX7_firstDay 1 = .ok (.ifCond .ne 7, 3) := by decide +kernel
theorem dX7_firstDay_4 : decode cX7_firstDay 4 = .ok (.iconst 0, 1) := by decide +kernel
theorem dX7_firstDay_5 : decode cX7_firstDay 5 = .ok (.goto 14, 3) := by decide +kernel
theorem dX7_firstDay_8 : decode cX7_firstDay 8 = .ok (.iload_n 1, 1) := by decide +kernel
theorem dX7_firstDay_9 : decode cX7_firstDay 9 = .ok (.aload_n 0, 1) := by decide +kernel
theorem dX7_firstDay_10 : decode cX7_firstDay 10 = .ok (.getfield 13, 3) := by decide +kernel
theorem dX7_firstDay_13 : decode cX7_firstDay 13 = .ok (.imul, 1) := by decide +kernel
theorem dX7_firstDay_14 : decode cX7_firstDay 14 = .ok (.aload_n 0, 1) := by decide +kernel
theorem dX7_firstDay_15 : decode cX7_firstDay 15 = .ok (.getfield 72, 3) := by decide +kernel
theorem dX7_firstDay_18 : decode cX7_firstDay 18 = .ok (.isub, 1) := by decide +kernel
theorem dX7_firstDay_19 : decode cX7_firstDay 19 = .ok (.ireturn, 1) := by decide +kernel
theorem dX7_where_0 : decode cX7_where 0 = .ok (.aload_n 0, 1) := by decide +kernel
theorem dX7_where_1 : decode cX7_where 1 = .ok (.iload_n 1, 1) := by decide +kernel
theorem dX7_where_2 : decode cX7_where 2 = .ok (.invokevirtual 82, 3) := by decide +kernel
theorem dX7_where_5 : decode cX7_where 5 = .ok (.ifCond .ne 5, 3) := by decide +kernel
theorem dX7_where_8 : decode cX7_where 8 = .ok (.iconst (-1), 1) := by decide +kernel
theorem dX7_where_9 : decode cX7_where 9 = .ok (.ireturn, 1) := by decide +kernel
theorem dX7_where_10 : decode cX7_where 10 = .ok (.iload_n 2, 1) := by decide +kernel
theorem dX7_where_11 : decode cX7_where 11 = .ok (.iconst 0, 1) := by decide +kernel
theorem dX7_where_12 : decode cX7_where 12 = .ok (.sipush 9999, 3) := by decide +kernel
theorem dX7_where_15 : decode cX7_where 15 = .ok (.invokestatic 78, 3) := by decide +kernel
theorem dX7_where_18 : decode cX7_where 18 = .ok (.ifCond .eq 16, 3) := by decide +kernel
theorem dX7_where_21 : decode cX7_where 21 = .ok (.aload_n 0, 1) := by decide +kernel
theorem dX7_where_22 : decode cX7_where 22 = .ok (.iload_n 1, 1) := by decide +kernel
theorem dX7_where_23 : decode cX7_where 23 = .ok (.aload_n 0, 1) := by decide +kernel
theorem dX7_where_24 : decode cX7_where 24 = .ok (.iload_n 2, 1) := by decide +kernel
theorem dX7_where_25 : decode cX7_where 25 = .ok (.invokevirtual 138, 3) := by decide +kernel
theorem dX7_where_28 : decode cX7_where 28 = .ok (.invokevirtual 142, 3) := by decide +kernel
theorem dX7_where_31 : decode cX7_where 31 = .ok (.goto 5, 3) := by decide +kernel
theorem dX7_where_34 : decode cX7_where 34 = .ok (.bipush (-2), 2) := by decide +kernel
theorem dX7_where_36 : decode cX7_where 36 = .ok (.ireturn, 1) := by decide +kernel
theorem dX7_who_0 : decode cX7_who 0 = .ok (.aload_n 0, 1) := by decide +kernel
theorem dX7_who_1 : decode cX7_who 1 = .ok (.iload_n 1, 1) := by decide +kernel
theorem dX7_who_2 : decode cX7_who 2 = .ok (.invokevirtual 82, 3) := by decide +kernel
theorem dX7_who_5 : decode cX7_who 5 = .ok (.ifCond .ne 5, 3) := by decide +kernel
theorem dX7_who_8 : decode cX7_who 8 = .ok (.iconst (-1), 1) := by decide +kernel
theorem dX7_who_9 : decode cX7_who 9 = .ok (.ireturn, 1) := by decide +kernel
theorem dX7_who_10 : decode cX7_who 10 = .ok (.iload_n 2, 1) := by decide +kernel
theorem dX7_who_11 : decode cX7_who 11 = .ok (.iconst 0, 1) := by decide +kernel
theorem dX7_who_12 : decode cX7_who 12 = .ok (.sipush 9999, 3) := by decide +kernel
theorem dX7_who_15 : decode cX7_who 15 = .ok (.invokestatic 78, 3) := by decide +kernel
theorem dX7_who_18 : decode cX7_who 18 = .ok (.ifCond .ne 6, 3) := by decide +kernel
theorem dX7_who_21 : decode cX7_who 21 = .ok (.bipush (-2), 2) := by decide +kernel
theorem dX7_who_23 : decode cX7_who 23 = .ok (.ireturn, 1) := by decide +kernel
theorem dX7_who_24 : decode cX7_who 24 = .ok (.iconst 0, 1) := by decide +kernel
theorem dX7_who_25 : decode cX7_who 25 = .ok (.istore_n 3, 1) := by decide +kernel
theorem dX7_who_26 : decode cX7_who 26 = .ok (.iconst 0, 1) := by decide +kernel
theorem dX7_who_27 : decode cX7_who 27 = .ok (.istore 4, 2) := by decide +kernel
theorem dX7_who_29 : decode cX7_who 29 = .ok (.iload 4, 2) := by decide +kernel
theorem dX7_who_31 : decode cX7_who 31 = .ok (.aload_n 0, 1) := by decide +kernel
theorem dX7_who_32 : decode cX7_who 32 = .ok (.getfield 7, 3) := by decide +kernel
theorem dX7_who_35 : decode cX7_who 35 = .ok (.if_icmp .ge 35, 3) := by decide +kernel
theorem dX7_who_38 : decode cX7_who 38 = .ok (.iload_n 3, 1) := by decide +kernel
theorem dX7_who_39 : decode cX7_who 39 = .ok (.aload_n 0, 1) := by decide +kernel
theorem dX7_who_40 : decode cX7_who 40 = .ok (.iload 4, 2) := by decide +kernel
theorem dX7_who_42 : decode cX7_who 42 = .ok (.aload_n 0, 1) := by decide +kernel
theorem dX7_who_43 : decode cX7_who 43 = .ok (.iload_n 2, 1) := by decide +kernel
theorem dX7_who_44 : decode cX7_who 44 = .ok (.invokevirtual 138, 3) := by decide +kernel
theorem dX7_who_47 : decode cX7_who 47 = .ok (.invokevirtual 142, 3) := by decide +kernel
theorem dX7_who_50 : decode cX7_who 50 = .ok (.iload_n 1, 1) := by decide +kernel
theorem dX7_who_51 : decode cX7_who 51 = .ok (.if_icmp .ne 10, 3) := by decide +kernel
theorem dX7_who_54 : decode cX7_who 54 = .ok (.iconst 1, 1) := by decide +kernel
theorem dX7_who_55 : decode cX7_who 55 = .ok (.iload 4, 2) := by decide +kernel
theorem dX7_who_57 : decode cX7_who 57 = .ok (.ishl, 1) := by decide +kernel
theorem dX7_who_58 : decode cX7_who 58 = .ok (.goto 4, 3) := by decide +kernel
theorem dX7_who_61 : decode cX7_who 61 = .ok (.iconst 0, 1) := by decide +kernel
theorem dX7_who_62 : decode cX7_who 62 = .ok (.ior, 1) := by decide +kernel
theorem dX7_who_63 : decode cX7_who 63 = .ok (.istore_n 3, 1) := by decide +kernel
theorem dX7_who_64 : decode cX7_who 64 = .ok (.iinc 4 1, 3) := by decide +kernel
theorem dX7_who_67 : decode cX7_who 67 = .ok (.goto (-38), 3) := by decide +kernel
theorem dX7_who_70 : decode cX7_who 70 = .ok (.iload_n 3, 1) := by decide +kernel
theorem dX7_who_71 : decode cX7_who 71 = .ok (.ireturn, 1) := by decide +kernel
theorem dX7_areIn_0 : decode cX7_areIn 0 = .ok (.aload_n 0, 1) := by decide +kernel
theorem dX7_areIn_1 : decode cX7_areIn 1 = .ok (.getfield 16, 3) := by decide +kernel
theorem dX7_areIn_4 : decode cX7_areIn 4 = .ok (.iload_n 1, 1) := by decide +kernel
theorem dX7_areIn_5 : decode cX7_areIn 5 = .ok (.iaload, 1) := by decide +kernel
theorem dX7_areIn_6 : decode cX7_areIn 6 = .ok (.ifCond .lt 31, 3) := by decide +kernel
theorem dX7_areIn_9 : decode cX7_areIn 9 = .ok (.aload_n 0, 1) := by decide +kernel
theorem dX7_areIn_10 : decode cX7_areIn 10 = .ok (.getfield 16, 3) := by decide +kernel
theorem dX7_areIn_13 : decode cX7_areIn 13 = .ok (.iload_n 2, 1) := by decide +kernel
theorem dX7_areIn_14 : decode cX7_areIn 14 = .ok (.iaload, 1) := by decide +kernel
theorem dX7_areIn_15 : decode cX7_areIn 15 = .ok (.ifCond .lt 22, 3) := by decide +kernel
theorem dX7_areIn_18 : decode cX7_areIn 18 = .ok (.aload_n 0, 1) := by decide +kernel
theorem dX7_areIn_19 : decode cX7_areIn 19 = .ok (.iload_n 1, 1) := by decide +kernel
theorem dX7_areIn_20 : decode cX7_areIn 20 = .ok (.iload_n 3, 1) := by decide +kernel
theorem dX7_areIn_21 : decode cX7_areIn 21 = .ok (.invokevirtual 142, 3) := by decide +kernel
theorem dX7_areIn_24 : decode cX7_areIn 24 = .ok (.aload_n 0, 1) := by decide +kernel
theorem dX7_areIn_25 : decode cX7_areIn 25 = .ok (.iload_n 2, 1) := by decide +kernel
theorem dX7_areIn_26 : decode cX7_areIn 26 = .ok (.iload_n 3, 1) := by decide +kernel
theorem dX7_areIn_27 : decode cX7_areIn 27 = .ok (.invokevirtual 142, 3) := by decide +kernel
theorem dX7_areIn_30 : decode cX7_areIn 30 = .ok (.if_icmp .ne 7, 3) := by decide +kernel
theorem dX7_areIn_33 : decode cX7_areIn 33 = .ok (.iconst 1, 1) := by decide +kernel
theorem dX7_areIn_34 : decode cX7_areIn 34 = .ok (.goto 4, 3) := by decide +kernel
theorem dX7_areIn_37 : decode cX7_areIn 37 = .ok (.iconst 0, 1) := by decide +kernel
theorem dX7_areIn_38 : decode cX7_areIn 38 = .ok (.ireturn, 1) := by decide +kernel
theorem dX7_meet_0 : decode cX7_meet 0 = .ok (.aload_n 0, 1) := by decide +kernel
theorem dX7_meet_1 : decode cX7_meet 1 = .ok (.iload_n 1, 1) := by decide +kernel
theorem dX7_meet_2 : decode cX7_meet 2 = .ok (.iload_n 2, 1) := by decide +kernel
theorem dX7_meet_3 : decode cX7_meet 3 = .ok (.invokevirtual 145, 3) := by decide +kernel
theorem dX7_meet_6 : decode cX7_meet 6 = .ok (.ifCond .ne 5, 3) := by decide +kernel
theorem dX7_meet_9 : decode cX7_meet 9 = .ok (.iconst (-1), 1) := by decide +kernel
theorem dX7_meet_10 : decode cX7_meet 10 = .ok (.ireturn, 1) := by decide +kernel
theorem dX7_meet_11 : decode cX7_meet 11 = .ok (.iconst 0, 1) := by decide +kernel
theorem dX7_meet_12 : decode cX7_meet 12 = .ok (.istore_n 3, 1) := by decide +kernel
theorem dX7_meet_13 : decode cX7_meet 13 = .ok (.iload_n 3, 1) := by decide +kernel
theorem dX7_meet_14 : decode cX7_meet 14 = .ok (.bipush 40, 2) := by decide +kernel
theorem dX7_meet_16 : decode cX7_meet 16 = .ok (.if_icmp .ge 25, 3) := by decide +kernel
theorem dX7_meet_19 : decode cX7_meet 19 = .ok (.aload_n 0, 1) := by decide +kernel
theorem dX7_meet_20 : decode cX7_meet 20 = .ok (.iload_n 1, 1) := by decide +kernel
theorem dX7_meet_21 : decode cX7_meet 21 = .ok (.iload_n 2, 1) := by decide +kernel
theorem dX7_meet_22 : decode cX7_meet 22 = .ok (.iload_n 3, 1) := by decide +kernel
theorem dX7_meet_23 : decode cX7_meet 23 = .ok (.invokevirtual 149, 3) := by decide +kernel
theorem dX7_meet_26 : decode cX7_meet 26 = .ok (.ifCond .eq 9, 3) := by decide +kernel
theorem dX7_meet_29 : decode cX7_meet 29 = .ok (.aload_n 0, 1) := by decide +kernel
theorem dX7_meet_30 : decode cX7_meet 30 = .ok (.iload_n 3, 1) := by decide +kernel
theorem dX7_meet_31 : decode cX7_meet 31 = .ok (.invokevirtual 152, 3) := by decide +kernel
theorem dX7_meet_34 : decode cX7_meet 34 = .ok (.ireturn, 1) := by decide +kernel
theorem dX7_meet_35 : decode cX7_meet 35 = .ok (.iinc 3 1, 3) := by decide +kernel
theorem dX7_meet_38 : decode cX7_meet 38 = .ok (.goto (-25), 3) := by decide +kernel
theorem dX7_meet_41 : decode cX7_meet 41 = .ok (.bipush (-6), 2) := by decide +kernel
theorem dX7_meet_43 : decode cX7_meet 43 = .ok (.ireturn, 1) := by decide +kernel
theorem dX7_together_0 : decode cX7_together 0 = .ok (.aload_n 0, 1) := by decide +kernel
theorem dX7_together_1 : decode cX7_together 1 = .ok (.iload_n 1, 1) := by decide +kernel
theorem dX7_together_2 : decode cX7_together 2 = .ok (.iload_n 2, 1) := by decide +kernel
theorem dX7_together_3 : decode cX7_together 3 = .ok (.invokevirtual 145, 3) := by decide +kernel
theorem dX7_together_6 : decode cX7_together 6 = .ok (.ifCond .ne 5, 3) := by decide +kernel
theorem dX7_together_9 : decode cX7_together 9 = .ok (.iconst (-1), 1) := by decide +kernel
theorem dX7_together_10 : decode cX7_together 10 = .ok (.ireturn, 1) := by decide +kernel
theorem dX7_together_11 : decode cX7_together 11 = .ok (.iload_n 3, 1) := by decide +kernel
theorem dX7_together_12 : decode cX7_together 12 = .ok (.iconst 0, 1) := by decide +kernel
theorem dX7_together_13 : decode cX7_together 13 = .ok (.sipush 9999, 3) := by decide +kernel
theorem dX7_together_16 : decode cX7_together 16 = .ok (.invokestatic 78, 3) := by decide +kernel
theorem dX7_together_19 : decode cX7_together 19 = .ok (.ifCond .ne 6, 3) := by decide +kernel
theorem dX7_together_22 : decode cX7_together 22 = .ok (.bipush (-2), 2) := by decide +kernel
theorem dX7_together_24 : decode cX7_together 24 = .ok (.ireturn, 1) := by decide +kernel
theorem dX7_together_25 : decode cX7_together 25 = .ok (.iconst 0, 1) := by decide +kernel
theorem dX7_together_26 : decode cX7_together 26 = .ok (.istore 4, 2) := by decide +kernel
theorem dX7_together_28 : decode cX7_together 28 = .ok (.iconst 0, 1) := by decide +kernel
theorem dX7_together_29 : decode cX7_together 29 = .ok (.istore 5, 2) := by decide +kernel
theorem dX7_together_31 : decode cX7_together 31 = .ok (.iload 5, 2) := by decide +kernel
theorem dX7_together_33 : decode cX7_together 33 = .ok (.iload_n 3, 1) := by decide +kernel
theorem dX7_together_34 : decode cX7_together 34 = .ok (.if_icmp .ge 34, 3) := by decide +kernel
theorem dX7_together_37 : decode cX7_together 37 = .ok (.iload 4, 2) := by decide +kernel
theorem dX7_together_39 : decode cX7_together 39 = .ok (.aload_n 0, 1) := by decide +kernel
theorem dX7_together_40 : decode cX7_together 40 = .ok (.iload_n 1, 1) := by decide +kernel
theorem dX7_together_41 : decode cX7_together 41 = .ok (.iload_n 2, 1) := by decide +kernel
theorem dX7_together_42 : decode cX7_together 42 = .ok (.aload_n 0, 1) := by decide +kernel
theorem dX7_together_43 : decode cX7_together 43 = .ok (.iload 5, 2) := by decide +kernel
theorem dX7_together_45 : decode cX7_together 45 = .ok (.invokevirtual 138, 3) := by decide +kernel
theorem dX7_together_48 : decode cX7_together 48 = .ok (.invokevirtual 149, 3) := by decide +kernel
theorem dX7_together_51 : decode cX7_together 51 = .ok (.ifCond .eq 7, 3) := by decide +kernel
theorem dX7_together_54 : decode cX7_together 54 = .ok (.iconst 1, 1) := by decide +kernel
theorem dX7_together_55 : decode cX7_together 55 = .ok (.goto 4, 3) := by decide +kernel
theorem dX7_together_58 : decode cX7_together 58 = .ok (.iconst 0, 1) := by decide +kernel
theorem dX7_together_59 : decode cX7_together 59 = .ok (.iadd, 1) := by decide +kernel
theorem dX7_together_60 : decode cX7_together 60 = .ok (.istore 4, 2) := by decide +kernel
theorem dX7_together_62 : decode cX7_together 62 = .ok (.iinc 5 1, 3) := by decide +kernel
theorem dX7_together_65 : decode cX7_together 65 = .ok (.goto (-34), 3) := by decide +kernel
theorem dX7_together_68 : decode cX7_together 68 = .ok (.iload 4, 2) := by decide +kernel
theorem dX7_together_70 : decode cX7_together 70 = .ok (.ireturn, 1) := by decide +kernel
theorem dX7_isThere_0 : decode cX7_isThere 0 = .ok (.iconst 0, 1) := by decide +kernel
theorem dX7_isThere_1 : decode cX7_isThere 1 = .ok (.istore 5, 2) := by decide +kernel
theorem dX7_isThere_3 : decode cX7_isThere 3 = .ok (.aload_n 0, 1) := by decide +kernel
theorem dX7_isThere_4 : decode cX7_isThere 4 = .ok (.iload_n 3, 1) := by decide +kernel
theorem dX7_isThere_5 : decode cX7_isThere 5 = .ok (.invokevirtual 138, 3) := by decide +kernel
theorem dX7_isThere_8 : decode cX7_isThere 8 = .ok (.istore 6, 2) := by decide +kernel
theorem dX7_isThere_10 : decode cX7_isThere 10 = .ok (.iload 6, 2) := by decide +kernel
theorem dX7_isThere_12 : decode cX7_isThere 12 = .ok (.aload_n 0, 1) := by decide +kernel
theorem dX7_isThere_13 : decode cX7_isThere 13 = .ok (.iload_n 3, 1) := by decide +kernel
theorem dX7_isThere_14 : decode cX7_isThere 14 = .ok (.iload 4, 2) := by decide +kernel
theorem dX7_isThere_16 : decode cX7_isThere 16 = .ok (.iadd, 1) := by decide +kernel
theorem dX7_isThere_17 : decode cX7_isThere 17 = .ok (.iconst 1, 1) := by decide +kernel
theorem dX7_isThere_18 : decode cX7_isThere 18 = .ok (.isub, 1) := by decide +kernel
theorem dX7_isThere_19 : decode cX7_isThere 19 = .ok (.invokevirtual 138, 3) := by decide +kernel
theorem dX7_isThere_22 : decode cX7_isThere 22 = .ok (.if_icmp .gt 32, 3) := by decide +kernel
theorem dX7_isThere_25 : decode cX7_isThere 25 = .ok (.iload 5, 2) := by decide +kernel
theorem dX7_isThere_27 : decode cX7_isThere 27 = .ok (.ifCond .ne 27, 3) := by decide +kernel
theorem dX7_isThere_30 : decode cX7_isThere 30 = .ok (.aload_n 0, 1) := by decide +kernel
theorem dX7_isThere_31 : decode cX7_isThere 31 = .ok (.iload_n 1, 1) := by decide +kernel
theorem dX7_isThere_32 : decode cX7_isThere 32 = .ok (.iload 6, 2) := by decide +kernel
theorem dX7_isThere_34 : decode cX7_isThere 34 = .ok (.invokevirtual 142, 3) := by decide +kernel
theorem dX7_isThere_37 : decode cX7_isThere 37 = .ok (.iload_n 2, 1) := by decide +kernel
theorem dX7_isThere_38 : decode cX7_isThere 38 = .ok (.if_icmp .ne 7, 3) := by decide +kernel
theorem dX7_isThere_41 : decode cX7_isThere 41 = .ok (.iconst 1, 1) := by decide +kernel
theorem dX7_isThere_42 : decode cX7_isThere 42 = .ok (.goto 4, 3) := by decide +kernel
theorem dX7_isThere_45 : decode cX7_isThere 45 = .ok (.iconst 0, 1) := by decide +kernel
theorem dX7_isThere_46 : decode cX7_isThere 46 = .ok (.istore 5, 2) := by decide +kernel
theorem dX7_isThere_48 : decode cX7_isThere 48 = .ok (.iinc 6 1, 3) := by decide +kernel
theorem dX7_isThere_51 : decode cX7_isThere 51 = .ok (.goto (-41), 3) := by decide +kernel
theorem dX7_isThere_54 : decode cX7_isThere 54 = .ok (.iload 5, 2) := by decide +kernel
theorem dX7_isThere_56 : decode cX7_isThere 56 = .ok (.ireturn, 1) := by decide +kernel
theorem dX7_begin_0 : decode cX7_begin 0 = .ok (.aload_n 0, 1) := by decide +kernel
theorem dX7_begin_1 : decode cX7_begin 1 = .ok (.iload_n 1, 1) := by decide +kernel
theorem dX7_begin_2 : decode cX7_begin 2 = .ok (.iload_n 2, 1) := by decide +kernel
theorem dX7_begin_3 : decode cX7_begin 3 = .ok (.invokevirtual 145, 3) := by decide +kernel
theorem dX7_begin_6 : decode cX7_begin 6 = .ok (.ifCond .ne 5, 3) := by decide +kernel
theorem dX7_begin_9 : decode cX7_begin 9 = .ok (.iconst (-1), 1) := by decide +kernel
theorem dX7_begin_10 : decode cX7_begin 10 = .ok (.ireturn, 1) := by decide +kernel
theorem dX7_begin_11 : decode cX7_begin 11 = .ok (.iload_n 3, 1) := by decide +kernel
theorem dX7_begin_12 : decode cX7_begin 12 = .ok (.iconst 1, 1) := by decide +kernel
theorem dX7_begin_13 : decode cX7_begin 13 = .ok (.sipush 400, 3) := by decide +kernel
theorem dX7_begin_16 : decode cX7_begin 16 = .ok (.invokestatic 78, 3) := by decide +kernel
theorem dX7_begin_19 : decode cX7_begin 19 = .ok (.ifCond .ne 6, 3) := by decide +kernel
theorem dX7_begin_22 : decode cX7_begin 22 = .ok (.bipush (-2), 2) := by decide +kernel
theorem dX7_begin_24 : decode cX7_begin 24 = .ok (.ireturn, 1) := by decide +kernel
theorem dX7_begin_25 : decode cX7_begin 25 = .ok (.iconst 0, 1) := by decide +kernel
theorem dX7_begin_26 : decode cX7_begin 26 = .ok (.istore 4, 2) := by decide +kernel
theorem dX7_begin_28 : decode cX7_begin 28 = .ok (.iload 4, 2) := by decide +kernel
theorem dX7_begin_30 : decode cX7_begin 30 = .ok (.sipush 9999, 3) := by decide +kernel
theorem dX7_begin_33 : decode cX7_begin 33 = .ok (.if_icmp .gt 24, 3) := by decide +kernel
theorem dX7_begin_36 : decode cX7_begin 36 = .ok (.aload_n 0, 1) := by decide +kernel
theorem dX7_begin_37 : decode cX7_begin 37 = .ok (.iload_n 1, 1) := by decide +kernel
theorem dX7_begin_38 : decode cX7_begin 38 = .ok (.iload_n 2, 1) := by decide +kernel
theorem dX7_begin_39 : decode cX7_begin 39 = .ok (.iload 4, 2) := by decide +kernel
theorem dX7_begin_41 : decode cX7_begin 41 = .ok (.iload_n 3, 1) := by decide +kernel
theorem dX7_begin_42 : decode cX7_begin 42 = .ok (.invokevirtual 155, 3) := by decide +kernel
theorem dX7_begin_45 : decode cX7_begin 45 = .ok (.ifCond .ne 6, 3) := by decide +kernel
theorem dX7_begin_48 : decode cX7_begin 48 = .ok (.iload 4, 2) := by decide +kernel
theorem dX7_begin_50 : decode cX7_begin 50 = .ok (.ireturn, 1) := by decide +kernel
theorem dX7_begin_51 : decode cX7_begin 51 = .ok (.iinc 4 1, 3) := by decide +kernel
theorem dX7_begin_54 : decode cX7_begin 54 = .ok (.goto (-26), 3) := by decide +kernel
theorem dX7_begin_57 : decode cX7_begin 57 = .ok (.bipush (-6), 2) := by decide +kernel
theorem dX7_begin_59 : decode cX7_begin 59 = .ok (.ireturn, 1) := by decide +kernel
theorem dX7_longest_0 : decode cX7_longest 0 = .ok (.aload_n 0, 1) := by decide +kernel
theorem dX7_longest_1 : decode cX7_longest 1 = .ok (.iload_n 1, 1) := by decide +kernel
theorem dX7_longest_2 : decode cX7_longest 2 = .ok (.iload_n 2, 1) := by decide +kernel
theorem dX7_longest_3 : decode cX7_longest 3 = .ok (.invokevirtual 145, 3) := by decide +kernel
theorem dX7_longest_6 : decode cX7_longest 6 = .ok (.ifCond .ne 5, 3) := by decide +kernel
theorem dX7_longest_9 : decode cX7_longest 9 = .ok (.iconst (-1), 1) := by decide +kernel
theorem dX7_longest_10 : decode cX7_longest 10 = .ok (.ireturn, 1) := by decide +kernel
theorem dX7_longest_11 : decode cX7_longest 11 = .ok (.iload_n 3, 1) := by decide +kernel
theorem dX7_longest_12 : decode cX7_longest 12 = .ok (.iconst 0, 1) := by decide +kernel
theorem dX7_longest_13 : decode cX7_longest 13 = .ok (.sipush 9999, 3) := by decide +kernel
theorem dX7_longest_16 : decode cX7_longest 16 = .ok (.invokestatic 78, 3) := by decide +kernel
theorem dX7_longest_19 : decode cX7_longest 19 = .ok (.ifCond .ne 6, 3) := by decide +kernel
theorem dX7_longest_22 : decode cX7_longest 22 = .ok (.bipush (-2), 2) := by decide +kernel
theorem dX7_longest_24 : decode cX7_longest 24 = .ok (.ireturn, 1) := by decide +kernel
theorem dX7_longest_25 : decode cX7_longest 25 = .ok (.aload_n 0, 1) := by decide +kernel
theorem dX7_longest_26 : decode cX7_longest 26 = .ok (.iload_n 1, 1) := by decide +kernel
theorem dX7_longest_27 : decode cX7_longest 27 = .ok (.aload_n 0, 1) := by decide +kernel
theorem dX7_longest_28 : decode cX7_longest 28 = .ok (.iload_n 3, 1) := by decide +kernel
theorem dX7_longest_29 : decode cX7_longest 29 = .ok (.invokevirtual 138, 3) := by decide +kernel
theorem dX7_longest_32 : decode cX7_longest 32 = .ok (.invokevirtual 142, 3) := by decide +kernel
theorem dX7_longest_35 : decode cX7_longest 35 = .ok (.iload_n 2, 1) := by decide +kernel
theorem dX7_longest_36 : decode cX7_longest 36 = .ok (.if_icmp .ne 5, 3) := by decide +kernel
theorem dX7_longest_39 : decode cX7_longest 39 = .ok (.iconst 0, 1) := by decide +kernel
theorem dX7_longest_40 : decode cX7_longest 40 = .ok (.ireturn, 1) := by decide +kernel
theorem dX7_longest_41 : decode cX7_longest 41 = .ok (.aload_n 0, 1) := by decide +kernel
theorem dX7_longest_42 : decode cX7_longest 42 = .ok (.iload_n 3, 1) := by decide +kernel
theorem dX7_longest_43 : decode cX7_longest 43 = .ok (.invokevirtual 138, 3) := by decide +kernel
theorem dX7_longest_46 : decode cX7_longest 46 = .ok (.iconst 1, 1) := by decide +kernel
theorem dX7_longest_47 : decode cX7_longest 47 = .ok (.iadd, 1) := by decide +kernel
theorem dX7_longest_48 : decode cX7_longest 48 = .ok (.istore 4, 2) := by decide +kernel
theorem dX7_longest_50 : decode cX7_longest 50 = .ok (.aload_n 0, 1) := by decide +kernel
theorem dX7_longest_51 : decode cX7_longest 51 = .ok (.iload 4, 2) := by decide +kernel
theorem dX7_longest_53 : decode cX7_longest 53 = .ok (.invokevirtual 152, 3) := by decide +kernel
theorem dX7_longest_56 : decode cX7_longest 56 = .ok (.iload_n 3, 1) := by decide +kernel
theorem dX7_longest_57 : decode cX7_longest 57 = .ok (.isub, 1) := by decide +kernel
theorem dX7_longest_58 : decode cX7_longest 58 = .ok (.sipush 9999, 3) := by decide +kernel
theorem dX7_longest_61 : decode cX7_longest 61 = .ok (.if_icmp .ge 29, 3) := by decide +kernel
theorem dX7_longest_64 : decode cX7_longest 64 = .ok (.aload_n 0, 1) := by decide +kernel
theorem dX7_longest_65 : decode cX7_longest 65 = .ok (.iload_n 1, 1) := by decide +kernel
theorem dX7_longest_66 : decode cX7_longest 66 = .ok (.iload 4, 2) := by decide +kernel
theorem dX7_longest_68 : decode cX7_longest 68 = .ok (.invokevirtual 142, 3) := by decide +kernel
theorem dX7_longest_71 : decode cX7_longest 71 = .ok (.iload_n 2, 1) := by decide +kernel
theorem dX7_longest_72 : decode cX7_longest 72 = .ok (.if_icmp .ne 12, 3) := by decide +kernel
theorem dX7_longest_75 : decode cX7_longest 75 = .ok (.aload_n 0, 1) := by decide +kernel
theorem dX7_longest_76 : decode cX7_longest 76 = .ok (.iload 4, 2) := by decide +kernel
theorem dX7_longest_78 : decode cX7_longest 78 = .ok (.invokevirtual 152, 3) := by decide +kernel
theorem dX7_longest_81 : decode cX7_longest 81 = .ok (.iload_n 3, 1) := by decide +kernel
theorem dX7_longest_82 : decode cX7_longest 82 = .ok (.isub, 1) := by decide +kernel
theorem dX7_longest_83 : decode cX7_longest 83 = .ok (.ireturn, 1) := by decide +kernel
theorem dX7_longest_84 : decode cX7_longest 84 = .ok (.iinc 4 1, 3) := by decide +kernel
theorem dX7_longest_87 : decode cX7_longest 87 = .ok (.goto (-37), 3) := by decide +kernel
theorem dX7_longest_90 : decode cX7_longest 90 = .ok (.sipush 9999, 3) := by decide +kernel
theorem dX7_longest_93 : decode cX7_longest 93 = .ok (.ireturn, 1) := by decide +kernel
theorem dX7_isWar_0 : decode cX7_isWar 0 = .ok (.iload_n 1, 1) := by decide +kernel
theorem dX7_isWar_1 : decode cX7_isWar 1 = .ok (.iconst 0, 1) := by decide +kernel
theorem dX7_isWar_2 : decode cX7_isWar 2 = .ok (.sipush 9999, 3) := by decide +kernel
theorem dX7_isWar_5 : decode cX7_isWar 5 = .ok (.invokestatic 78, 3) := by decide +kernel
theorem dX7_isWar_8 : decode cX7_isWar 8 = .ok (.ifCond .eq 18, 3) := by decide +kernel
theorem dX7_isWar_11 : decode cX7_isWar 11 = .ok (.iload_n 2, 1) := by decide +kernel
theorem dX7_isWar_12 : decode cX7_isWar 12 = .ok (.iconst 1, 1) := by decide +kernel
theorem dX7_isWar_13 : decode cX7_isWar 13 = .ok (.sipush 400, 3) := by decide +kernel
theorem dX7_isWar_16 : decode cX7_isWar 16 = .ok (.invokestatic 78, 3) := by decide +kernel
theorem dX7_isWar_19 : decode cX7_isWar 19 = .ok (.ifCond .eq 7, 3) := by decide +kernel
theorem dX7_isWar_22 : decode cX7_isWar 22 = .ok (.iconst 1, 1) := by decide +kernel
theorem dX7_isWar_23 : decode cX7_isWar 23 = .ok (.goto 4, 3) := by decide +kernel
theorem dX7_isWar_26 : decode cX7_isWar 26 = .ok (.iconst 0, 1) := by decide +kernel
theorem dX7_isWar_27 : decode cX7_isWar 27 = .ok (.ireturn, 1) := by decide +kernel
theorem dX7_struck_0 : decode cX7_struck 0 = .ok (.aload_n 0, 1) := by decide +kernel
theorem dX7_struck_1 : decode cX7_struck 1 = .ok (.iload_n 1, 1) := by decide +kernel
theorem dX7_struck_2 : decode cX7_struck 2 = .ok (.invokevirtual 82, 3) := by decide +kernel
theorem dX7_struck_5 : decode cX7_struck 5 = .ok (.ifCond .ne 5, 3) := by decide +kernel
theorem dX7_struck_8 : decode cX7_struck 8 = .ok (.iconst (-1), 1) := by decide +kernel
theorem dX7_struck_9 : decode cX7_struck 9 = .ok (.ireturn, 1) := by decide +kernel
theorem dX7_struck_10 : decode cX7_struck 10 = .ok (.aload_n 0, 1) := by decide +kernel
theorem dX7_struck_11 : decode cX7_struck 11 = .ok (.iload_n 2, 1) := by decide +kernel
theorem dX7_struck_12 : decode cX7_struck 12 = .ok (.iload_n 3, 1) := by decide +kernel
theorem dX7_struck_13 : decode cX7_struck 13 = .ok (.invokevirtual 159, 3) := by decide +kernel
theorem dX7_struck_16 : decode cX7_struck 16 = .ok (.ifCond .ne 6, 3) := by decide +kernel
theorem dX7_struck_19 : decode cX7_struck 19 = .ok (.bipush (-2), 2) := by decide +kernel
theorem dX7_struck_21 : decode cX7_struck 21 = .ok (.ireturn, 1) := by decide +kernel
theorem dX7_struck_22 : decode cX7_struck 22 = .ok (.iconst 0, 1) := by decide +kernel
theorem dX7_struck_23 : decode cX7_struck 23 = .ok (.istore 4, 2) := by decide +kernel
theorem dX7_struck_25 : decode cX7_struck 25 = .ok (.iconst 0, 1) := by decide +kernel
theorem dX7_struck_26 : decode cX7_struck 26 = .ok (.istore 5, 2) := by decide +kernel
theorem dX7_struck_28 : decode cX7_struck 28 = .ok (.iload 5, 2) := by decide +kernel
theorem dX7_struck_30 : decode cX7_struck 30 = .ok (.aload_n 0, 1) := by decide +kernel
theorem dX7_struck_31 : decode cX7_struck 31 = .ok (.getfield 7, 3) := by decide +kernel
theorem dX7_struck_34 : decode cX7_struck 34 = .ok (.if_icmp .ge 40, 3) := by decide +kernel
theorem dX7_struck_37 : decode cX7_struck 37 = .ok (.iload 4, 2) := by decide +kernel
theorem dX7_struck_39 : decode cX7_struck 39 = .ok (.iload 5, 2) := by decide +kernel
theorem dX7_struck_41 : decode cX7_struck 41 = .ok (.iload_n 1, 1) := by decide +kernel
theorem dX7_struck_42 : decode cX7_struck 42 = .ok (.if_icmp .eq 22, 3) := by decide +kernel
theorem dX7_struck_45 : decode cX7_struck 45 = .ok (.aload_n 0, 1) := by decide +kernel
theorem dX7_struck_46 : decode cX7_struck 46 = .ok (.iload 5, 2) := by decide +kernel
theorem dX7_struck_48 : decode cX7_struck 48 = .ok (.iload_n 1, 1) := by decide +kernel
theorem dX7_struck_49 : decode cX7_struck 49 = .ok (.iload_n 2, 1) := by decide +kernel
theorem dX7_struck_50 : decode cX7_struck 50 = .ok (.iload_n 3, 1) := by decide +kernel
theorem dX7_struck_51 : decode cX7_struck 51 = .ok (.invokevirtual 155, 3) := by decide +kernel
theorem dX7_struck_54 : decode cX7_struck 54 = .ok (.ifCond .ne 10, 3) := by decide +kernel
theorem dX7_struck_57 : decode cX7_struck 57 = .ok (.iconst 1, 1) := by decide +kernel
theorem dX7_struck_58 : decode cX7_struck 58 = .ok (.iload 5, 2) := by decide +kernel
theorem dX7_struck_60 : decode cX7_struck 60 = .ok (.ishl, 1) := by decide +kernel
theorem dX7_struck_61 : decode cX7_struck 61 = .ok (.goto 4, 3) := by decide +kernel
theorem dX7_struck_64 : decode cX7_struck 64 = .ok (.iconst 0, 1) := by decide +kernel
theorem dX7_struck_65 : decode cX7_struck 65 = .ok (.ior, 1) := by decide +kernel
theorem dX7_struck_66 : decode cX7_struck 66 = .ok (.istore 4, 2) := by decide +kernel
theorem dX7_struck_68 : decode cX7_struck 68 = .ok (.iinc 5 1, 3) := by decide +kernel
theorem dX7_struck_71 : decode cX7_struck 71 = .ok (.goto (-43), 3) := by decide +kernel
theorem dX7_struck_74 : decode cX7_struck 74 = .ok (.iload 4, 2) := by decide +kernel
theorem dX7_struck_76 : decode cX7_struck 76 = .ok (.ireturn, 1) := by decide +kernel
theorem dX7_sure_0 : decode cX7_sure 0 = .ok (.iload_n 1, 1) := by decide +kernel
theorem dX7_sure_1 : decode cX7_sure 1 = .ok (.iconst 1, 1) := by decide +kernel
theorem dX7_sure_2 : decode cX7_sure 2 = .ok (.sipush 400, 3) := by decide +kernel
theorem dX7_sure_5 : decode cX7_sure 5 = .ok (.invokestatic 78, 3) := by decide +kernel
theorem dX7_sure_8 : decode cX7_sure 8 = .ok (.ifCond .ne 6, 3) := by decide +kernel
theorem dX7_sure_11 : decode cX7_sure 11 = .ok (.bipush (-2), 2) := by decide +kernel
theorem dX7_sure_13 : decode cX7_sure 13 = .ok (.ireturn, 1) := by decide +kernel
theorem dX7_sure_14 : decode cX7_sure 14 = .ok (.iconst 0, 1) := by decide +kernel
theorem dX7_sure_15 : decode cX7_sure 15 = .ok (.istore_n 2, 1) := by decide +kernel
theorem dX7_sure_16 : decode cX7_sure 16 = .ok (.iconst 0, 1) := by decide +kernel
theorem dX7_sure_17 : decode cX7_sure 17 = .ok (.istore_n 3, 1) := by decide +kernel
theorem dX7_sure_18 : decode cX7_sure 18 = .ok (.iload_n 3, 1) := by decide +kernel
theorem dX7_sure_19 : decode cX7_sure 19 = .ok (.aload_n 0, 1) := by decide +kernel
theorem dX7_sure_20 : decode cX7_sure 20 = .ok (.getfield 7, 3) := by decide +kernel
theorem dX7_sure_23 : decode cX7_sure 23 = .ok (.if_icmp .ge 74, 3) := by decide +kernel
theorem dX7_sure_26 : decode cX7_sure 26 = .ok (.iconst 1, 1) := by decide +kernel
theorem dX7_sure_27 : decode cX7_sure 27 = .ok (.istore 4, 2) := by decide +kernel
theorem dX7_sure_29 : decode cX7_sure 29 = .ok (.iconst 0, 1) := by decide +kernel
theorem dX7_sure_30 : decode cX7_sure 30 = .ok (.istore 5, 2) := by decide +kernel
theorem dX7_sure_32 : decode cX7_sure 32 = .ok (.iload 5, 2) := by decide +kernel
theorem dX7_sure_34 : decode cX7_sure 34 = .ok (.aload_n 0, 1) := by decide +kernel
theorem dX7_sure_35 : decode cX7_sure 35 = .ok (.getfield 7, 3) := by decide +kernel
theorem dX7_sure_38 : decode cX7_sure 38 = .ok (.if_icmp .ge 38, 3) := by decide +kernel
theorem dX7_sure_41 : decode cX7_sure 41 = .ok (.iload 4, 2) := by decide +kernel
theorem dX7_sure_43 : decode cX7_sure 43 = .ok (.ifCond .eq 33, 3) := by decide +kernel
theorem dX7_sure_46 : decode cX7_sure 46 = .ok (.iload 5, 2) := by decide +kernel
theorem dX7_sure_48 : decode cX7_sure 48 = .ok (.iload_n 3, 1) := by decide +kernel
theorem dX7_sure_49 : decode cX7_sure 49 = .ok (.if_icmp .eq 14, 3) := by decide +kernel
theorem dX7_sure_52 : decode cX7_sure 52 = .ok (.aload_n 0, 1) := by decide +kernel
theorem dX7_sure_53 : decode cX7_sure 53 = .ok (.iload 5, 2) := by decide +kernel
theorem dX7_sure_55 : decode cX7_sure 55 = .ok (.iload_n 3, 1) := by decide +kernel
theorem dX7_sure_56 : decode cX7_sure 56 = .ok (.iload_n 1, 1) := by decide +kernel
theorem dX7_sure_57 : decode cX7_sure 57 = .ok (.invokevirtual 162, 3) := by decide +kernel
theorem dX7_sure_60 : decode cX7_sure 60 = .ok (.ifCond .ge 7, 3) := by decide +kernel
theorem dX7_sure_63 : decode cX7_sure 63 = .ok (.iconst 1, 1) := by decide +kernel
theorem dX7_sure_64 : decode cX7_sure 64 = .ok (.goto 4, 3) := by decide +kernel
theorem dX7_sure_67 : decode cX7_sure 67 = .ok (.iconst 0, 1) := by decide +kernel
theorem dX7_sure_68 : decode cX7_sure 68 = .ok (.istore 4, 2) := by decide +kernel
theorem dX7_sure_70 : decode cX7_sure 70 = .ok (.iinc 5 1, 3) := by decide +kernel
theorem dX7_sure_73 : decode cX7_sure 73 = .ok (.goto (-41), 3) := by decide +kernel
theorem dX7_sure_76 : decode cX7_sure 76 = .ok (.iload_n 2, 1) := by decide +kernel
theorem dX7_sure_77 : decode cX7_sure 77 = .ok (.iload 4, 2) := by decide +kernel
theorem dX7_sure_79 : decode cX7_sure 79 = .ok (.ifCond .eq 9, 3) := by decide +kernel
theorem dX7_sure_82 : decode cX7_sure 82 = .ok (.iconst 1, 1) := by decide +kernel
theorem dX7_sure_83 : decode cX7_sure 83 = .ok (.iload_n 3, 1) := by decide +kernel
theorem dX7_sure_84 : decode cX7_sure 84 = .ok (.ishl, 1) := by decide +kernel
theorem dX7_sure_85 : decode cX7_sure 85 = .ok (.goto 4, 3) := by decide +kernel
theorem dX7_sure_88 : decode cX7_sure 88 = .ok (.iconst 0, 1) := by decide +kernel
theorem dX7_sure_89 : decode cX7_sure 89 = .ok (.ior, 1) := by decide +kernel
theorem dX7_sure_90 : decode cX7_sure 90 = .ok (.istore_n 2, 1) := by decide +kernel
theorem dX7_sure_91 : decode cX7_sure 91 = .ok (.iinc 3 1, 3) := by decide +kernel
theorem dX7_sure_94 : decode cX7_sure 94 = .ok (.goto (-76), 3) := by decide +kernel
theorem dX7_sure_97 : decode cX7_sure 97 = .ok (.iload_n 2, 1) := by decide +kernel
theorem dX7_sure_98 : decode cX7_sure 98 = .ok (.ireturn, 1) := by decide +kernel
theorem dX7_fooled_0 : decode cX7_fooled 0 = .ok (.aload_n 0, 1) := by decide +kernel
theorem dX7_fooled_1 : decode cX7_fooled 1 = .ok (.iload_n 1, 1) := by decide +kernel
theorem dX7_fooled_2 : decode cX7_fooled 2 = .ok (.invokevirtual 82, 3) := by decide +kernel
theorem dX7_fooled_5 : decode cX7_fooled 5 = .ok (.ifCond .ne 5, 3) := by decide +kernel
theorem dX7_fooled_8 : decode cX7_fooled 8 = .ok (.iconst (-1), 1) := by decide +kernel
theorem dX7_fooled_9 : decode cX7_fooled 9 = .ok (.ireturn, 1) := by decide +kernel
theorem dX7_fooled_10 : decode cX7_fooled 10 = .ok (.aload_n 0, 1) := by decide +kernel
theorem dX7_fooled_11 : decode cX7_fooled 11 = .ok (.iload_n 2, 1) := by decide +kernel
theorem dX7_fooled_12 : decode cX7_fooled 12 = .ok (.iload_n 3, 1) := by decide +kernel
theorem dX7_fooled_13 : decode cX7_fooled 13 = .ok (.invokevirtual 159, 3) := by decide +kernel
theorem dX7_fooled_16 : decode cX7_fooled 16 = .ok (.ifCond .ne 6, 3) := by decide +kernel
theorem dX7_fooled_19 : decode cX7_fooled 19 = .ok (.bipush (-2), 2) := by decide +kernel
theorem dX7_fooled_21 : decode cX7_fooled 21 = .ok (.ireturn, 1) := by decide +kernel
theorem dX7_fooled_22 : decode cX7_fooled 22 = .ok (.iconst 0, 1) := by decide +kernel
theorem dX7_fooled_23 : decode cX7_fooled 23 = .ok (.istore 4, 2) := by decide +kernel
theorem dX7_fooled_25 : decode cX7_fooled 25 = .ok (.iconst 0, 1) := by decide +kernel
theorem dX7_fooled_26 : decode cX7_fooled 26 = .ok (.istore 5, 2) := by decide +kernel
theorem dX7_fooled_28 : decode cX7_fooled 28 = .ok (.iload 5, 2) := by decide +kernel
theorem dX7_fooled_30 : decode cX7_fooled 30 = .ok (.aload_n 0, 1) := by decide +kernel
theorem dX7_fooled_31 : decode cX7_fooled 31 = .ok (.getfield 7, 3) := by decide +kernel
theorem dX7_fooled_34 : decode cX7_fooled 34 = .ok (.if_icmp .ge 95, 3) := by decide +kernel
theorem dX7_fooled_37 : decode cX7_fooled 37 = .ok (.iload 5, 2) := by decide +kernel
theorem dX7_fooled_39 : decode cX7_fooled 39 = .ok (.istore 6, 2) := by decide +kernel
theorem dX7_fooled_41 : decode cX7_fooled 41 = .ok (.iconst 0, 1) := by decide +kernel
theorem dX7_fooled_42 : decode cX7_fooled 42 = .ok (.istore 7, 2) := by decide +kernel
theorem dX7_fooled_44 : decode cX7_fooled 44 = .ok (.iload 7, 2) := by decide +kernel
theorem dX7_fooled_46 : decode cX7_fooled 46 = .ok (.aload_n 0, 1) := by decide +kernel
theorem dX7_fooled_47 : decode cX7_fooled 47 = .ok (.getfield 7, 3) := by decide +kernel
theorem dX7_fooled_50 : decode cX7_fooled 50 = .ok (.if_icmp .ge 30, 3) := by decide +kernel
theorem dX7_fooled_53 : decode cX7_fooled 53 = .ok (.aload_n 0, 1) := by decide +kernel
theorem dX7_fooled_54 : decode cX7_fooled 54 = .ok (.getfield 20, 3) := by decide +kernel
theorem dX7_fooled_57 : decode cX7_fooled 57 = .ok (.iload 7, 2) := by decide +kernel
theorem dX7_fooled_59 : decode cX7_fooled 59 = .ok (.iaload, 1) := by decide +kernel
theorem dX7_fooled_60 : decode cX7_fooled 60 = .ok (.iload 5, 2) := by decide +kernel
theorem dX7_fooled_62 : decode cX7_fooled 62 = .ok (.if_icmp .ne 8, 3) := by decide +kernel
theorem dX7_fooled_65 : decode cX7_fooled 65 = .ok (.iload 7, 2) := by decide +kernel
theorem dX7_fooled_67 : decode cX7_fooled 67 = .ok (.goto 5, 3) := by decide +kernel
theorem dX7_fooled_70 : decode cX7_fooled 70 = .ok (.iload 6, 2) := by decide +kernel
theorem dX7_fooled_72 : decode cX7_fooled 72 = .ok (.istore 6, 2) := by decide +kernel
theorem dX7_fooled_74 : decode cX7_fooled 74 = .ok (.iinc 7 1, 3) := by decide +kernel
theorem dX7_fooled_77 : decode cX7_fooled 77 = .ok (.goto (-33), 3) := by decide +kernel
theorem dX7_fooled_80 : decode cX7_fooled 80 = .ok (.iload 4, 2) := by decide +kernel
theorem dX7_fooled_82 : decode cX7_fooled 82 = .ok (.iload 5, 2) := by decide +kernel
theorem dX7_fooled_84 : decode cX7_fooled 84 = .ok (.iload_n 1, 1) := by decide +kernel
theorem dX7_fooled_85 : decode cX7_fooled 85 = .ok (.if_icmp .eq 34, 3) := by decide +kernel
theorem dX7_fooled_88 : decode cX7_fooled 88 = .ok (.aload_n 0, 1) := by decide +kernel
theorem dX7_fooled_89 : decode cX7_fooled 89 = .ok (.iload 6, 2) := by decide +kernel
theorem dX7_fooled_91 : decode cX7_fooled 91 = .ok (.iload_n 1, 1) := by decide +kernel
theorem dX7_fooled_92 : decode cX7_fooled 92 = .ok (.iload_n 2, 1) := by decide +kernel
theorem dX7_fooled_93 : decode cX7_fooled 93 = .ok (.iload_n 3, 1) := by decide +kernel
theorem dX7_fooled_94 : decode cX7_fooled 94 = .ok (.invokevirtual 155, 3) := by decide +kernel
theorem dX7_fooled_97 : decode cX7_fooled 97 = .ok (.ifCond .ne 22, 3) := by decide +kernel
theorem dX7_fooled_100 : decode cX7_fooled 100 = .ok (.aload_n 0, 1) := by decide +kernel
theorem dX7_fooled_101 : decode cX7_fooled 101 = .ok (.iload 5, 2) := by decide +kernel
theorem dX7_fooled_103 : decode cX7_fooled 103 = .ok (.iload_n 1, 1) := by decide +kernel
theorem dX7_fooled_104 : decode cX7_fooled 104 = .ok (.iload_n 2, 1) := by decide +kernel
theorem dX7_fooled_105 : decode cX7_fooled 105 = .ok (.iload_n 3, 1) := by decide +kernel
theorem dX7_fooled_106 : decode cX7_fooled 106 = .ok (.invokevirtual 155, 3) := by decide +kernel
theorem dX7_fooled_109 : decode cX7_fooled 109 = .ok (.ifCond .eq 10, 3) := by decide +kernel
theorem dX7_fooled_112 : decode cX7_fooled 112 = .ok (.iconst 1, 1) := by decide +kernel
theorem dX7_fooled_113 : decode cX7_fooled 113 = .ok (.iload 5, 2) := by decide +kernel
theorem dX7_fooled_115 : decode cX7_fooled 115 = .ok (.ishl, 1) := by decide +kernel
theorem dX7_fooled_116 : decode cX7_fooled 116 = .ok (.goto 4, 3) := by decide +kernel
theorem dX7_fooled_119 : decode cX7_fooled 119 = .ok (.iconst 0, 1) := by decide +kernel
theorem dX7_fooled_120 : decode cX7_fooled 120 = .ok (.ior, 1) := by decide +kernel
theorem dX7_fooled_121 : decode cX7_fooled 121 = .ok (.istore 4, 2) := by decide +kernel
theorem dX7_fooled_123 : decode cX7_fooled 123 = .ok (.iinc 5 1, 3) := by decide +kernel
theorem dX7_fooled_126 : decode cX7_fooled 126 = .ok (.goto (-98), 3) := by decide +kernel
theorem dX7_fooled_129 : decode cX7_fooled 129 = .ok (.iload 4, 2) := by decide +kernel
theorem dX7_fooled_131 : decode cX7_fooled 131 = .ok (.ireturn, 1) := by decide +kernel
theorem dX7_letter_0 : decode cX7_letter 0 = .ok (.aload_n 0, 1) := by decide +kernel
theorem dX7_letter_1 : decode cX7_letter 1 = .ok (.iload_n 1, 1) := by decide +kernel
theorem dX7_letter_2 : decode cX7_letter 2 = .ok (.invokevirtual 82, 3) := by decide +kernel
theorem dX7_letter_5 : decode cX7_letter 5 = .ok (.ifCond .eq 11, 3) := by decide +kernel
theorem dX7_letter_8 : decode cX7_letter 8 = .ok (.aload_n 0, 1) := by decide +kernel
theorem dX7_letter_9 : decode cX7_letter 9 = .ok (.iload_n 2, 1) := by decide +kernel
theorem dX7_letter_10 : decode cX7_letter 10 = .ok (.invokevirtual 82, 3) := by decide +kernel
theorem dX7_letter_13 : decode cX7_letter 13 = .ok (.ifCond .ne 5, 3) := by decide +kernel
theorem dX7_letter_16 : decode cX7_letter 16 = .ok (.iconst (-1), 1) := by decide +kernel
theorem dX7_letter_17 : decode cX7_letter 17 = .ok (.ireturn, 1) := by decide +kernel
theorem dX7_letter_18 : decode cX7_letter 18 = .ok (.aload_n 0, 1) := by decide +kernel
theorem dX7_letter_19 : decode cX7_letter 19 = .ok (.iload_n 1, 1) := by decide +kernel
theorem dX7_letter_20 : decode cX7_letter 20 = .ok (.iload_n 2, 1) := by decide +kernel
theorem dX7_letter_21 : decode cX7_letter 21 = .ok (.isub, 1) := by decide +kernel
theorem dX7_letter_22 : decode cX7_letter 22 = .ok (.aload_n 0, 1) := by decide +kernel
theorem dX7_letter_23 : decode cX7_letter 23 = .ok (.getfield 7, 3) := by decide +kernel
theorem dX7_letter_26 : decode cX7_letter 26 = .ok (.iadd, 1) := by decide +kernel
theorem dX7_letter_27 : decode cX7_letter 27 = .ok (.aload_n 0, 1) := by decide +kernel
theorem dX7_letter_28 : decode cX7_letter 28 = .ok (.getfield 7, 3) := by decide +kernel
theorem dX7_letter_31 : decode cX7_letter 31 = .ok (.irem, 1) := by decide +kernel
theorem dX7_letter_32 : decode cX7_letter 32 = .ok (.invokevirtual 152, 3) := by decide +kernel
theorem dX7_letter_35 : decode cX7_letter 35 = .ok (.ireturn, 1) := by decide +kernel
theorem dX7_copy_0 : decode cX7_copy 0 = .ok (.aload_n 0, 1) := by decide +kernel
theorem dX7_copy_1 : decode cX7_copy 1 = .ok (.iload_n 1, 1) := by decide +kernel
theorem dX7_copy_2 : decode cX7_copy 2 = .ok (.invokevirtual 82, 3) := by decide +kernel
theorem dX7_copy_5 : decode cX7_copy 5 = .ok (.ifCond .ne 5, 3) := by decide +kernel
theorem dX7_copy_8 : decode cX7_copy 8 = .ok (.iconst (-1), 1) := by decide +kernel
theorem dX7_copy_9 : decode cX7_copy 9 = .ok (.ireturn, 1) := by decide +kernel
theorem dX7_copy_10 : decode cX7_copy 10 = .ok (.iconst 1, 1) := by decide +kernel
theorem dX7_copy_11 : decode cX7_copy 11 = .ok (.istore_n 2, 1) := by decide +kernel
theorem dX7_copy_12 : decode cX7_copy 12 = .ok (.aload_n 0, 1) := by decide +kernel
theorem dX7_copy_13 : decode cX7_copy 13 = .ok (.iload_n 2, 1) := by decide +kernel
theorem dX7_copy_14 : decode cX7_copy 14 = .ok (.invokevirtual 152, 3) := by decide +kernel
theorem dX7_copy_17 : decode cX7_copy 17 = .ok (.sipush 9999, 3) := by decide +kernel
theorem dX7_copy_20 : decode cX7_copy 20 = .ok (.if_icmp .gt 50, 3) := by decide +kernel
theorem dX7_copy_23 : decode cX7_copy 23 = .ok (.aload_n 0, 1) := by decide +kernel
theorem dX7_copy_24 : decode cX7_copy 24 = .ok (.getfield 16, 3) := by decide +kernel
theorem dX7_copy_27 : decode cX7_copy 27 = .ok (.iload_n 1, 1) := by decide +kernel
theorem dX7_copy_28 : decode cX7_copy 28 = .ok (.iaload, 1) := by decide +kernel
theorem dX7_copy_29 : decode cX7_copy 29 = .ok (.ifCond .lt 35, 3) := by decide +kernel
theorem dX7_copy_32 : decode cX7_copy 32 = .ok (.aload_n 0, 1) := by decide +kernel
theorem dX7_copy_33 : decode cX7_copy 33 = .ok (.iload_n 1, 1) := by decide +kernel
theorem dX7_copy_34 : decode cX7_copy 34 = .ok (.iload_n 2, 1) := by decide +kernel
theorem dX7_copy_35 : decode cX7_copy 35 = .ok (.invokevirtual 142, 3) := by decide +kernel
theorem dX7_copy_38 : decode cX7_copy 38 = .ok (.iload_n 1, 1) := by decide +kernel
theorem dX7_copy_39 : decode cX7_copy 39 = .ok (.aload_n 0, 1) := by decide +kernel
theorem dX7_copy_40 : decode cX7_copy 40 = .ok (.getfield 7, 3) := by decide +kernel
theorem dX7_copy_43 : decode cX7_copy 43 = .ok (.sipush 9999, 3) := by decide +kernel
theorem dX7_copy_46 : decode cX7_copy 46 = .ok (.imul, 1) := by decide +kernel
theorem dX7_copy_47 : decode cX7_copy 47 = .ok (.iadd, 1) := by decide +kernel
theorem dX7_copy_48 : decode cX7_copy 48 = .ok (.iload_n 2, 1) := by decide +kernel
theorem dX7_copy_49 : decode cX7_copy 49 = .ok (.isub, 1) := by decide +kernel
theorem dX7_copy_50 : decode cX7_copy 50 = .ok (.aload_n 0, 1) := by decide +kernel
theorem dX7_copy_51 : decode cX7_copy 51 = .ok (.getfield 7, 3) := by decide +kernel
theorem dX7_copy_54 : decode cX7_copy 54 = .ok (.irem, 1) := by decide +kernel
theorem dX7_copy_55 : decode cX7_copy 55 = .ok (.if_icmp .ne 9, 3) := by decide +kernel
theorem dX7_copy_58 : decode cX7_copy 58 = .ok (.aload_n 0, 1) := by decide +kernel
theorem dX7_copy_59 : decode cX7_copy 59 = .ok (.iload_n 2, 1) := by decide +kernel
theorem dX7_copy_60 : decode cX7_copy 60 = .ok (.invokevirtual 152, 3) := by decide +kernel
theorem dX7_copy_63 : decode cX7_copy 63 = .ok (.ireturn, 1) := by decide +kernel
theorem dX7_copy_64 : decode cX7_copy 64 = .ok (.iinc 2 1, 3) := by decide +kernel
theorem dX7_copy_67 : decode cX7_copy 67 = .ok (.goto (-55), 3) := by decide +kernel
theorem dX7_copy_70 : decode cX7_copy 70 = .ok (.bipush (-6), 2) := by decide +kernel
theorem dX7_copy_72 : decode cX7_copy 72 = .ok (.ireturn, 1) := by decide +kernel
theorem dX7_furs_0 : decode cX7_furs 0 = .ok (.iload_n 1, 1) := by decide +kernel
theorem dX7_furs_1 : decode cX7_furs 1 = .ok (.iconst 1, 1) := by decide +kernel
theorem dX7_furs_2 : decode cX7_furs 2 = .ok (.bipush 24, 2) := by decide +kernel
theorem dX7_furs_4 : decode cX7_furs 4 = .ok (.invokestatic 78, 3) := by decide +kernel
theorem dX7_furs_7 : decode cX7_furs 7 = .ok (.ifCond .eq 12, 3) := by decide +kernel
theorem dX7_furs_10 : decode cX7_furs 10 = .ok (.iload_n 2, 1) := by decide +kernel
theorem dX7_furs_11 : decode cX7_furs 11 = .ok (.iconst 0, 1) := by decide +kernel
theorem dX7_furs_12 : decode cX7_furs 12 = .ok (.iconst 1, 1) := by decide +kernel
theorem dX7_furs_13 : decode cX7_furs 13 = .ok (.invokestatic 78, 3) := by decide +kernel
theorem dX7_furs_16 : decode cX7_furs 16 = .ok (.ifCond .ne 6, 3) := by decide +kernel
theorem dX7_furs_19 : decode cX7_furs 19 = .ok (.bipush (-2), 2) := by decide +kernel
theorem dX7_furs_21 : decode cX7_furs 21 = .ok (.ireturn, 1) := by decide +kernel
theorem dX7_furs_22 : decode cX7_furs 22 = .ok (.iconst (-1), 1) := by decide +kernel
theorem dX7_furs_23 : decode cX7_furs 23 = .ok (.istore_n 3, 1) := by decide +kernel
theorem dX7_furs_24 : decode cX7_furs 24 = .ok (.iconst 0, 1) := by decide +kernel
theorem dX7_furs_25 : decode cX7_furs 25 = .ok (.istore 4, 2) := by decide +kernel
theorem dX7_furs_27 : decode cX7_furs 27 = .ok (.iconst 0, 1) := by decide +kernel
theorem dX7_furs_28 : decode cX7_furs 28 = .ok (.istore 5, 2) := by decide +kernel
theorem dX7_furs_30 : decode cX7_furs 30 = .ok (.iload 5, 2) := by decide +kernel
theorem dX7_furs_32 : decode cX7_furs 32 = .ok (.iload_n 1, 1) := by decide +kernel
theorem dX7_furs_33 : decode cX7_furs 33 = .ok (.if_icmp .ge 90, 3) := by decide +kernel
theorem dX7_furs_36 : decode cX7_furs 36 = .ok (.iconst 0, 1) := by decide +kernel
theorem dX7_furs_37 : decode cX7_furs 37 = .ok (.istore 6, 2) := by decide +kernel
theorem dX7_furs_39 : decode cX7_furs 39 = .ok (.iconst 0, 1) := by decide +kernel
theorem dX7_furs_40 : decode cX7_furs 40 = .ok (.istore 7, 2) := by decide +kernel
theorem dX7_furs_42 : decode cX7_furs 42 = .ok (.iload 7, 2) := by decide +kernel
theorem dX7_furs_44 : decode cX7_furs 44 = .ok (.aload_n 0, 1) := by decide +kernel
theorem dX7_furs_45 : decode cX7_furs 45 = .ok (.getfield 7, 3) := by decide +kernel
theorem dX7_furs_48 : decode cX7_furs 48 = .ok (.if_icmp .ge 41, 3) := by decide +kernel
theorem dX7_furs_51 : decode cX7_furs 51 = .ok (.iload 6, 2) := by decide +kernel
theorem dX7_furs_53 : decode cX7_furs 53 = .ok (.aload_n 0, 1) := by decide +kernel
theorem dX7_furs_54 : decode cX7_furs 54 = .ok (.getfield 16, 3) := by decide +kernel
theorem dX7_furs_57 : decode cX7_furs 57 = .ok (.iload 7, 2) := by decide +kernel
theorem dX7_furs_59 : decode cX7_furs 59 = .ok (.iaload, 1) := by decide +kernel
theorem dX7_furs_60 : decode cX7_furs 60 = .ok (.ifCond .ge 7, 3) := by decide +kernel
theorem dX7_furs_63 : decode cX7_furs 63 = .ok (.iconst 0, 1) := by decide +kernel
theorem dX7_furs_64 : decode cX7_furs 64 = .ok (.goto 16, 3) := by decide +kernel
theorem dX7_furs_67 : decode cX7_furs 67 = .ok (.aload_n 0, 1) := by decide +kernel
theorem dX7_furs_68 : decode cX7_furs 68 = .ok (.getfield 26, 3) := by decide +kernel
theorem dX7_furs_71 : decode cX7_furs 71 = .ok (.aload_n 0, 1) := by decide +kernel
theorem dX7_furs_72 : decode cX7_furs 72 = .ok (.iload 7, 2) := by decide +kernel
theorem dX7_furs_74 : decode cX7_furs 74 = .ok (.iload 5, 2) := by decide +kernel
theorem dX7_furs_76 : decode cX7_furs 76 = .ok (.invokevirtual 142, 3) := by decide +kernel
theorem dX7_furs_79 : decode cX7_furs 79 = .ok (.iaload, 1) := by decide +kernel
theorem dX7_furs_80 : decode cX7_furs 80 = .ok (.iadd, 1) := by decide +kernel
theorem dX7_furs_81 : decode cX7_furs 81 = .ok (.istore 6, 2) := by decide +kernel
theorem dX7_furs_83 : decode cX7_furs 83 = .ok (.iinc 7 1, 3) := by decide +kernel
theorem dX7_furs_86 : decode cX7_furs 86 = .ok (.goto (-44), 3) := by decide +kernel
theorem dX7_furs_89 : decode cX7_furs 89 = .ok (.iload 6, 2) := by decide +kernel
theorem dX7_furs_91 : decode cX7_furs 91 = .ok (.iload_n 3, 1) := by decide +kernel
theorem dX7_furs_92 : decode cX7_furs 92 = .ok (.if_icmp .le 8, 3) := by decide +kernel
theorem dX7_furs_95 : decode cX7_furs 95 = .ok (.iload 5, 2) := by decide +kernel
theorem dX7_furs_97 : decode cX7_furs 97 = .ok (.goto 5, 3) := by decide +kernel
theorem dX7_furs_100 : decode cX7_furs 100 = .ok (.iload 4, 2) := by decide +kernel
theorem dX7_furs_102 : decode cX7_furs 102 = .ok (.istore 4, 2) := by decide +kernel
theorem dX7_furs_104 : decode cX7_furs 104 = .ok (.iload 6, 2) := by decide +kernel
theorem dX7_furs_106 : decode cX7_furs 106 = .ok (.iload_n 3, 1) := by decide +kernel
theorem dX7_furs_107 : decode cX7_furs 107 = .ok (.if_icmp .le 8, 3) := by decide +kernel
theorem dX7_furs_110 : decode cX7_furs 110 = .ok (.iload 6, 2) := by decide +kernel
theorem dX7_furs_112 : decode cX7_furs 112 = .ok (.goto 4, 3) := by decide +kernel
theorem dX7_furs_115 : decode cX7_furs 115 = .ok (.iload_n 3, 1) := by decide +kernel
theorem dX7_furs_116 : decode cX7_furs 116 = .ok (.istore_n 3, 1) := by decide +kernel
theorem dX7_furs_117 : decode cX7_furs 117 = .ok (.iinc 5 1, 3) := by decide +kernel
theorem dX7_furs_120 : decode cX7_furs 120 = .ok (.goto (-90), 3) := by decide +kernel
theorem dX7_furs_123 : decode cX7_furs 123 = .ok (.iload_n 2, 1) := by decide +kernel
theorem dX7_furs_124 : decode cX7_furs 124 = .ok (.ifCond .ne 7, 3) := by decide +kernel
theorem dX7_furs_127 : decode cX7_furs 127 = .ok (.iload_n 3, 1) := by decide +kernel
theorem dX7_furs_128 : decode cX7_furs 128 = .ok (.goto 5, 3) := by decide +kernel
theorem dX7_furs_131 : decode cX7_furs 131 = .ok (.iload 4, 2) := by decide +kernel
theorem dX7_furs_133 : decode cX7_furs 133 = .ok (.ireturn, 1) := by decide +kernel
theorem dX7_seen_0 : decode cX7_seen 0 = .ok (.aload_n 0, 1) := by decide +kernel
theorem dX7_seen_1 : decode cX7_seen 1 = .ok (.iload_n 1, 1) := by decide +kernel
theorem dX7_seen_2 : decode cX7_seen 2 = .ok (.invokevirtual 82, 3) := by decide +kernel
theorem dX7_seen_5 : decode cX7_seen 5 = .ok (.ifCond .ne 5, 3) := by decide +kernel
theorem dX7_seen_8 : decode cX7_seen 8 = .ok (.iconst (-1), 1) := by decide +kernel
theorem dX7_seen_9 : decode cX7_seen 9 = .ok (.ireturn, 1) := by decide +kernel
theorem dX7_seen_10 : decode cX7_seen 10 = .ok (.aload_n 0, 1) := by decide +kernel
theorem dX7_seen_11 : decode cX7_seen 11 = .ok (.getfield 75, 3) := by decide +kernel
theorem dX7_seen_14 : decode cX7_seen 14 = .ok (.bipush 8, 2) := by decide +kernel
theorem dX7_seen_16 : decode cX7_seen 16 = .ok (.if_icmp .ne 6, 3) := by decide +kernel
theorem dX7_seen_19 : decode cX7_seen 19 = .ok (.bipush (-4), 2) := by decide +kernel
theorem dX7_seen_21 : decode cX7_seen 21 = .ok (.ireturn, 1) := by decide +kernel
theorem dX7_seen_22 : decode cX7_seen 22 = .ok (.aload_n 0, 1) := by decide +kernel
theorem dX7_seen_23 : decode cX7_seen 23 = .ok (.getfield 32, 3) := by decide +kernel
theorem dX7_seen_26 : decode cX7_seen 26 = .ok (.iconst 2, 1) := by decide +kernel
theorem dX7_seen_27 : decode cX7_seen 27 = .ok (.aload_n 0, 1) := by decide +kernel
theorem dX7_seen_28 : decode cX7_seen 28 = .ok (.getfield 75, 3) := by decide +kernel
theorem dX7_seen_31 : decode cX7_seen 31 = .ok (.imul, 1) := by decide +kernel
theorem dX7_seen_32 : decode cX7_seen 32 = .ok (.iload_n 1, 1) := by decide +kernel
theorem dX7_seen_33 : decode cX7_seen 33 = .ok (.iastore, 1) := by decide +kernel
theorem dX7_seen_34 : decode cX7_seen 34 = .ok (.aload_n 0, 1) := by decide +kernel
theorem dX7_seen_35 : decode cX7_seen 35 = .ok (.getfield 32, 3) := by decide +kernel
theorem dX7_seen_38 : decode cX7_seen 38 = .ok (.iconst 2, 1) := by decide +kernel
theorem dX7_seen_39 : decode cX7_seen 39 = .ok (.aload_n 0, 1) := by decide +kernel
theorem dX7_seen_40 : decode cX7_seen 40 = .ok (.getfield 75, 3) := by decide +kernel
theorem dX7_seen_43 : decode cX7_seen 43 = .ok (.imul, 1) := by decide +kernel
theorem dX7_seen_44 : decode cX7_seen 44 = .ok (.iconst 1, 1) := by decide +kernel
theorem dX7_seen_45 : decode cX7_seen 45 = .ok (.iadd, 1) := by decide +kernel
theorem dX7_seen_46 : decode cX7_seen 46 = .ok (.iload_n 2, 1) := by decide +kernel
theorem dX7_seen_47 : decode cX7_seen 47 = .ok (.ifCond .eq 7, 3) := by decide +kernel
theorem dX7_seen_50 : decode cX7_seen 50 = .ok (.iconst 1, 1) := by decide +kernel
theorem dX7_seen_51 : decode cX7_seen 51 = .ok (.goto 4, 3) := by decide +kernel
theorem dX7_seen_54 : decode cX7_seen 54 = .ok (.iconst 0, 1) := by decide +kernel
theorem dX7_seen_55 : decode cX7_seen 55 = .ok (.iastore, 1) := by decide +kernel
theorem dX7_seen_56 : decode cX7_seen 56 = .ok (.aload_n 0, 1) := by decide +kernel
theorem dX7_seen_57 : decode cX7_seen 57 = .ok (.dup, 1) := by decide +kernel
theorem dX7_seen_58 : decode cX7_seen 58 = .ok (.getfield 75, 3) := by decide +kernel
theorem dX7_seen_61 : decode cX7_seen 61 = .ok (.iconst 1, 1) := by decide +kernel
theorem dX7_seen_62 : decode cX7_seen 62 = .ok (.iadd, 1) := by decide +kernel
theorem dX7_seen_63 : decode cX7_seen 63 = .ok (.putfield 75, 3) := by decide +kernel
theorem dX7_seen_66 : decode cX7_seen 66 = .ok (.aload_n 0, 1) := by decide +kernel
theorem dX7_seen_67 : decode cX7_seen 67 = .ok (.getfield 75, 3) := by decide +kernel
theorem dX7_seen_70 : decode cX7_seen 70 = .ok (.ireturn, 1) := by decide +kernel
theorem dX7_forget_0 : decode cX7_forget 0 = .ok (.aload_n 0, 1) := by decide +kernel
theorem dX7_forget_1 : decode cX7_forget 1 = .ok (.getfield 75, 3) := by decide +kernel
theorem dX7_forget_4 : decode cX7_forget 4 = .ok (.istore_n 1, 1) := by decide +kernel
theorem dX7_forget_5 : decode cX7_forget 5 = .ok (.aload_n 0, 1) := by decide +kernel
theorem dX7_forget_6 : decode cX7_forget 6 = .ok (.iconst 0, 1) := by decide +kernel
theorem dX7_forget_7 : decode cX7_forget 7 = .ok (.putfield 75, 3) := by decide +kernel
theorem dX7_forget_10 : decode cX7_forget 10 = .ok (.iload_n 1, 1) := by decide +kernel
theorem dX7_forget_11 : decode cX7_forget 11 = .ok (.ireturn, 1) := by decide +kernel
theorem dX7_living_0 : decode cX7_living 0 = .ok (.iconst 0, 1) := by decide +kernel
theorem dX7_living_1 : decode cX7_living 1 = .ok (.istore_n 1, 1) := by decide +kernel
theorem dX7_living_2 : decode cX7_living 2 = .ok (.iconst 0, 1) := by decide +kernel
theorem dX7_living_3 : decode cX7_living 3 = .ok (.istore_n 2, 1) := by decide +kernel
theorem dX7_living_4 : decode cX7_living 4 = .ok (.iload_n 2, 1) := by decide +kernel
theorem dX7_living_5 : decode cX7_living 5 = .ok (.aload_n 0, 1) := by decide +kernel
theorem dX7_living_6 : decode cX7_living 6 = .ok (.getfield 7, 3) := by decide +kernel
theorem dX7_living_9 : decode cX7_living 9 = .ok (.if_icmp .ge 33, 3) := by decide +kernel
theorem dX7_living_12 : decode cX7_living 12 = .ok (.iload_n 1, 1) := by decide +kernel
theorem dX7_living_13 : decode cX7_living 13 = .ok (.aload_n 0, 1) := by decide +kernel
theorem dX7_living_14 : decode cX7_living 14 = .ok (.getfield 16, 3) := by decide +kernel
theorem dX7_living_17 : decode cX7_living 17 = .ok (.iload_n 2, 1) := by decide +kernel
theorem dX7_living_18 : decode cX7_living 18 = .ok (.iaload, 1) := by decide +kernel
theorem dX7_living_19 : decode cX7_living 19 = .ok (.ifCond .lt 14, 3) := by decide +kernel
theorem dX7_living_22 : decode cX7_living 22 = .ok (.iconst 1, 1) := by decide +kernel
theorem dX7_living_23 : decode cX7_living 23 = .ok (.aload_n 0, 1) := by decide +kernel
theorem dX7_living_24 : decode cX7_living 24 = .ok (.getfield 20, 3) := by decide +kernel
theorem dX7_living_27 : decode cX7_living 27 = .ok (.iload_n 2, 1) := by decide +kernel
theorem dX7_living_28 : decode cX7_living 28 = .ok (.iaload, 1) := by decide +kernel
theorem dX7_living_29 : decode cX7_living 29 = .ok (.ishl, 1) := by decide +kernel
theorem dX7_living_30 : decode cX7_living 30 = .ok (.goto 4, 3) := by decide +kernel
theorem dX7_living_33 : decode cX7_living 33 = .ok (.iconst 0, 1) := by decide +kernel
theorem dX7_living_34 : decode cX7_living 34 = .ok (.ior, 1) := by decide +kernel
theorem dX7_living_35 : decode cX7_living 35 = .ok (.istore_n 1, 1) := by decide +kernel
theorem dX7_living_36 : decode cX7_living 36 = .ok (.iinc 2 1, 3) := by decide +kernel
theorem dX7_living_39 : decode cX7_living 39 = .ok (.goto (-35), 3) := by decide +kernel
theorem dX7_living_42 : decode cX7_living 42 = .ok (.iload_n 1, 1) := by decide +kernel
theorem dX7_living_43 : decode cX7_living 43 = .ok (.ireturn, 1) := by decide +kernel
theorem dX7_deals_0 : decode cX7_deals 0 = .ok (.iload_n 1, 1) := by decide +kernel
theorem dX7_deals_1 : decode cX7_deals 1 = .ok (.istore_n 2, 1) := by decide +kernel
theorem dX7_deals_2 : decode cX7_deals 2 = .ok (.iconst 0, 1) := by decide +kernel
theorem dX7_deals_3 : decode cX7_deals 3 = .ok (.istore_n 3, 1) := by decide +kernel
theorem dX7_deals_4 : decode cX7_deals 4 = .ok (.iconst 1, 1) := by decide +kernel
theorem dX7_deals_5 : decode cX7_deals 5 = .ok (.istore 4, 2) := by decide +kernel
theorem dX7_deals_7 : decode cX7_deals 7 = .ok (.aload_n 0, 1) := by decide +kernel
theorem dX7_deals_8 : decode cX7_deals 8 = .ok (.getfield 7, 3) := by decide +kernel
theorem dX7_deals_11 : decode cX7_deals 11 = .ok (.iconst 1, 1) := by decide +kernel
theorem dX7_deals_12 : decode cX7_deals 12 = .ok (.isub, 1) := by decide +kernel
theorem dX7_deals_13 : decode cX7_deals 13 = .ok (.istore 5, 2) := by decide +kernel
theorem dX7_deals_15 : decode cX7_deals 15 = .ok (.iload 5, 2) := by decide +kernel
theorem dX7_deals_17 : decode cX7_deals 17 = .ok (.ifCond .lt 143, 3) := by decide +kernel
theorem dX7_deals_20 : decode cX7_deals 20 = .ok (.iload 4, 2) := by decide +kernel
theorem dX7_deals_22 : decode cX7_deals 22 = .ok (.ifCond .eq 138, 3) := by decide +kernel
theorem dX7_deals_25 : decode cX7_deals 25 = .ok (.aload_n 0, 1) := by decide +kernel
theorem dX7_deals_26 : decode cX7_deals 26 = .ok (.getfield 50, 3) := by decide +kernel
theorem dX7_deals_29 : decode cX7_deals 29 = .ok (.iload 5, 2) := by decide +kernel
theorem dX7_deals_31 : decode cX7_deals 31 = .ok (.iload_n 2, 1) := by decide +kernel
theorem dX7_deals_32 : decode cX7_deals 32 = .ok (.bipush 7, 2) := by decide +kernel
theorem dX7_deals_34 : decode cX7_deals 34 = .ok (.irem, 1) := by decide +kernel
theorem dX7_deals_35 : decode cX7_deals 35 = .ok (.iastore, 1) := by decide +kernel
theorem dX7_deals_36 : decode cX7_deals 36 = .ok (.iload_n 2, 1) := by decide +kernel
theorem dX7_deals_37 : decode cX7_deals 37 = .ok (.bipush 7, 2) := by decide +kernel
theorem dX7_deals_39 : decode cX7_deals 39 = .ok (.idiv, 1) := by decide +kernel
theorem dX7_deals_40 : decode cX7_deals 40 = .ok (.istore_n 2, 1) := by decide +kernel
theorem dX7_deals_41 : decode cX7_deals 41 = .ok (.aload_n 0, 1) := by decide +kernel
theorem dX7_deals_42 : decode cX7_deals 42 = .ok (.getfield 16, 3) := by decide +kernel
theorem dX7_deals_45 : decode cX7_deals 45 = .ok (.iload 5, 2) := by decide +kernel
theorem dX7_deals_47 : decode cX7_deals 47 = .ok (.iaload, 1) := by decide +kernel
theorem dX7_deals_48 : decode cX7_deals 48 = .ok (.ifCond .ge 23, 3) := by decide +kernel
theorem dX7_deals_51 : decode cX7_deals 51 = .ok (.aload_n 0, 1) := by decide +kernel
theorem dX7_deals_52 : decode cX7_deals 52 = .ok (.getfield 50, 3) := by decide +kernel
theorem dX7_deals_55 : decode cX7_deals 55 = .ok (.iload 5, 2) := by decide +kernel
theorem dX7_deals_57 : decode cX7_deals 57 = .ok (.iaload, 1) := by decide +kernel
theorem dX7_deals_58 : decode cX7_deals 58 = .ok (.bipush 6, 2) := by decide +kernel
theorem dX7_deals_60 : decode cX7_deals 60 = .ok (.if_icmp .ne 7, 3) := by decide +kernel
theorem dX7_deals_63 : decode cX7_deals 63 = .ok (.iconst 1, 1) := by decide +kernel
theorem dX7_deals_64 : decode cX7_deals 64 = .ok (.goto 55, 3) := by decide +kernel
theorem dX7_deals_67 : decode cX7_deals 67 = .ok (.iconst 0, 1) := by decide +kernel
theorem dX7_deals_68 : decode cX7_deals 68 = .ok (.goto 51, 3) := by decide +kernel
theorem dX7_deals_71 : decode cX7_deals 71 = .ok (.aload_n 0, 1) := by decide +kernel
theorem dX7_deals_72 : decode cX7_deals 72 = .ok (.getfield 50, 3) := by decide +kernel
theorem dX7_deals_75 : decode cX7_deals 75 = .ok (.iload 5, 2) := by decide +kernel
theorem dX7_deals_77 : decode cX7_deals 77 = .ok (.iaload, 1) := by decide +kernel
theorem dX7_deals_78 : decode cX7_deals 78 = .ok (.bipush 6, 2) := by decide +kernel
theorem dX7_deals_80 : decode cX7_deals 80 = .ok (.if_icmp .ge 38, 3) := by decide +kernel
theorem dX7_deals_83 : decode cX7_deals 83 = .ok (.aload_n 0, 1) := by decide +kernel
theorem dX7_deals_84 : decode cX7_deals 84 = .ok (.invokevirtual 166, 3) := by decide +kernel
theorem dX7_deals_87 : decode cX7_deals 87 = .ok (.aload_n 0, 1) := by decide +kernel
theorem dX7_deals_88 : decode cX7_deals 88 = .ok (.getfield 50, 3) := by decide +kernel
theorem dX7_deals_91 : decode cX7_deals 91 = .ok (.iload 5, 2) := by decide +kernel
theorem dX7_deals_93 : decode cX7_deals 93 = .ok (.iaload, 1) := by decide +kernel
theorem dX7_deals_94 : decode cX7_deals 94 = .ok (.invokestatic 169, 3) := by decide +kernel
theorem dX7_deals_97 : decode cX7_deals 97 = .ok (.ifCond .eq 21, 3) := by decide +kernel
theorem dX7_deals_100 : decode cX7_deals 100 = .ok (.iload_n 3, 1) := by decide +kernel
theorem dX7_deals_101 : decode cX7_deals 101 = .ok (.aload_n 0, 1) := by decide +kernel
theorem dX7_deals_102 : decode cX7_deals 102 = .ok (.getfield 50, 3) := by decide +kernel
theorem dX7_deals_105 : decode cX7_deals 105 = .ok (.iload 5, 2) := by decide +kernel
theorem dX7_deals_107 : decode cX7_deals 107 = .ok (.iaload, 1) := by decide +kernel
theorem dX7_deals_108 : decode cX7_deals 108 = .ok (.invokestatic 169, 3) := by decide +kernel
theorem dX7_deals_111 : decode cX7_deals 111 = .ok (.ifCond .ne 7, 3) := by decide +kernel
theorem dX7_deals_114 : decode cX7_deals 114 = .ok (.iconst 1, 1) := by decide +kernel
theorem dX7_deals_115 : decode cX7_deals 115 = .ok (.goto 4, 3) := by decide +kernel
theorem dX7_deals_118 : decode cX7_deals 118 = .ok (.iconst 0, 1) := by decide +kernel
theorem dX7_deals_119 : decode cX7_deals 119 = .ok (.istore 4, 2) := by decide +kernel
theorem dX7_deals_121 : decode cX7_deals 121 = .ok (.iload_n 3, 1) := by decide +kernel
theorem dX7_deals_122 : decode cX7_deals 122 = .ok (.iload 4, 2) := by decide +kernel
theorem dX7_deals_124 : decode cX7_deals 124 = .ok (.ifCond .eq 27, 3) := by decide +kernel
theorem dX7_deals_127 : decode cX7_deals 127 = .ok (.aload_n 0, 1) := by decide +kernel
theorem dX7_deals_128 : decode cX7_deals 128 = .ok (.getfield 50, 3) := by decide +kernel
theorem dX7_deals_131 : decode cX7_deals 131 = .ok (.iload 5, 2) := by decide +kernel
theorem dX7_deals_133 : decode cX7_deals 133 = .ok (.iaload, 1) := by decide +kernel
theorem dX7_deals_134 : decode cX7_deals 134 = .ok (.bipush 6, 2) := by decide +kernel
theorem dX7_deals_136 : decode cX7_deals 136 = .ok (.if_icmp .ge 15, 3) := by decide +kernel
theorem dX7_deals_139 : decode cX7_deals 139 = .ok (.iconst 1, 1) := by decide +kernel
theorem dX7_deals_140 : decode cX7_deals 140 = .ok (.aload_n 0, 1) := by decide +kernel
theorem dX7_deals_141 : decode cX7_deals 141 = .ok (.getfield 50, 3) := by decide +kernel
theorem dX7_deals_144 : decode cX7_deals 144 = .ok (.iload 5, 2) := by decide +kernel
theorem dX7_deals_146 : decode cX7_deals 146 = .ok (.iaload, 1) := by decide +kernel
theorem dX7_deals_147 : decode cX7_deals 147 = .ok (.ishl, 1) := by decide +kernel
theorem dX7_deals_148 : decode cX7_deals 148 = .ok (.goto 4, 3) := by decide +kernel
theorem dX7_deals_151 : decode cX7_deals 151 = .ok (.iconst 0, 1) := by decide +kernel
theorem dX7_deals_152 : decode cX7_deals 152 = .ok (.ior, 1) := by decide +kernel
theorem dX7_deals_153 : decode cX7_deals 153 = .ok (.istore_n 3, 1) := by decide +kernel
theorem dX7_deals_154 : decode cX7_deals 154 = .ok (.iinc 5 (-1), 3) := by decide +kernel
theorem dX7_deals_157 : decode cX7_deals 157 = .ok (.goto (-142), 3) := by decide +kernel
theorem dX7_deals_160 : decode cX7_deals 160 = .ok (.iload 4, 2) := by decide +kernel
theorem dX7_deals_162 : decode cX7_deals 162 = .ok (.ireturn, 1) := by decide +kernel
theorem dX7_coughOf_0 : decode cX7_coughOf 0 = .ok (.bipush (-6), 2) := by decide +kernel
theorem dX7_coughOf_2 : decode cX7_coughOf 2 = .ok (.istore_n 2, 1) := by decide +kernel
theorem dX7_coughOf_3 : decode cX7_coughOf 3 = .ok (.iconst 0, 1) := by decide +kernel
theorem dX7_coughOf_4 : decode cX7_coughOf 4 = .ok (.istore_n 3, 1) := by decide +kernel
theorem dX7_coughOf_5 : decode cX7_coughOf 5 = .ok (.iload_n 3, 1) := by decide +kernel
theorem dX7_coughOf_6 : decode cX7_coughOf 6 = .ok (.aload_n 0, 1) := by decide +kernel
theorem dX7_coughOf_7 : decode cX7_coughOf 7 = .ok (.getfield 7, 3) := by decide +kernel
theorem dX7_coughOf_10 : decode cX7_coughOf 10 = .ok (.if_icmp .ge 30, 3) := by decide +kernel
theorem dX7_coughOf_13 : decode cX7_coughOf 13 = .ok (.aload_n 0, 1) := by decide +kernel
theorem dX7_coughOf_14 : decode cX7_coughOf 14 = .ok (.getfield 50, 3) := by decide +kernel
theorem dX7_coughOf_17 : decode cX7_coughOf 17 = .ok (.iload_n 3, 1) := by decide +kernel
theorem dX7_coughOf_18 : decode cX7_coughOf 18 = .ok (.iaload, 1) := by decide +kernel
theorem dX7_coughOf_19 : decode cX7_coughOf 19 = .ok (.iload_n 1, 1) := by decide +kernel
theorem dX7_coughOf_20 : decode cX7_coughOf 20 = .ok (.if_icmp .ne 12, 3) := by decide +kernel
theorem dX7_coughOf_23 : decode cX7_coughOf 23 = .ok (.aload_n 0, 1) := by decide +kernel
theorem dX7_coughOf_24 : decode cX7_coughOf 24 = .ok (.getfield 29, 3) := by decide +kernel
theorem dX7_coughOf_27 : decode cX7_coughOf 27 = .ok (.iload_n 3, 1) := by decide +kernel
theorem dX7_coughOf_28 : decode cX7_coughOf 28 = .ok (.iaload, 1) := by decide +kernel
theorem dX7_coughOf_29 : decode cX7_coughOf 29 = .ok (.goto 4, 3) := by decide +kernel
theorem dX7_coughOf_32 : decode cX7_coughOf 32 = .ok (.iload_n 2, 1) := by decide +kernel
theorem dX7_coughOf_33 : decode cX7_coughOf 33 = .ok (.istore_n 2, 1) := by decide +kernel
theorem dX7_coughOf_34 : decode cX7_coughOf 34 = .ok (.iinc 3 1, 3) := by decide +kernel
theorem dX7_coughOf_37 : decode cX7_coughOf 37 = .ok (.goto (-32), 3) := by decide +kernel
theorem dX7_coughOf_40 : decode cX7_coughOf 40 = .ok (.iload_n 2, 1) := by decide +kernel
theorem dX7_coughOf_41 : decode cX7_coughOf 41 = .ok (.ireturn, 1) := by decide +kernel
theorem dX7_codes_0 : decode cX7_codes 0 = .ok (.iconst 1, 1) := by decide +kernel
theorem dX7_codes_1 : decode cX7_codes 1 = .ok (.istore_n 1, 1) := by decide +kernel
theorem dX7_codes_2 : decode cX7_codes 2 = .ok (.iconst 0, 1) := by decide +kernel
theorem dX7_codes_3 : decode cX7_codes 3 = .ok (.istore_n 2, 1) := by decide +kernel
theorem dX7_codes_4 : decode cX7_codes 4 = .ok (.iload_n 2, 1) := by decide +kernel
theorem dX7_codes_5 : decode cX7_codes 5 = .ok (.aload_n 0, 1) := by decide +kernel
theorem dX7_codes_6 : decode cX7_codes 6 = .ok (.getfield 7, 3) := by decide +kernel
theorem dX7_codes_9 : decode cX7_codes 9 = .ok (.if_icmp .ge 14, 3) := by decide +kernel
theorem dX7_codes_12 : decode cX7_codes 12 = .ok (.iload_n 1, 1) := by decide +kernel
theorem dX7_codes_13 : decode cX7_codes 13 = .ok (.bipush 7, 2) := by decide +kernel
theorem dX7_codes_15 : decode cX7_codes 15 = .ok (.imul, 1) := by decide +kernel
theorem dX7_codes_16 : decode cX7_codes 16 = .ok (.istore_n 1, 1) := by decide +kernel
theorem dX7_codes_17 : decode cX7_codes 17 = .ok (.iinc 2 1, 3) := by decide +kernel
theorem dX7_codes_20 : decode cX7_codes 20 = .ok (.goto (-16), 3) := by decide +kernel
theorem dX7_codes_23 : decode cX7_codes 23 = .ok (.iload_n 1, 1) := by decide +kernel
theorem dX7_codes_24 : decode cX7_codes 24 = .ok (.ireturn, 1) := by decide +kernel
theorem dX7_isRow_0 : decode cX7_isRow 0 = .ok (.aload_n 0, 1) := by decide +kernel
theorem dX7_isRow_1 : decode cX7_isRow 1 = .ok (.iload_n 1, 1) := by decide +kernel
theorem dX7_isRow_2 : decode cX7_isRow 2 = .ok (.invokevirtual 172, 3) := by decide +kernel
theorem dX7_isRow_5 : decode cX7_isRow 5 = .ok (.istore_n 2, 1) := by decide +kernel
theorem dX7_isRow_6 : decode cX7_isRow 6 = .ok (.iconst 0, 1) := by decide +kernel
theorem dX7_isRow_7 : decode cX7_isRow 7 = .ok (.istore_n 3, 1) := by decide +kernel
theorem dX7_isRow_8 : decode cX7_isRow 8 = .ok (.iload_n 3, 1) := by decide +kernel
theorem dX7_isRow_9 : decode cX7_isRow 9 = .ok (.aload_n 0, 1) := by decide +kernel
theorem dX7_isRow_10 : decode cX7_isRow 10 = .ok (.getfield 75, 3) := by decide +kernel
theorem dX7_isRow_13 : decode cX7_isRow 13 = .ok (.if_icmp .ge 44, 3) := by decide +kernel
theorem dX7_isRow_16 : decode cX7_isRow 16 = .ok (.iload_n 2, 1) := by decide +kernel
theorem dX7_isRow_17 : decode cX7_isRow 17 = .ok (.ifCond .eq 40, 3) := by decide +kernel
theorem dX7_isRow_20 : decode cX7_isRow 20 = .ok (.aload_n 0, 1) := by decide +kernel
theorem dX7_isRow_21 : decode cX7_isRow 21 = .ok (.aload_n 0, 1) := by decide +kernel
theorem dX7_isRow_22 : decode cX7_isRow 22 = .ok (.getfield 32, 3) := by decide +kernel
theorem dX7_isRow_25 : decode cX7_isRow 25 = .ok (.iconst 2, 1) := by decide +kernel
theorem dX7_isRow_26 : decode cX7_isRow 26 = .ok (.iload_n 3, 1) := by decide +kernel
theorem dX7_isRow_27 : decode cX7_isRow 27 = .ok (.imul, 1) := by decide +kernel
theorem dX7_isRow_28 : decode cX7_isRow 28 = .ok (.iaload, 1) := by decide +kernel
theorem dX7_isRow_29 : decode cX7_isRow 29 = .ok (.invokevirtual 175, 3) := by decide +kernel
theorem dX7_isRow_32 : decode cX7_isRow 32 = .ok (.aload_n 0, 1) := by decide +kernel
theorem dX7_isRow_33 : decode cX7_isRow 33 = .ok (.getfield 32, 3) := by decide +kernel
theorem dX7_isRow_36 : decode cX7_isRow 36 = .ok (.iconst 2, 1) := by decide +kernel
theorem dX7_isRow_37 : decode cX7_isRow 37 = .ok (.iload_n 3, 1) := by decide +kernel
theorem dX7_isRow_38 : decode cX7_isRow 38 = .ok (.imul, 1) := by decide +kernel
theorem dX7_isRow_39 : decode cX7_isRow 39 = .ok (.iconst 1, 1) := by decide +kernel
theorem dX7_isRow_40 : decode cX7_isRow 40 = .ok (.iadd, 1) := by decide +kernel
theorem dX7_isRow_41 : decode cX7_isRow 41 = .ok (.iaload, 1) := by decide +kernel
theorem dX7_isRow_42 : decode cX7_isRow 42 = .ok (.if_icmp .ne 7, 3) := by decide +kernel
theorem dX7_isRow_45 : decode cX7_isRow 45 = .ok (.iconst 1, 1) := by decide +kernel
theorem dX7_isRow_46 : decode cX7_isRow 46 = .ok (.goto 4, 3) := by decide +kernel
theorem dX7_isRow_49 : decode cX7_isRow 49 = .ok (.iconst 0, 1) := by decide +kernel
theorem dX7_isRow_50 : decode cX7_isRow 50 = .ok (.istore_n 2, 1) := by decide +kernel
theorem dX7_isRow_51 : decode cX7_isRow 51 = .ok (.iinc 3 1, 3) := by decide +kernel
theorem dX7_isRow_54 : decode cX7_isRow 54 = .ok (.goto (-46), 3) := by decide +kernel
theorem dX7_isRow_57 : decode cX7_isRow 57 = .ok (.iload_n 2, 1) := by decide +kernel
theorem dX7_isRow_58 : decode cX7_isRow 58 = .ok (.ireturn, 1) := by decide +kernel
theorem dX7_changed_0 : decode cX7_changed 0 = .ok (.aload_n 0, 1) := by decide +kernel
theorem dX7_changed_1 : decode cX7_changed 1 = .ok (.invokevirtual 178, 3) := by decide +kernel
theorem dX7_changed_4 : decode cX7_changed 4 = .ok (.istore_n 2, 1) := by decide +kernel
theorem dX7_changed_5 : decode cX7_changed 5 = .ok (.iconst 0, 1) := by decide +kernel
theorem dX7_changed_6 : decode cX7_changed 6 = .ok (.istore_n 3, 1) := by decide +kernel
theorem dX7_changed_7 : decode cX7_changed 7 = .ok (.iconst 0, 1) := by decide +kernel
theorem dX7_changed_8 : decode cX7_changed 8 = .ok (.istore 4, 2) := by decide +kernel
theorem dX7_changed_10 : decode cX7_changed 10 = .ok (.iload 4, 2) := by decide +kernel
theorem dX7_changed_12 : decode cX7_changed 12 = .ok (.iload_n 2, 1) := by decide +kernel
theorem dX7_changed_13 : decode cX7_changed 13 = .ok (.if_icmp .ge 65, 3) := by decide +kernel
theorem dX7_changed_16 : decode cX7_changed 16 = .ok (.aload_n 0, 1) := by decide +kernel
theorem dX7_changed_17 : decode cX7_changed 17 = .ok (.iload 4, 2) := by decide +kernel
theorem dX7_changed_19 : decode cX7_changed 19 = .ok (.invokevirtual 181, 3) := by decide +kernel
theorem dX7_changed_22 : decode cX7_changed 22 = .ok (.ifCond .eq 50, 3) := by decide +kernel
theorem dX7_changed_25 : decode cX7_changed 25 = .ok (.iload_n 3, 1) := by decide +kernel
theorem dX7_changed_26 : decode cX7_changed 26 = .ok (.iload_n 1, 1) := by decide +kernel
theorem dX7_changed_27 : decode cX7_changed 27 = .ok (.if_icmp .ne 42, 3) := by decide +kernel
theorem dX7_changed_30 : decode cX7_changed 30 = .ok (.iconst 0, 1) := by decide +kernel
theorem dX7_changed_31 : decode cX7_changed 31 = .ok (.istore 5, 2) := by decide +kernel
theorem dX7_changed_33 : decode cX7_changed 33 = .ok (.iconst 0, 1) := by decide +kernel
theorem dX7_changed_34 : decode cX7_changed 34 = .ok (.istore 6, 2) := by decide +kernel
theorem dX7_changed_36 : decode cX7_changed 36 = .ok (.iload 6, 2) := by decide +kernel
theorem dX7_changed_38 : decode cX7_changed 38 = .ok (.aload_n 0, 1) := by decide +kernel
theorem dX7_changed_39 : decode cX7_changed 39 = .ok (.getfield 7, 3) := by decide +kernel
theorem dX7_changed_42 : decode cX7_changed 42 = .ok (.if_icmp .ge 24, 3) := by decide +kernel
theorem dX7_changed_45 : decode cX7_changed 45 = .ok (.bipush 10, 2) := by decide +kernel
theorem dX7_changed_47 : decode cX7_changed 47 = .ok (.iload 5, 2) := by decide +kernel
theorem dX7_changed_49 : decode cX7_changed 49 = .ok (.imul, 1) := by decide +kernel
theorem dX7_changed_50 : decode cX7_changed 50 = .ok (.aload_n 0, 1) := by decide +kernel
theorem dX7_changed_51 : decode cX7_changed 51 = .ok (.getfield 50, 3) := by decide +kernel
theorem dX7_changed_54 : decode cX7_changed 54 = .ok (.iload 6, 2) := by decide +kernel
theorem dX7_changed_56 : decode cX7_changed 56 = .ok (.iaload, 1) := by decide +kernel
theorem dX7_changed_57 : decode cX7_changed 57 = .ok (.iadd, 1) := by decide +kernel
theorem dX7_changed_58 : decode cX7_changed 58 = .ok (.istore 5, 2) := by decide +kernel
theorem dX7_changed_60 : decode cX7_changed 60 = .ok (.iinc 6 1, 3) := by decide +kernel
theorem dX7_changed_63 : decode cX7_changed 63 = .ok (.goto (-27), 3) := by decide +kernel
theorem dX7_changed_66 : decode cX7_changed 66 = .ok (.iload 5, 2) := by decide +kernel
theorem dX7_changed_68 : decode cX7_changed 68 = .ok (.ireturn, 1) := by decide +kernel
theorem dX7_changed_69 : decode cX7_changed 69 = .ok (.iinc 3 1, 3) := by decide +kernel
theorem dX7_changed_72 : decode cX7_changed 72 = .ok (.iinc 4 1, 3) := by decide +kernel
theorem dX7_changed_75 : decode cX7_changed 75 = .ok (.goto (-65), 3) := by decide +kernel
theorem dX7_changed_78 : decode cX7_changed 78 = .ok (.iload_n 1, 1) := by decide +kernel
theorem dX7_changed_79 : decode cX7_changed 79 = .ok (.iconst (-1), 1) := by decide +kernel
theorem dX7_changed_80 : decode cX7_changed 80 = .ok (.if_icmp .ne 7, 3) := by decide +kernel
theorem dX7_changed_83 : decode cX7_changed 83 = .ok (.iload_n 3, 1) := by decide +kernel
theorem dX7_changed_84 : decode cX7_changed 84 = .ok (.goto 5, 3) := by decide +kernel
theorem dX7_changed_87 : decode cX7_changed 87 = .ok (.bipush (-6), 2) := by decide +kernel
theorem dX7_changed_89 : decode cX7_changed 89 = .ok (.ireturn, 1) := by decide +kernel
theorem dX7_names_0 : decode cX7_names 0 = .ok (.aload_n 0, 1) := by decide +kernel
theorem dX7_names_1 : decode cX7_names 1 = .ok (.iload_n 1, 1) := by decide +kernel
theorem dX7_names_2 : decode cX7_names 2 = .ok (.invokevirtual 82, 3) := by decide +kernel
theorem dX7_names_5 : decode cX7_names 5 = .ok (.ifCond .eq 12, 3) := by decide +kernel
theorem dX7_names_8 : decode cX7_names 8 = .ok (.aload_n 0, 1) := by decide +kernel
theorem dX7_names_9 : decode cX7_names 9 = .ok (.getfield 16, 3) := by decide +kernel
theorem dX7_names_12 : decode cX7_names 12 = .ok (.iload_n 1, 1) := by decide +kernel
theorem dX7_names_13 : decode cX7_names 13 = .ok (.iaload, 1) := by decide +kernel
theorem dX7_names_14 : decode cX7_names 14 = .ok (.ifCond .ge 5, 3) := by decide +kernel
theorem dX7_names_17 : decode cX7_names 17 = .ok (.iconst (-1), 1) := by decide +kernel
theorem dX7_names_18 : decode cX7_names 18 = .ok (.ireturn, 1) := by decide +kernel
theorem dX7_names_19 : decode cX7_names 19 = .ok (.aload_n 0, 1) := by decide +kernel
theorem dX7_names_20 : decode cX7_names 20 = .ok (.invokevirtual 178, 3) := by decide +kernel
theorem dX7_names_23 : decode cX7_names 23 = .ok (.istore_n 2, 1) := by decide +kernel
theorem dX7_names_24 : decode cX7_names 24 = .ok (.iconst 0, 1) := by decide +kernel
theorem dX7_names_25 : decode cX7_names 25 = .ok (.istore_n 3, 1) := by decide +kernel
theorem dX7_names_26 : decode cX7_names 26 = .ok (.iconst 0, 1) := by decide +kernel
theorem dX7_names_27 : decode cX7_names 27 = .ok (.istore 4, 2) := by decide +kernel
theorem dX7_names_29 : decode cX7_names 29 = .ok (.iload 4, 2) := by decide +kernel
theorem dX7_names_31 : decode cX7_names 31 = .ok (.iload_n 2, 1) := by decide +kernel
theorem dX7_names_32 : decode cX7_names 32 = .ok (.if_icmp .ge 33, 3) := by decide +kernel
theorem dX7_names_35 : decode cX7_names 35 = .ok (.iload_n 3, 1) := by decide +kernel
theorem dX7_names_36 : decode cX7_names 36 = .ok (.aload_n 0, 1) := by decide +kernel
theorem dX7_names_37 : decode cX7_names 37 = .ok (.iload 4, 2) := by decide +kernel
theorem dX7_names_39 : decode cX7_names 39 = .ok (.invokevirtual 181, 3) := by decide +kernel
theorem dX7_names_42 : decode cX7_names 42 = .ok (.ifCond .eq 14, 3) := by decide +kernel
theorem dX7_names_45 : decode cX7_names 45 = .ok (.iconst 1, 1) := by decide +kernel
theorem dX7_names_46 : decode cX7_names 46 = .ok (.aload_n 0, 1) := by decide +kernel
theorem dX7_names_47 : decode cX7_names 47 = .ok (.getfield 50, 3) := by decide +kernel
theorem dX7_names_50 : decode cX7_names 50 = .ok (.iload_n 1, 1) := by decide +kernel
theorem dX7_names_51 : decode cX7_names 51 = .ok (.iaload, 1) := by decide +kernel
theorem dX7_names_52 : decode cX7_names 52 = .ok (.ishl, 1) := by decide +kernel
theorem dX7_names_53 : decode cX7_names 53 = .ok (.goto 4, 3) := by decide +kernel
theorem dX7_names_56 : decode cX7_names 56 = .ok (.iconst 0, 1) := by decide +kernel
theorem dX7_names_57 : decode cX7_names 57 = .ok (.ior, 1) := by decide +kernel
theorem dX7_names_58 : decode cX7_names 58 = .ok (.istore_n 3, 1) := by decide +kernel
theorem dX7_names_59 : decode cX7_names 59 = .ok (.iinc 4 1, 3) := by decide +kernel
theorem dX7_names_62 : decode cX7_names 62 = .ok (.goto (-33), 3) := by decide +kernel
theorem dX7_names_65 : decode cX7_names 65 = .ok (.iload_n 3, 1) := by decide +kernel
theorem dX7_names_66 : decode cX7_names 66 = .ok (.ireturn, 1) := by decide +kernel
theorem dX7_hear_0 : decode cX7_hear 0 = .ok (.iload_n 1, 1) := by decide +kernel
theorem dX7_hear_1 : decode cX7_hear 1 = .ok (.iconst 0, 1) := by decide +kernel
theorem dX7_hear_2 : decode cX7_hear 2 = .ok (.iconst 1, 1) := by decide +kernel
theorem dX7_hear_3 : decode cX7_hear 3 = .ok (.invokestatic 78, 3) := by decide +kernel
theorem dX7_hear_6 : decode cX7_hear 6 = .ok (.ifCond .ne 6, 3) := by decide +kernel
theorem dX7_hear_9 : decode cX7_hear 9 = .ok (.bipush (-2), 2) := by decide +kernel
theorem dX7_hear_11 : decode cX7_hear 11 = .ok (.ireturn, 1) := by decide +kernel
theorem dX7_hear_12 : decode cX7_hear 12 = .ok (.aload_n 0, 1) := by decide +kernel
theorem dX7_hear_13 : decode cX7_hear 13 = .ok (.invokevirtual 178, 3) := by decide +kernel
theorem dX7_hear_16 : decode cX7_hear 16 = .ok (.istore_n 2, 1) := by decide +kernel
theorem dX7_hear_17 : decode cX7_hear 17 = .ok (.iconst 0, 1) := by decide +kernel
theorem dX7_hear_18 : decode cX7_hear 18 = .ok (.istore_n 3, 1) := by decide +kernel
theorem dX7_hear_19 : decode cX7_hear 19 = .ok (.iconst 0, 1) := by decide +kernel
theorem dX7_hear_20 : decode cX7_hear 20 = .ok (.istore 4, 2) := by decide +kernel
theorem dX7_hear_22 : decode cX7_hear 22 = .ok (.iload 4, 2) := by decide +kernel
theorem dX7_hear_24 : decode cX7_hear 24 = .ok (.bipush 6, 2) := by decide +kernel
theorem dX7_hear_26 : decode cX7_hear 26 = .ok (.if_icmp .ge 17, 3) := by decide +kernel
theorem dX7_hear_29 : decode cX7_hear 29 = .ok (.aload_n 0, 1) := by decide +kernel
theorem dX7_hear_30 : decode cX7_hear 30 = .ok (.getfield 53, 3) := by decide +kernel
theorem dX7_hear_33 : decode cX7_hear 33 = .ok (.iload 4, 2) := by decide +kernel
theorem dX7_hear_35 : decode cX7_hear 35 = .ok (.iconst 0, 1) := by decide +kernel
theorem dX7_hear_36 : decode cX7_hear 36 = .ok (.iastore, 1) := by decide +kernel
theorem dX7_hear_37 : decode cX7_hear 37 = .ok (.iinc 4 1, 3) := by decide +kernel
theorem dX7_hear_40 : decode cX7_hear 40 = .ok (.goto (-18), 3) := by decide +kernel
theorem dX7_hear_43 : decode cX7_hear 43 = .ok (.iconst 0, 1) := by decide +kernel
theorem dX7_hear_44 : decode cX7_hear 44 = .ok (.istore 4, 2) := by decide +kernel
theorem dX7_hear_46 : decode cX7_hear 46 = .ok (.iload 4, 2) := by decide +kernel
theorem dX7_hear_48 : decode cX7_hear 48 = .ok (.iload_n 2, 1) := by decide +kernel
theorem dX7_hear_49 : decode cX7_hear 49 = .ok (.if_icmp .ge 64, 3) := by decide +kernel
theorem dX7_hear_52 : decode cX7_hear 52 = .ok (.aload_n 0, 1) := by decide +kernel
theorem dX7_hear_53 : decode cX7_hear 53 = .ok (.iload 4, 2) := by decide +kernel
theorem dX7_hear_55 : decode cX7_hear 55 = .ok (.invokevirtual 181, 3) := by decide +kernel
theorem dX7_hear_58 : decode cX7_hear 58 = .ok (.ifCond .eq 49, 3) := by decide +kernel
theorem dX7_hear_61 : decode cX7_hear 61 = .ok (.iinc 3 1, 3) := by decide +kernel
theorem dX7_hear_64 : decode cX7_hear 64 = .ok (.iconst 0, 1) := by decide +kernel
theorem dX7_hear_65 : decode cX7_hear 65 = .ok (.istore 5, 2) := by decide +kernel
theorem dX7_hear_67 : decode cX7_hear 67 = .ok (.iload 5, 2) := by decide +kernel
theorem dX7_hear_69 : decode cX7_hear 69 = .ok (.aload_n 0, 1) := by decide +kernel
theorem dX7_hear_70 : decode cX7_hear 70 = .ok (.getfield 7, 3) := by decide +kernel
theorem dX7_hear_73 : decode cX7_hear 73 = .ok (.if_icmp .ge 34, 3) := by decide +kernel
theorem dX7_hear_76 : decode cX7_hear 76 = .ok (.aload_n 0, 1) := by decide +kernel
theorem dX7_hear_77 : decode cX7_hear 77 = .ok (.getfield 53, 3) := by decide +kernel
theorem dX7_hear_80 : decode cX7_hear 80 = .ok (.iload 5, 2) := by decide +kernel
theorem dX7_hear_82 : decode cX7_hear 82 = .ok (.dup2, 1) := by decide +kernel
theorem dX7_hear_83 : decode cX7_hear 83 = .ok (.iaload, 1) := by decide +kernel
theorem dX7_hear_84 : decode cX7_hear 84 = .ok (.aload_n 0, 1) := by decide +kernel
theorem dX7_hear_85 : decode cX7_hear 85 = .ok (.iload 5, 2) := by decide +kernel
theorem dX7_hear_87 : decode cX7_hear 87 = .ok (.invokevirtual 175, 3) := by decide +kernel
theorem dX7_hear_90 : decode cX7_hear 90 = .ok (.iconst 1, 1) := by decide +kernel
theorem dX7_hear_91 : decode cX7_hear 91 = .ok (.if_icmp .ne 7, 3) := by decide +kernel
theorem dX7_hear_94 : decode cX7_hear 94 = .ok (.iconst 1, 1) := by decide +kernel
theorem dX7_hear_95 : decode cX7_hear 95 = .ok (.goto 4, 3) := by decide +kernel
theorem dX7_hear_98 : decode cX7_hear 98 = .ok (.iconst 0, 1) := by decide +kernel
theorem dX7_hear_99 : decode cX7_hear 99 = .ok (.iadd, 1) := by decide +kernel
theorem dX7_hear_100 : decode cX7_hear 100 = .ok (.iastore, 1) := by decide +kernel
theorem dX7_hear_101 : decode cX7_hear 101 = .ok (.iinc 5 1, 3) := by decide +kernel
theorem dX7_hear_104 : decode cX7_hear 104 = .ok (.goto (-37), 3) := by decide +kernel
theorem dX7_hear_107 : decode cX7_hear 107 = .ok (.iinc 4 1, 3) := by decide +kernel
theorem dX7_hear_110 : decode cX7_hear 110 = .ok (.goto (-64), 3) := by decide +kernel
theorem dX7_hear_113 : decode cX7_hear 113 = .ok (.bipush (-6), 2) := by decide +kernel
theorem dX7_hear_115 : decode cX7_hear 115 = .ok (.istore 4, 2) := by decide +kernel
theorem dX7_hear_117 : decode cX7_hear 117 = .ok (.ldc 184, 2) := by decide +kernel
theorem dX7_hear_119 : decode cX7_hear 119 = .ok (.istore 5, 2) := by decide +kernel
theorem dX7_hear_121 : decode cX7_hear 121 = .ok (.iconst 0, 1) := by decide +kernel
theorem dX7_hear_122 : decode cX7_hear 122 = .ok (.istore 6, 2) := by decide +kernel
theorem dX7_hear_124 : decode cX7_hear 124 = .ok (.iload 6, 2) := by decide +kernel
theorem dX7_hear_126 : decode cX7_hear 126 = .ok (.aload_n 0, 1) := by decide +kernel
theorem dX7_hear_127 : decode cX7_hear 127 = .ok (.getfield 7, 3) := by decide +kernel
theorem dX7_hear_130 : decode cX7_hear 130 = .ok (.if_icmp .ge 107, 3) := by decide +kernel
theorem dX7_hear_133 : decode cX7_hear 133 = .ok (.iload_n 3, 1) := by decide +kernel
theorem dX7_hear_134 : decode cX7_hear 134 = .ok (.ifCond .le 103, 3) := by decide +kernel
theorem dX7_hear_137 : decode cX7_hear 137 = .ok (.aload_n 0, 1) := by decide +kernel
theorem dX7_hear_138 : decode cX7_hear 138 = .ok (.getfield 53, 3) := by decide +kernel
theorem dX7_hear_141 : decode cX7_hear 141 = .ok (.iload 6, 2) := by decide +kernel
theorem dX7_hear_143 : decode cX7_hear 143 = .ok (.iaload, 1) := by decide +kernel
theorem dX7_hear_144 : decode cX7_hear 144 = .ok (.iload_n 3, 1) := by decide +kernel
theorem dX7_hear_145 : decode cX7_hear 145 = .ok (.aload_n 0, 1) := by decide +kernel
theorem dX7_hear_146 : decode cX7_hear 146 = .ok (.getfield 53, 3) := by decide +kernel
theorem dX7_hear_149 : decode cX7_hear 149 = .ok (.iload 6, 2) := by decide +kernel
theorem dX7_hear_151 : decode cX7_hear 151 = .ok (.iaload, 1) := by decide +kernel
theorem dX7_hear_152 : decode cX7_hear 152 = .ok (.isub, 1) := by decide +kernel
theorem dX7_hear_153 : decode cX7_hear 153 = .ok (.if_icmp .le 13, 3) := by decide +kernel
theorem dX7_hear_156 : decode cX7_hear 156 = .ok (.aload_n 0, 1) := by decide +kernel
theorem dX7_hear_157 : decode cX7_hear 157 = .ok (.getfield 53, 3) := by decide +kernel
theorem dX7_hear_160 : decode cX7_hear 160 = .ok (.iload 6, 2) := by decide +kernel
theorem dX7_hear_162 : decode cX7_hear 162 = .ok (.iaload, 1) := by decide +kernel
theorem dX7_hear_163 : decode cX7_hear 163 = .ok (.goto 12, 3) := by decide +kernel
theorem dX7_hear_166 : decode cX7_hear 166 = .ok (.iload_n 3, 1) := by decide +kernel
theorem dX7_hear_167 : decode cX7_hear 167 = .ok (.aload_n 0, 1) := by decide +kernel
theorem dX7_hear_168 : decode cX7_hear 168 = .ok (.getfield 53, 3) := by decide +kernel
theorem dX7_hear_171 : decode cX7_hear 171 = .ok (.iload 6, 2) := by decide +kernel
theorem dX7_hear_173 : decode cX7_hear 173 = .ok (.iaload, 1) := by decide +kernel
theorem dX7_hear_174 : decode cX7_hear 174 = .ok (.isub, 1) := by decide +kernel
theorem dX7_hear_175 : decode cX7_hear 175 = .ok (.istore 7, 2) := by decide +kernel
theorem dX7_hear_177 : decode cX7_hear 177 = .ok (.aload_n 0, 1) := by decide +kernel
theorem dX7_hear_178 : decode cX7_hear 178 = .ok (.invokevirtual 166, 3) := by decide +kernel
theorem dX7_hear_181 : decode cX7_hear 181 = .ok (.iload 6, 2) := by decide +kernel
theorem dX7_hear_183 : decode cX7_hear 183 = .ok (.invokestatic 169, 3) := by decide +kernel
theorem dX7_hear_186 : decode cX7_hear 186 = .ok (.ifCond .eq 14, 3) := by decide +kernel
theorem dX7_hear_189 : decode cX7_hear 189 = .ok (.iload 7, 2) := by decide +kernel
theorem dX7_hear_191 : decode cX7_hear 191 = .ok (.iload 5, 2) := by decide +kernel
theorem dX7_hear_193 : decode cX7_hear 193 = .ok (.if_icmp .ge 7, 3) := by decide +kernel
theorem dX7_hear_196 : decode cX7_hear 196 = .ok (.iconst 1, 1) := by decide +kernel
theorem dX7_hear_197 : decode cX7_hear 197 = .ok (.goto 4, 3) := by decide +kernel
theorem dX7_hear_200 : decode cX7_hear 200 = .ok (.iconst 0, 1) := by decide +kernel
theorem dX7_hear_201 : decode cX7_hear 201 = .ok (.istore 8, 2) := by decide +kernel
theorem dX7_hear_203 : decode cX7_hear 203 = .ok (.iload 8, 2) := by decide +kernel
theorem dX7_hear_205 : decode cX7_hear 205 = .ok (.ifCond .eq 8, 3) := by decide +kernel
theorem dX7_hear_208 : decode cX7_hear 208 = .ok (.iload 6, 2) := by decide +kernel
theorem dX7_hear_210 : decode cX7_hear 210 = .ok (.goto 5, 3) := by decide +kernel
theorem dX7_hear_213 : decode cX7_hear 213 = .ok (.iload 4, 2) := by decide +kernel
theorem dX7_hear_215 : decode cX7_hear 215 = .ok (.istore 4, 2) := by decide +kernel
theorem dX7_hear_217 : decode cX7_hear 217 = .ok (.iload 8, 2) := by decide +kernel
theorem dX7_hear_219 : decode cX7_hear 219 = .ok (.ifCond .eq 8, 3) := by decide +kernel
theorem dX7_hear_222 : decode cX7_hear 222 = .ok (.iload 7, 2) := by decide +kernel
theorem dX7_hear_224 : decode cX7_hear 224 = .ok (.goto 5, 3) := by decide +kernel
theorem dX7_hear_227 : decode cX7_hear 227 = .ok (.iload 5, 2) := by decide +kernel
theorem dX7_hear_229 : decode cX7_hear 229 = .ok (.istore 5, 2) := by decide +kernel
theorem dX7_hear_231 : decode cX7_hear 231 = .ok (.iinc 6 1, 3) := by decide +kernel
theorem dX7_hear_234 : decode cX7_hear 234 = .ok (.goto (-110), 3) := by decide +kernel
theorem dX7_hear_237 : decode cX7_hear 237 = .ok (.iload 4, 2) := by decide +kernel
theorem dX7_hear_239 : decode cX7_hear 239 = .ok (.ifCond .lt 7, 3) := by decide +kernel
theorem dX7_hear_242 : decode cX7_hear 242 = .ok (.iload_n 1, 1) := by decide +kernel
theorem dX7_hear_243 : decode cX7_hear 243 = .ok (.ifCond .ne 8, 3) := by decide +kernel
theorem dX7_hear_246 : decode cX7_hear 246 = .ok (.iload 4, 2) := by decide +kernel
theorem dX7_hear_248 : decode cX7_hear 248 = .ok (.goto 5, 3) := by decide +kernel
theorem dX7_hear_251 : decode cX7_hear 251 = .ok (.iload 5, 2) := by decide +kernel
theorem dX7_hear_253 : decode cX7_hear 253 = .ok (.ireturn, 1) := by decide +kernel
theorem dX7_undo_0 : decode cX7_undo 0 = .ok (.iconst 0, 1) := by decide +kernel
theorem dX7_undo_1 : decode cX7_undo 1 = .ok (.istore_n 1, 1) := by decide +kernel
theorem dX7_undo_2 : decode cX7_undo 2 = .ok (.iconst 0, 1) := by decide +kernel
theorem dX7_undo_3 : decode cX7_undo 3 = .ok (.istore_n 2, 1) := by decide +kernel
theorem dX7_undo_4 : decode cX7_undo 4 = .ok (.iconst 0, 1) := by decide +kernel
theorem dX7_undo_5 : decode cX7_undo 5 = .ok (.istore_n 3, 1) := by decide +kernel
theorem dX7_undo_6 : decode cX7_undo 6 = .ok (.iload_n 3, 1) := by decide +kernel
theorem dX7_undo_7 : decode cX7_undo 7 = .ok (.aload_n 0, 1) := by decide +kernel
theorem dX7_undo_8 : decode cX7_undo 8 = .ok (.getfield 7, 3) := by decide +kernel
theorem dX7_undo_11 : decode cX7_undo 11 = .ok (.if_icmp .ge 32, 3) := by decide +kernel
theorem dX7_undo_14 : decode cX7_undo 14 = .ok (.aload_n 0, 1) := by decide +kernel
theorem dX7_undo_15 : decode cX7_undo 15 = .ok (.getfield 16, 3) := by decide +kernel
theorem dX7_undo_18 : decode cX7_undo 18 = .ok (.iload_n 3, 1) := by decide +kernel
theorem dX7_undo_19 : decode cX7_undo 19 = .ok (.iaload, 1) := by decide +kernel
theorem dX7_undo_20 : decode cX7_undo 20 = .ok (.ifCond .lt 17, 3) := by decide +kernel
theorem dX7_undo_23 : decode cX7_undo 23 = .ok (.aload_n 0, 1) := by decide +kernel
theorem dX7_undo_24 : decode cX7_undo 24 = .ok (.invokevirtual 166, 3) := by decide +kernel
theorem dX7_undo_27 : decode cX7_undo 27 = .ok (.iload_n 3, 1) := by decide +kernel
theorem dX7_undo_28 : decode cX7_undo 28 = .ok (.invokestatic 169, 3) := by decide +kernel
theorem dX7_undo_31 : decode cX7_undo 31 = .ok (.ifCond .ne 6, 3) := by decide +kernel
theorem dX7_undo_34 : decode cX7_undo 34 = .ok (.bipush (-6), 2) := by decide +kernel
theorem dX7_undo_36 : decode cX7_undo 36 = .ok (.ireturn, 1) := by decide +kernel
theorem dX7_undo_37 : decode cX7_undo 37 = .ok (.iinc 3 1, 3) := by decide +kernel
theorem dX7_undo_40 : decode cX7_undo 40 = .ok (.goto (-34), 3) := by decide +kernel
theorem dX7_undo_43 : decode cX7_undo 43 = .ok (.iconst 0, 1) := by decide +kernel
theorem dX7_undo_44 : decode cX7_undo 44 = .ok (.istore_n 3, 1) := by decide +kernel
theorem dX7_undo_45 : decode cX7_undo 45 = .ok (.iload_n 3, 1) := by decide +kernel
theorem dX7_undo_46 : decode cX7_undo 46 = .ok (.aload_n 0, 1) := by decide +kernel
theorem dX7_undo_47 : decode cX7_undo 47 = .ok (.getfield 7, 3) := by decide +kernel
theorem dX7_undo_50 : decode cX7_undo 50 = .ok (.if_icmp .ge 76, 3) := by decide +kernel
theorem dX7_undo_53 : decode cX7_undo 53 = .ok (.aload_n 0, 1) := by decide +kernel
theorem dX7_undo_54 : decode cX7_undo 54 = .ok (.getfield 16, 3) := by decide +kernel
theorem dX7_undo_57 : decode cX7_undo 57 = .ok (.iload_n 3, 1) := by decide +kernel
theorem dX7_undo_58 : decode cX7_undo 58 = .ok (.iaload, 1) := by decide +kernel
theorem dX7_undo_59 : decode cX7_undo 59 = .ok (.ifCond .lt 61, 3) := by decide +kernel
theorem dX7_undo_62 : decode cX7_undo 62 = .ok (.iload_n 2, 1) := by decide +kernel
theorem dX7_undo_63 : decode cX7_undo 63 = .ok (.iload_n 3, 1) := by decide +kernel
theorem dX7_undo_64 : decode cX7_undo 64 = .ok (.invokestatic 169, 3) := by decide +kernel
theorem dX7_undo_67 : decode cX7_undo 67 = .ok (.ifCond .ne 53, 3) := by decide +kernel
theorem dX7_undo_70 : decode cX7_undo 70 = .ok (.iload_n 3, 1) := by decide +kernel
theorem dX7_undo_71 : decode cX7_undo 71 = .ok (.istore 4, 2) := by decide +kernel
theorem dX7_undo_73 : decode cX7_undo 73 = .ok (.iload_n 2, 1) := by decide +kernel
theorem dX7_undo_74 : decode cX7_undo 74 = .ok (.iload 4, 2) := by decide +kernel
theorem dX7_undo_76 : decode cX7_undo 76 = .ok (.invokestatic 169, 3) := by decide +kernel
theorem dX7_undo_79 : decode cX7_undo 79 = .ok (.ifCond .ne 41, 3) := by decide +kernel
theorem dX7_undo_82 : decode cX7_undo 82 = .ok (.iload_n 2, 1) := by decide +kernel
theorem dX7_undo_83 : decode cX7_undo 83 = .ok (.iconst 1, 1) := by decide +kernel
theorem dX7_undo_84 : decode cX7_undo 84 = .ok (.iload 4, 2) := by decide +kernel
theorem dX7_undo_86 : decode cX7_undo 86 = .ok (.ishl, 1) := by decide +kernel
theorem dX7_undo_87 : decode cX7_undo 87 = .ok (.ior, 1) := by decide +kernel
theorem dX7_undo_88 : decode cX7_undo 88 = .ok (.istore_n 2, 1) := by decide +kernel
theorem dX7_undo_89 : decode cX7_undo 89 = .ok (.iload_n 1, 1) := by decide +kernel
theorem dX7_undo_90 : decode cX7_undo 90 = .ok (.aload_n 0, 1) := by decide +kernel
theorem dX7_undo_91 : decode cX7_undo 91 = .ok (.getfield 20, 3) := by decide +kernel
theorem dX7_undo_94 : decode cX7_undo 94 = .ok (.iload 4, 2) := by decide +kernel
theorem dX7_undo_96 : decode cX7_undo 96 = .ok (.iaload, 1) := by decide +kernel
theorem dX7_undo_97 : decode cX7_undo 97 = .ok (.iload_n 3, 1) := by decide +kernel
theorem dX7_undo_98 : decode cX7_undo 98 = .ok (.if_icmp .eq 7, 3) := by decide +kernel
theorem dX7_undo_101 : decode cX7_undo 101 = .ok (.iconst 1, 1) := by decide +kernel
theorem dX7_undo_102 : decode cX7_undo 102 = .ok (.goto 4, 3) := by decide +kernel
theorem dX7_undo_105 : decode cX7_undo 105 = .ok (.iconst 0, 1) := by decide +kernel
theorem dX7_undo_106 : decode cX7_undo 106 = .ok (.iadd, 1) := by decide +kernel
theorem dX7_undo_107 : decode cX7_undo 107 = .ok (.istore_n 1, 1) := by decide +kernel
theorem dX7_undo_108 : decode cX7_undo 108 = .ok (.aload_n 0, 1) := by decide +kernel
theorem dX7_undo_109 : decode cX7_undo 109 = .ok (.getfield 20, 3) := by decide +kernel
theorem dX7_undo_112 : decode cX7_undo 112 = .ok (.iload 4, 2) := by decide +kernel
theorem dX7_undo_114 : decode cX7_undo 114 = .ok (.iaload, 1) := by decide +kernel
theorem dX7_undo_115 : decode cX7_undo 115 = .ok (.istore 4, 2) := by decide +kernel
theorem dX7_undo_117 : decode cX7_undo 117 = .ok (.goto (-44), 3) := by decide +kernel
theorem dX7_undo_120 : decode cX7_undo 120 = .ok (.iinc 3 1, 3) := by decide +kernel
theorem dX7_undo_123 : decode cX7_undo 123 = .ok (.goto (-78), 3) := by decide +kernel
theorem dX7_undo_126 : decode cX7_undo 126 = .ok (.iload_n 1, 1) := by decide +kernel
theorem dX7_undo_127 : decode cX7_undo 127 = .ok (.ireturn, 1) := by decide +kernel
theorem dX7_marriages_0 : decode cX7_marriages 0 = .ok (.iload_n 1, 1) := by decide +kernel
theorem dX7_marriages_1 : decode cX7_marriages 1 = .ok (.iconst 1, 1) := by decide +kernel
theorem dX7_marriages_2 : decode cX7_marriages 2 = .ok (.bipush 24, 2) := by decide +kernel
theorem dX7_marriages_4 : decode cX7_marriages 4 = .ok (.invokestatic 78, 3) := by decide +kernel
theorem dX7_marriages_7 : decode cX7_marriages 7 = .ok (.ifCond .ne 6, 3) := by decide +kernel
theorem dX7_marriages_10 : decode cX7_marriages 10 = .ok (.bipush (-2), 2) := by decide +kernel
theorem dX7_marriages_12 : decode cX7_marriages 12 = .ok (.ireturn, 1) := by decide +kernel
theorem dX7_marriages_13 : decode cX7_marriages 13 = .ok (.iconst 0, 1) := by decide +kernel
theorem dX7_marriages_14 : decode cX7_marriages 14 = .ok (.istore_n 2, 1) := by decide +kernel
theorem dX7_marriages_15 : decode cX7_marriages 15 = .ok (.iconst 0, 1) := by decide +kernel
theorem dX7_marriages_16 : decode cX7_marriages 16 = .ok (.istore_n 3, 1) := by decide +kernel
theorem dX7_marriages_17 : decode cX7_marriages 17 = .ok (.iload_n 3, 1) := by decide +kernel
theorem dX7_marriages_18 : decode cX7_marriages 18 = .ok (.aload_n 0, 1) := by decide +kernel
theorem dX7_marriages_19 : decode cX7_marriages 19 = .ok (.getfield 7, 3) := by decide +kernel
theorem dX7_marriages_22 : decode cX7_marriages 22 = .ok (.if_icmp .ge 38, 3) := by decide +kernel
theorem dX7_marriages_25 : decode cX7_marriages 25 = .ok (.iload_n 2, 1) := by decide +kernel
theorem dX7_marriages_26 : decode cX7_marriages 26 = .ok (.aload_n 0, 1) := by decide +kernel
theorem dX7_marriages_27 : decode cX7_marriages 27 = .ok (.getfield 16, 3) := by decide +kernel
theorem dX7_marriages_30 : decode cX7_marriages 30 = .ok (.iload_n 3, 1) := by decide +kernel
theorem dX7_marriages_31 : decode cX7_marriages 31 = .ok (.iaload, 1) := by decide +kernel
theorem dX7_marriages_32 : decode cX7_marriages 32 = .ok (.ifCond .lt 19, 3) := by decide +kernel
theorem dX7_marriages_35 : decode cX7_marriages 35 = .ok (.aload_n 0, 1) := by decide +kernel
theorem dX7_marriages_36 : decode cX7_marriages 36 = .ok (.getfield 23, 3) := by decide +kernel
theorem dX7_marriages_39 : decode cX7_marriages 39 = .ok (.iload_n 3, 1) := by decide +kernel
theorem dX7_marriages_40 : decode cX7_marriages 40 = .ok (.iaload, 1) := by decide +kernel
theorem dX7_marriages_41 : decode cX7_marriages 41 = .ok (.iconst 2, 1) := by decide +kernel
theorem dX7_marriages_42 : decode cX7_marriages 42 = .ok (.if_icmp .ge 9, 3) := by decide +kernel
theorem dX7_marriages_45 : decode cX7_marriages 45 = .ok (.iconst 1, 1) := by decide +kernel
theorem dX7_marriages_46 : decode cX7_marriages 46 = .ok (.iload_n 3, 1) := by decide +kernel
theorem dX7_marriages_47 : decode cX7_marriages 47 = .ok (.ishl, 1) := by decide +kernel
theorem dX7_marriages_48 : decode cX7_marriages 48 = .ok (.goto 4, 3) := by decide +kernel
theorem dX7_marriages_51 : decode cX7_marriages 51 = .ok (.iconst 0, 1) := by decide +kernel
theorem dX7_marriages_52 : decode cX7_marriages 52 = .ok (.ior, 1) := by decide +kernel
theorem dX7_marriages_53 : decode cX7_marriages 53 = .ok (.istore_n 2, 1) := by decide +kernel
theorem dX7_marriages_54 : decode cX7_marriages 54 = .ok (.iinc 3 1, 3) := by decide +kernel
theorem dX7_marriages_57 : decode cX7_marriages 57 = .ok (.goto (-40), 3) := by decide +kernel
theorem dX7_marriages_60 : decode cX7_marriages 60 = .ok (.iconst 0, 1) := by decide +kernel
theorem dX7_marriages_61 : decode cX7_marriages 61 = .ok (.istore_n 3, 1) := by decide +kernel
theorem dX7_marriages_62 : decode cX7_marriages 62 = .ok (.iconst 0, 1) := by decide +kernel
theorem dX7_marriages_63 : decode cX7_marriages 63 = .ok (.istore 4, 2) := by decide +kernel
theorem dX7_marriages_65 : decode cX7_marriages 65 = .ok (.iload 4, 2) := by decide +kernel
theorem dX7_marriages_67 : decode cX7_marriages 67 = .ok (.ldc 185, 2) := by decide +kernel
theorem dX7_marriages_69 : decode cX7_marriages 69 = .ok (.if_icmp .ge 175, 3) := by decide +kernel
theorem dX7_marriages_72 : decode cX7_marriages 72 = .ok (.iload 4, 2) := by decide +kernel
theorem dX7_marriages_74 : decode cX7_marriages 74 = .ok (.istore 5, 2) := by decide +kernel
theorem dX7_marriages_76 : decode cX7_marriages 76 = .ok (.iconst 0, 1) := by decide +kernel
theorem dX7_marriages_77 : decode cX7_marriages 77 = .ok (.istore 6, 2) := by decide +kernel
theorem dX7_marriages_79 : decode cX7_marriages 79 = .ok (.iconst 0, 1) := by decide +kernel
theorem dX7_marriages_80 : decode cX7_marriages 80 = .ok (.istore 7, 2) := by decide +kernel
theorem dX7_marriages_82 : decode cX7_marriages 82 = .ok (.iconst 1, 1) := by decide +kernel
theorem dX7_marriages_83 : decode cX7_marriages 83 = .ok (.istore 8, 2) := by decide +kernel
theorem dX7_marriages_85 : decode cX7_marriages 85 = .ok (.iconst 0, 1) := by decide +kernel
theorem dX7_marriages_86 : decode cX7_marriages 86 = .ok (.istore 9, 2) := by decide +kernel
theorem dX7_marriages_88 : decode cX7_marriages 88 = .ok (.iload 9, 2) := by decide +kernel
theorem dX7_marriages_90 : decode cX7_marriages 90 = .ok (.iconst 3, 1) := by decide +kernel
theorem dX7_marriages_91 : decode cX7_marriages 91 = .ok (.if_icmp .ge 129, 3) := by decide +kernel
theorem dX7_marriages_94 : decode cX7_marriages 94 = .ok (.iload 8, 2) := by decide +kernel
theorem dX7_marriages_96 : decode cX7_marriages 96 = .ok (.ifCond .eq 124, 3) := by decide +kernel
theorem dX7_marriages_99 : decode cX7_marriages 99 = .ok (.iload 5, 2) := by decide +kernel
theorem dX7_marriages_101 : decode cX7_marriages 101 = .ok (.bipush 6, 2) := by decide +kernel
theorem dX7_marriages_103 : decode cX7_marriages 103 = .ok (.irem, 1) := by decide +kernel
theorem dX7_marriages_104 : decode cX7_marriages 104 = .ok (.istore 10, 2) := by decide +kernel
theorem dX7_marriages_106 : decode cX7_marriages 106 = .ok (.iload 5, 2) := by decide +kernel
theorem dX7_marriages_108 : decode cX7_marriages 108 = .ok (.bipush 6, 2) := by decide +kernel
theorem dX7_marriages_110 : decode cX7_marriages 110 = .ok (.idiv, 1) := by decide +kernel
theorem dX7_marriages_111 : decode cX7_marriages 111 = .ok (.bipush 6, 2) := by decide +kernel
theorem dX7_marriages_113 : decode cX7_marriages 113 = .ok (.irem, 1) := by decide +kernel
theorem dX7_marriages_114 : decode cX7_marriages 114 = .ok (.istore 11, 2) := by decide +kernel
theorem dX7_marriages_116 : decode cX7_marriages 116 = .ok (.iload 5, 2) := by decide +kernel
theorem dX7_marriages_118 : decode cX7_marriages 118 = .ok (.bipush 36, 2) := by decide +kernel
theorem dX7_marriages_120 : decode cX7_marriages 120 = .ok (.idiv, 1) := by decide +kernel
theorem dX7_marriages_121 : decode cX7_marriages 121 = .ok (.istore 5, 2) := by decide +kernel
theorem dX7_marriages_123 : decode cX7_marriages 123 = .ok (.iload 10, 2) := by decide +kernel
theorem dX7_marriages_125 : decode cX7_marriages 125 = .ok (.ifCond .ne 8, 3) := by decide +kernel
theorem dX7_marriages_128 : decode cX7_marriages 128 = .ok (.iload 11, 2) := by decide +kernel
theorem dX7_marriages_130 : decode cX7_marriages 130 = .ok (.ifCond .eq 84, 3) := by decide +kernel
theorem dX7_marriages_133 : decode cX7_marriages 133 = .ok (.iload 10, 2) := by decide +kernel
theorem dX7_marriages_135 : decode cX7_marriages 135 = .ok (.iload 11, 2) := by decide +kernel
theorem dX7_marriages_137 : decode cX7_marriages 137 = .ok (.if_icmp .ge 57, 3) := by decide +kernel
theorem dX7_marriages_140 : decode cX7_marriages 140 = .ok (.iload_n 2, 1) := by decide +kernel
theorem dX7_marriages_141 : decode cX7_marriages 141 = .ok (.iload 10, 2) := by decide +kernel
theorem dX7_marriages_143 : decode cX7_marriages 143 = .ok (.invokestatic 169, 3) := by decide +kernel
theorem dX7_marriages_146 : decode cX7_marriages 146 = .ok (.ifCond .eq 48, 3) := by decide +kernel
theorem dX7_marriages_149 : decode cX7_marriages 149 = .ok (.iload_n 2, 1) := by decide +kernel
theorem dX7_marriages_150 : decode cX7_marriages 150 = .ok (.iload 11, 2) := by decide +kernel
theorem dX7_marriages_152 : decode cX7_marriages 152 = .ok (.invokestatic 169, 3) := by decide +kernel
theorem dX7_marriages_155 : decode cX7_marriages 155 = .ok (.ifCond .eq 39, 3) := by decide +kernel
theorem dX7_marriages_158 : decode cX7_marriages 158 = .ok (.iload 6, 2) := by decide +kernel
theorem dX7_marriages_160 : decode cX7_marriages 160 = .ok (.iload 10, 2) := by decide +kernel
theorem dX7_marriages_162 : decode cX7_marriages 162 = .ok (.invokestatic 169, 3) := by decide +kernel
theorem dX7_marriages_165 : decode cX7_marriages 165 = .ok (.ifCond .ne 29, 3) := by decide +kernel
theorem dX7_marriages_168 : decode cX7_marriages 168 = .ok (.iload 6, 2) := by decide +kernel
theorem dX7_marriages_170 : decode cX7_marriages 170 = .ok (.iload 11, 2) := by decide +kernel
theorem dX7_marriages_172 : decode cX7_marriages 172 = .ok (.invokestatic 169, 3) := by decide +kernel
theorem dX7_marriages_175 : decode cX7_marriages 175 = .ok (.ifCond .ne 19, 3) := by decide +kernel
theorem dX7_marriages_178 : decode cX7_marriages 178 = .ok (.aload_n 0, 1) := by decide +kernel
theorem dX7_marriages_179 : decode cX7_marriages 179 = .ok (.iload 10, 2) := by decide +kernel
theorem dX7_marriages_181 : decode cX7_marriages 181 = .ok (.iload 11, 2) := by decide +kernel
theorem dX7_marriages_183 : decode cX7_marriages 183 = .ok (.iload_n 1, 1) := by decide +kernel
theorem dX7_marriages_184 : decode cX7_marriages 184 = .ok (.invokevirtual 186, 3) := by decide +kernel
theorem dX7_marriages_187 : decode cX7_marriages 187 = .ok (.ifCond .ne 7, 3) := by decide +kernel
theorem dX7_marriages_190 : decode cX7_marriages 190 = .ok (.iconst 1, 1) := by decide +kernel
theorem dX7_marriages_191 : decode cX7_marriages 191 = .ok (.goto 4, 3) := by decide +kernel
theorem dX7_marriages_194 : decode cX7_marriages 194 = .ok (.iconst 0, 1) := by decide +kernel
theorem dX7_marriages_195 : decode cX7_marriages 195 = .ok (.istore 8, 2) := by decide +kernel
theorem dX7_marriages_197 : decode cX7_marriages 197 = .ok (.iload 6, 2) := by decide +kernel
theorem dX7_marriages_199 : decode cX7_marriages 199 = .ok (.iconst 1, 1) := by decide +kernel
theorem dX7_marriages_200 : decode cX7_marriages 200 = .ok (.iload 10, 2) := by decide +kernel
theorem dX7_marriages_202 : decode cX7_marriages 202 = .ok (.ishl, 1) := by decide +kernel
theorem dX7_marriages_203 : decode cX7_marriages 203 = .ok (.iconst 1, 1) := by decide +kernel
theorem dX7_marriages_204 : decode cX7_marriages 204 = .ok (.iload 11, 2) := by decide +kernel
theorem dX7_marriages_206 : decode cX7_marriages 206 = .ok (.ishl, 1) := by decide +kernel
theorem dX7_marriages_207 : decode cX7_marriages 207 = .ok (.ior, 1) := by decide +kernel
theorem dX7_marriages_208 : decode cX7_marriages 208 = .ok (.ior, 1) := by decide +kernel
theorem dX7_marriages_209 : decode cX7_marriages 209 = .ok (.istore 6, 2) := by decide +kernel
theorem dX7_marriages_211 : decode cX7_marriages 211 = .ok (.iinc 7 1, 3) := by decide +kernel
theorem dX7_marriages_214 : decode cX7_marriages 214 = .ok (.iinc 9 1, 3) := by decide +kernel
theorem dX7_marriages_217 : decode cX7_marriages 217 = .ok (.goto (-129), 3) := by decide +kernel
theorem dX7_marriages_220 : decode cX7_marriages 220 = .ok (.iload 8, 2) := by decide +kernel
theorem dX7_marriages_222 : decode cX7_marriages 222 = .ok (.ifCond .eq 14, 3) := by decide +kernel
theorem dX7_marriages_225 : decode cX7_marriages 225 = .ok (.iload 7, 2) := by decide +kernel
theorem dX7_marriages_227 : decode cX7_marriages 227 = .ok (.iload_n 3, 1) := by decide +kernel
theorem dX7_marriages_228 : decode cX7_marriages 228 = .ok (.if_icmp .le 8, 3) := by decide +kernel
theorem dX7_marriages_231 : decode cX7_marriages 231 = .ok (.iload 7, 2) := by decide +kernel
theorem dX7_marriages_233 : decode cX7_marriages 233 = .ok (.goto 4, 3) := by decide +kernel
theorem dX7_marriages_236 : decode cX7_marriages 236 = .ok (.iload_n 3, 1) := by decide +kernel
theorem dX7_marriages_237 : decode cX7_marriages 237 = .ok (.istore_n 3, 1) := by decide +kernel
theorem dX7_marriages_238 : decode cX7_marriages 238 = .ok (.iinc 4 1, 3) := by decide +kernel
theorem dX7_marriages_241 : decode cX7_marriages 241 = .ok (.goto (-176), 3) := by decide +kernel
theorem dX7_marriages_244 : decode cX7_marriages 244 = .ok (.iload_n 3, 1) := by decide +kernel
theorem dX7_marriages_245 : decode cX7_marriages 245 = .ok (.ireturn, 1) := by decide +kernel
theorem dX7_doMeet_0 : decode cX7_doMeet 0 = .ok (.iconst 0, 1) := by decide +kernel
theorem dX7_doMeet_1 : decode cX7_doMeet 1 = .ok (.istore 4, 2) := by decide +kernel
theorem dX7_doMeet_3 : decode cX7_doMeet 3 = .ok (.iconst 0, 1) := by decide +kernel
theorem dX7_doMeet_4 : decode cX7_doMeet 4 = .ok (.istore 5, 2) := by decide +kernel
theorem dX7_doMeet_6 : decode cX7_doMeet 6 = .ok (.iload 5, 2) := by decide +kernel
theorem dX7_doMeet_8 : decode cX7_doMeet 8 = .ok (.iload_n 3, 1) := by decide +kernel
theorem dX7_doMeet_9 : decode cX7_doMeet 9 = .ok (.if_icmp .ge 32, 3) := by decide +kernel
theorem dX7_doMeet_12 : decode cX7_doMeet 12 = .ok (.iload 4, 2) := by decide +kernel
theorem dX7_doMeet_14 : decode cX7_doMeet 14 = .ok (.ifCond .ne 14, 3) := by decide +kernel
theorem dX7_doMeet_17 : decode cX7_doMeet 17 = .ok (.aload_n 0, 1) := by decide +kernel
theorem dX7_doMeet_18 : decode cX7_doMeet 18 = .ok (.iload_n 1, 1) := by decide +kernel
theorem dX7_doMeet_19 : decode cX7_doMeet 19 = .ok (.iload_n 2, 1) := by decide +kernel
theorem dX7_doMeet_20 : decode cX7_doMeet 20 = .ok (.iload 5, 2) := by decide +kernel
theorem dX7_doMeet_22 : decode cX7_doMeet 22 = .ok (.invokevirtual 149, 3) := by decide +kernel
theorem dX7_doMeet_25 : decode cX7_doMeet 25 = .ok (.ifCond .eq 7, 3) := by decide +kernel
theorem dX7_doMeet_28 : decode cX7_doMeet 28 = .ok (.iconst 1, 1) := by decide +kernel
theorem dX7_doMeet_29 : decode cX7_doMeet 29 = .ok (.goto 4, 3) := by decide +kernel
theorem dX7_doMeet_32 : decode cX7_doMeet 32 = .ok (.iconst 0, 1) := by decide +kernel
theorem dX7_doMeet_33 : decode cX7_doMeet 33 = .ok (.istore 4, 2) := by decide +kernel
theorem dX7_doMeet_35 : decode cX7_doMeet 35 = .ok (.iinc 5 1, 3) := by decide +kernel
theorem dX7_doMeet_38 : decode cX7_doMeet 38 = .ok (.goto (-32), 3) := by decide +kernel
theorem dX7_doMeet_41 : decode cX7_doMeet 41 = .ok (.iload 4, 2) := by decide +kernel
theorem dX7_doMeet_43 : decode cX7_doMeet 43 = .ok (.ireturn, 1) := by decide +kernel
theorem dX7_alive_0 : decode cX7_alive 0 = .ok (.iconst 0, 1) := by decide +kernel
theorem dX7_alive_1 : decode cX7_alive 1 = .ok (.istore_n 1, 1) := by decide +kernel
theorem dX7_alive_2 : decode cX7_alive 2 = .ok (.iconst 0, 1) := by decide +kernel
theorem dX7_alive_3 : decode cX7_alive 3 = .ok (.istore_n 2, 1) := by decide +kernel
theorem dX7_alive_4 : decode cX7_alive 4 = .ok (.iload_n 2, 1) := by decide +kernel
theorem dX7_alive_5 : decode cX7_alive 5 = .ok (.aload_n 0, 1) := by decide +kernel
theorem dX7_alive_6 : decode cX7_alive 6 = .ok (.getfield 7, 3) := by decide +kernel
theorem dX7_alive_9 : decode cX7_alive 9 = .ok (.if_icmp .ge 26, 3) := by decide +kernel
theorem dX7_alive_12 : decode cX7_alive 12 = .ok (.iload_n 1, 1) := by decide +kernel
theorem dX7_alive_13 : decode cX7_alive 13 = .ok (.aload_n 0, 1) := by decide +kernel
theorem dX7_alive_14 : decode cX7_alive 14 = .ok (.getfield 16, 3) := by decide +kernel
theorem dX7_alive_17 : decode cX7_alive 17 = .ok (.iload_n 2, 1) := by decide +kernel
theorem dX7_alive_18 : decode cX7_alive 18 = .ok (.iaload, 1) := by decide +kernel
theorem dX7_alive_19 : decode cX7_alive 19 = .ok (.ifCond .lt 7, 3) := by decide +kernel
theorem dX7_alive_22 : decode cX7_alive 22 = .ok (.iconst 1, 1) := by decide +kernel
theorem dX7_alive_23 : decode cX7_alive 23 = .ok (.goto 4, 3) := by decide +kernel
theorem dX7_alive_26 : decode cX7_alive 26 = .ok (.iconst 0, 1) := by decide +kernel
theorem dX7_alive_27 : decode cX7_alive 27 = .ok (.iadd, 1) := by decide +kernel
theorem dX7_alive_28 : decode cX7_alive 28 = .ok (.istore_n 1, 1) := by decide +kernel
theorem dX7_alive_29 : decode cX7_alive 29 = .ok (.iinc 2 1, 3) := by decide +kernel
theorem dX7_alive_32 : decode cX7_alive 32 = .ok (.goto (-28), 3) := by decide +kernel
theorem dX7_alive_35 : decode cX7_alive 35 = .ok (.iload_n 1, 1) := by decide +kernel
theorem dX7_alive_36 : decode cX7_alive 36 = .ok (.ireturn, 1) := by decide +kernel
theorem dX7_deaths_0 : decode cX7_deaths 0 = .ok (.iload_n 1, 1) := by decide +kernel
theorem dX7_deaths_1 : decode cX7_deaths 1 = .ok (.iconst 0, 1) := by decide +kernel
theorem dX7_deaths_2 : decode cX7_deaths 2 = .ok (.iconst 3, 1) := by decide +kernel
theorem dX7_deaths_3 : decode cX7_deaths 3 = .ok (.invokestatic 78, 3) := by decide +kernel
theorem dX7_deaths_6 : decode cX7_deaths 6 = .ok (.ifCond .eq 32, 3) := by decide +kernel
theorem dX7_deaths_9 : decode cX7_deaths 9 = .ok (.iload_n 2, 1) := by decide +kernel
theorem dX7_deaths_10 : decode cX7_deaths 10 = .ok (.iconst 0, 1) := by decide +kernel
theorem dX7_deaths_11 : decode cX7_deaths 11 = .ok (.bipush 10, 2) := by decide +kernel
theorem dX7_deaths_13 : decode cX7_deaths 13 = .ok (.invokestatic 78, 3) := by decide +kernel
theorem dX7_deaths_16 : decode cX7_deaths 16 = .ok (.ifCond .eq 22, 3) := by decide +kernel
theorem dX7_deaths_19 : decode cX7_deaths 19 = .ok (.iload_n 3, 1) := by decide +kernel
theorem dX7_deaths_20 : decode cX7_deaths 20 = .ok (.iconst 0, 1) := by decide +kernel
theorem dX7_deaths_21 : decode cX7_deaths 21 = .ok (.iconst 1, 1) := by decide +kernel
theorem dX7_deaths_22 : decode cX7_deaths 22 = .ok (.invokestatic 78, 3) := by decide +kernel
theorem dX7_deaths_25 : decode cX7_deaths 25 = .ok (.ifCond .eq 13, 3) := by decide +kernel
theorem dX7_deaths_28 : decode cX7_deaths 28 = .ok (.iload 4, 2) := by decide +kernel
theorem dX7_deaths_30 : decode cX7_deaths 30 = .ok (.iconst 0, 1) := by decide +kernel
theorem dX7_deaths_31 : decode cX7_deaths 31 = .ok (.iconst 1, 1) := by decide +kernel
theorem dX7_deaths_32 : decode cX7_deaths 32 = .ok (.invokestatic 78, 3) := by decide +kernel
theorem dX7_deaths_35 : decode cX7_deaths 35 = .ok (.ifCond .ne 7, 3) := by decide +kernel
theorem dX7_deaths_38 : decode cX7_deaths 38 = .ok (.ldc2_w 189, 3) := by decide +kernel
theorem dX7_deaths_41 : decode cX7_deaths 41 = .ok (.lreturn, 1) := by decide +kernel
theorem dX7_deaths_42 : decode cX7_deaths 42 = .ok (.iload_n 3, 1) := by decide +kernel
theorem dX7_deaths_43 : decode cX7_deaths 43 = .ok (.ifCond .ne 12, 3) := by decide +kernel
theorem dX7_deaths_46 : decode cX7_deaths 46 = .ok (.iload_n 1, 1) := by decide +kernel
theorem dX7_deaths_47 : decode cX7_deaths 47 = .ok (.aload_n 0, 1) := by decide +kernel
theorem dX7_deaths_48 : decode cX7_deaths 48 = .ok (.invokevirtual 191, 3) := by decide +kernel
theorem dX7_deaths_51 : decode cX7_deaths 51 = .ok (.imul, 1) := by decide +kernel
theorem dX7_deaths_52 : decode cX7_deaths 52 = .ok (.goto 4, 3) := by decide +kernel
theorem dX7_deaths_55 : decode cX7_deaths 55 = .ok (.iload_n 1, 1) := by decide +kernel
theorem dX7_deaths_56 : decode cX7_deaths 56 = .ok (.istore 5, 2) := by decide +kernel
theorem dX7_deaths_58 : decode cX7_deaths 58 = .ok (.iload_n 3, 1) := by decide +kernel
theorem dX7_deaths_59 : decode cX7_deaths 59 = .ok (.ifCond .ne 7, 3) := by decide +kernel
theorem dX7_deaths_62 : decode cX7_deaths 62 = .ok (.lconst 1, 1) := by decide +kernel
theorem dX7_deaths_63 : decode cX7_deaths 63 = .ok (.goto 8, 3) := by decide +kernel
theorem dX7_deaths_66 : decode cX7_deaths 66 = .ok (.aload_n 0, 1) := by decide +kernel
theorem dX7_deaths_67 : decode cX7_deaths 67 = .ok (.invokevirtual 191, 3) := by decide +kernel
theorem dX7_deaths_70 : decode cX7_deaths 70 = .ok (.i2l, 1) := by decide +kernel
theorem dX7_deaths_71 : decode cX7_deaths 71 = .ok (.lstore 6, 2) := by decide +kernel
theorem dX7_deaths_73 : decode cX7_deaths 73 = .ok (.lconst 1, 1) := by decide +kernel
theorem dX7_deaths_74 : decode cX7_deaths 74 = .ok (.lstore 8, 2) := by decide +kernel
theorem dX7_deaths_76 : decode cX7_deaths 76 = .ok (.iconst 0, 1) := by decide +kernel
theorem dX7_deaths_77 : decode cX7_deaths 77 = .ok (.istore 10, 2) := by decide +kernel
theorem dX7_deaths_79 : decode cX7_deaths 79 = .ok (.iload 10, 2) := by decide +kernel
theorem dX7_deaths_81 : decode cX7_deaths 81 = .ok (.iload 5, 2) := by decide +kernel
theorem dX7_deaths_83 : decode cX7_deaths 83 = .ok (.if_icmp .ge 27, 3) := by decide +kernel
theorem dX7_deaths_86 : decode cX7_deaths 86 = .ok (.lload 6, 2) := by decide +kernel
theorem dX7_deaths_88 : decode cX7_deaths 88 = .ok (.bipush 10, 2) := by decide +kernel
theorem dX7_deaths_90 : decode cX7_deaths 90 = .ok (.iload_n 2, 1) := by decide +kernel
theorem dX7_deaths_91 : decode cX7_deaths 91 = .ok (.isub, 1) := by decide +kernel
theorem dX7_deaths_92 : decode cX7_deaths 92 = .ok (.i2l, 1) := by decide +kernel
theorem dX7_deaths_93 : decode cX7_deaths 93 = .ok (.lmul, 1) := by decide +kernel
theorem dX7_deaths_94 : decode cX7_deaths 94 = .ok (.lstore 6, 2) := by decide +kernel
theorem dX7_deaths_96 : decode cX7_deaths 96 = .ok (.lload 8, 2) := by decide +kernel
theorem dX7_deaths_98 : decode cX7_deaths 98 = .ok (.ldc2_w 194, 3) := by decide +kernel
theorem dX7_deaths_101 : decode cX7_deaths 101 = .ok (.lmul, 1) := by decide +kernel
theorem dX7_deaths_102 : decode cX7_deaths 102 = .ok (.lstore 8, 2) := by decide +kernel
theorem dX7_deaths_104 : decode cX7_deaths 104 = .ok (.iinc 10 1, 3) := by decide +kernel
theorem dX7_deaths_107 : decode cX7_deaths 107 = .ok (.goto (-28), 3) := by decide +kernel
theorem dX7_deaths_110 : decode cX7_deaths 110 = .ok (.lload 6, 2) := by decide +kernel
theorem dX7_deaths_112 : decode cX7_deaths 112 = .ok (.lstore 10, 2) := by decide +kernel
theorem dX7_deaths_114 : decode cX7_deaths 114 = .ok (.lload 8, 2) := by decide +kernel
theorem dX7_deaths_116 : decode cX7_deaths 116 = .ok (.lstore 12, 2) := by decide +kernel
theorem dX7_deaths_118 : decode cX7_deaths 118 = .ok (.lload 12, 2) := by decide +kernel
theorem dX7_deaths_120 : decode cX7_deaths 120 = .ok (.lconst 0, 1) := by decide +kernel
theorem dX7_deaths_121 : decode cX7_deaths 121 = .ok (.lcmp, 1) := by decide +kernel
theorem dX7_deaths_122 : decode cX7_deaths 122 = .ok (.ifCond .eq 21, 3) := by decide +kernel
theorem dX7_deaths_125 : decode cX7_deaths 125 = .ok (.lload 10, 2) := by decide +kernel
theorem dX7_deaths_127 : decode cX7_deaths 127 = .ok (.lload 12, 2) := by decide +kernel
theorem dX7_deaths_129 : decode cX7_deaths 129 = .ok (.lrem, 1) := by decide +kernel
theorem dX7_deaths_130 : decode cX7_deaths 130 = .ok (.lstore 14, 2) := by decide +kernel
theorem dX7_deaths_132 : decode cX7_deaths 132 = .ok (.lload 12, 2) := by decide +kernel
theorem dX7_deaths_134 : decode cX7_deaths 134 = .ok (.lstore 10, 2) := by decide +kernel
theorem dX7_deaths_136 : decode cX7_deaths 136 = .ok (.lload 14, 2) := by decide +kernel
theorem dX7_deaths_138 : decode cX7_deaths 138 = .ok (.lstore 12, 2) := by decide +kernel
theorem dX7_deaths_140 : decode cX7_deaths 140 = .ok (.goto (-22), 3) := by decide +kernel
theorem dX7_deaths_143 : decode cX7_deaths 143 = .ok (.iload 4, 2) := by decide +kernel
theorem dX7_deaths_145 : decode cX7_deaths 145 = .ok (.ifCond .ne 11, 3) := by decide +kernel
theorem dX7_deaths_148 : decode cX7_deaths 148 = .ok (.lload 6, 2) := by decide +kernel
theorem dX7_deaths_150 : decode cX7_deaths 150 = .ok (.lload 10, 2) := by decide +kernel
theorem dX7_deaths_152 : decode cX7_deaths 152 = .ok (.ldiv, 1) := by decide +kernel
theorem dX7_deaths_153 : decode cX7_deaths 153 = .ok (.goto 8, 3) := by decide +kernel
theorem dX7_deaths_156 : decode cX7_deaths 156 = .ok (.lload 8, 2) := by decide +kernel
theorem dX7_deaths_158 : decode cX7_deaths 158 = .ok (.lload 10, 2) := by decide +kernel
theorem dX7_deaths_160 : decode cX7_deaths 160 = .ok (.ldiv, 1) := by decide +kernel
theorem dX7_deaths_161 : decode cX7_deaths 161 = .ok (.lreturn, 1) := by decide +kernel
theorem dX7_year_0 : decode cX7_year 0 = .ok (.iload_n 1, 1) := by decide +kernel
theorem dX7_year_1 : decode cX7_year 1 = .ok (.iconst 0, 1) := by decide +kernel
theorem dX7_year_2 : decode cX7_year 2 = .ok (.sipush 9999, 3) := by decide +kernel
theorem dX7_year_5 : decode cX7_year 5 = .ok (.invokestatic 78, 3) := by decide +kernel
theorem dX7_year_8 : decode cX7_year 8 = .ok (.ifCond .eq 22, 3) := by decide +kernel
theorem dX7_year_11 : decode cX7_year 11 = .ok (.iload_n 2, 1) := by decide +kernel
theorem dX7_year_12 : decode cX7_year 12 = .ok (.iconst 1, 1) := by decide +kernel
theorem dX7_year_13 : decode cX7_year 13 = .ok (.bipush 99, 2) := by decide +kernel
theorem dX7_year_15 : decode cX7_year 15 = .ok (.invokestatic 78, 3) := by decide +kernel
theorem dX7_year_18 : decode cX7_year 18 = .ok (.ifCond .eq 12, 3) := by decide +kernel
theorem dX7_year_21 : decode cX7_year 21 = .ok (.iload_n 3, 1) := by decide +kernel
theorem dX7_year_22 : decode cX7_year 22 = .ok (.iconst 0, 1) := by decide +kernel
theorem dX7_year_23 : decode cX7_year 23 = .ok (.iconst 2, 1) := by decide +kernel
theorem dX7_year_24 : decode cX7_year 24 = .ok (.invokestatic 78, 3) := by decide +kernel
theorem dX7_year_27 : decode cX7_year 27 = .ok (.ifCond .ne 6, 3) := by decide +kernel
theorem dX7_year_30 : decode cX7_year 30 = .ok (.bipush (-2), 2) := by decide +kernel
theorem dX7_year_32 : decode cX7_year 32 = .ok (.ireturn, 1) := by decide +kernel
theorem dX7_year_33 : decode cX7_year 33 = .ok (.aload_n 0, 1) := by decide +kernel
theorem dX7_year_34 : decode cX7_year 34 = .ok (.invokevirtual 108, 3) := by decide +kernel
theorem dX7_year_37 : decode cX7_year 37 = .ok (.iload_n 1, 1) := by decide +kernel
theorem dX7_year_38 : decode cX7_year 38 = .ok (.istore 4, 2) := by decide +kernel
theorem dX7_year_40 : decode cX7_year 40 = .ok (.iconst 0, 1) := by decide +kernel
theorem dX7_year_41 : decode cX7_year 41 = .ok (.istore 5, 2) := by decide +kernel
theorem dX7_year_43 : decode cX7_year 43 = .ok (.iload 5, 2) := by decide +kernel
theorem dX7_year_45 : decode cX7_year 45 = .ok (.iload_n 2, 1) := by decide +kernel
theorem dX7_year_46 : decode cX7_year 46 = .ok (.if_icmp .ge 142, 3) := by decide +kernel
theorem dX7_year_49 : decode cX7_year 49 = .ok (.bipush 75, 2) := by decide +kernel
theorem dX7_year_51 : decode cX7_year 51 = .ok (.iload 4, 2) := by decide +kernel
theorem dX7_year_53 : decode cX7_year 53 = .ok (.imul, 1) := by decide +kernel
theorem dX7_year_54 : decode cX7_year 54 = .ok (.bipush 74, 2) := by decide +kernel
theorem dX7_year_56 : decode cX7_year 56 = .ok (.iadd, 1) := by decide +kernel
theorem dX7_year_57 : decode cX7_year 57 = .ok (.ldc 196, 2) := by decide +kernel
theorem dX7_year_59 : decode cX7_year 59 = .ok (.irem, 1) := by decide +kernel
theorem dX7_year_60 : decode cX7_year 60 = .ok (.istore 4, 2) := by decide +kernel
theorem dX7_year_62 : decode cX7_year 62 = .ok (.iload 4, 2) := by decide +kernel
theorem dX7_year_64 : decode cX7_year 64 = .ok (.bipush 8, 2) := by decide +kernel
theorem dX7_year_66 : decode cX7_year 66 = .ok (.irem, 1) := by decide +kernel
theorem dX7_year_67 : decode cX7_year 67 = .ok (.istore 6, 2) := by decide +kernel
theorem dX7_year_69 : decode cX7_year 69 = .ok (.iload 4, 2) := by decide +kernel
theorem dX7_year_71 : decode cX7_year 71 = .ok (.bipush 8, 2) := by decide +kernel
theorem dX7_year_73 : decode cX7_year 73 = .ok (.idiv, 1) := by decide +kernel
theorem dX7_year_74 : decode cX7_year 74 = .ok (.aload_n 0, 1) := by decide +kernel
theorem dX7_year_75 : decode cX7_year 75 = .ok (.getfield 7, 3) := by decide +kernel
theorem dX7_year_78 : decode cX7_year 78 = .ok (.irem, 1) := by decide +kernel
theorem dX7_year_79 : decode cX7_year 79 = .ok (.istore 7, 2) := by decide +kernel
theorem dX7_year_81 : decode cX7_year 81 = .ok (.iload 4, 2) := by decide +kernel
theorem dX7_year_83 : decode cX7_year 83 = .ok (.bipush 64, 2) := by decide +kernel
theorem dX7_year_85 : decode cX7_year 85 = .ok (.idiv, 1) := by decide +kernel
theorem dX7_year_86 : decode cX7_year 86 = .ok (.aload_n 0, 1) := by decide +kernel
theorem dX7_year_87 : decode cX7_year 87 = .ok (.getfield 7, 3) := by decide +kernel
theorem dX7_year_90 : decode cX7_year 90 = .ok (.irem, 1) := by decide +kernel
theorem dX7_year_91 : decode cX7_year 91 = .ok (.istore 8, 2) := by decide +kernel
theorem dX7_year_93 : decode cX7_year 93 = .ok (.iload 6, 2) := by decide +kernel
theorem dX7_year_95 : decode cX7_year 95 = .ok (.ifCond .ne 35, 3) := by decide +kernel
theorem dX7_year_98 : decode cX7_year 98 = .ok (.aload_n 0, 1) := by decide +kernel
theorem dX7_year_99 : decode cX7_year 99 = .ok (.getfield 44, 3) := by decide +kernel
theorem dX7_year_102 : decode cX7_year 102 = .ok (.iload 7, 2) := by decide +kernel
theorem dX7_year_104 : decode cX7_year 104 = .ok (.aload_n 0, 1) := by decide +kernel
theorem dX7_year_105 : decode cX7_year 105 = .ok (.iload 7, 2) := by decide +kernel
theorem dX7_year_107 : decode cX7_year 107 = .ok (.bipush 115, 2) := by decide +kernel
theorem dX7_year_109 : decode cX7_year 109 = .ok (.invokevirtual 129, 3) := by decide +kernel
theorem dX7_year_112 : decode cX7_year 112 = .ok (.ifCond .ne 7, 3) := by decide +kernel
theorem dX7_year_115 : decode cX7_year 115 = .ok (.iconst 1, 1) := by decide +kernel
theorem dX7_year_116 : decode cX7_year 116 = .ok (.goto 10, 3) := by decide +kernel
theorem dX7_year_119 : decode cX7_year 119 = .ok (.aload_n 0, 1) := by decide +kernel
theorem dX7_year_120 : decode cX7_year 120 = .ok (.getfield 44, 3) := by decide +kernel
theorem dX7_year_123 : decode cX7_year 123 = .ok (.iload 7, 2) := by decide +kernel
theorem dX7_year_125 : decode cX7_year 125 = .ok (.iaload, 1) := by decide +kernel
theorem dX7_year_126 : decode cX7_year 126 = .ok (.iastore, 1) := by decide +kernel
theorem dX7_year_127 : decode cX7_year 127 = .ok (.goto 55, 3) := by decide +kernel
theorem dX7_year_130 : decode cX7_year 130 = .ok (.iload 6, 2) := by decide +kernel
theorem dX7_year_132 : decode cX7_year 132 = .ok (.iconst 1, 1) := by decide +kernel
theorem dX7_year_133 : decode cX7_year 133 = .ok (.if_icmp .ne 25, 3) := by decide +kernel
theorem dX7_year_136 : decode cX7_year 136 = .ok (.aload_n 0, 1) := by decide +kernel
theorem dX7_year_137 : decode cX7_year 137 = .ok (.iload 7, 2) := by decide +kernel
theorem dX7_year_139 : decode cX7_year 139 = .ok (.iload 8, 2) := by decide +kernel
theorem dX7_year_141 : decode cX7_year 141 = .ok (.invokevirtual 121, 3) := by decide +kernel
theorem dX7_year_144 : decode cX7_year 144 = .ok (.ifCond .ne 38, 3) := by decide +kernel
theorem dX7_year_147 : decode cX7_year 147 = .ok (.aload_n 0, 1) := by decide +kernel
theorem dX7_year_148 : decode cX7_year 148 = .ok (.iload 7, 2) := by decide +kernel
theorem dX7_year_150 : decode cX7_year 150 = .ok (.iload 8, 2) := by decide +kernel
theorem dX7_year_152 : decode cX7_year 152 = .ok (.invokevirtual 125, 3) := by decide +kernel
theorem dX7_year_155 : decode cX7_year 155 = .ok (.goto 27, 3) := by decide +kernel
theorem dX7_year_158 : decode cX7_year 158 = .ok (.aload_n 0, 1) := by decide +kernel
theorem dX7_year_159 : decode cX7_year 159 = .ok (.iload 6, 2) := by decide +kernel
theorem dX7_year_161 : decode cX7_year 161 = .ok (.iconst 4, 1) := by decide +kernel
theorem dX7_year_162 : decode cX7_year 162 = .ok (.if_icmp .ge 8, 3) := by decide +kernel
theorem dX7_year_165 : decode cX7_year 165 = .ok (.bipush 10, 2) := by decide +kernel
theorem dX7_year_167 : decode cX7_year 167 = .ok (.goto 12, 3) := by decide +kernel
theorem dX7_year_170 : decode cX7_year 170 = .ok (.aload_n 0, 1) := by decide +kernel
theorem dX7_year_171 : decode cX7_year 171 = .ok (.getfield 13, 3) := by decide +kernel
theorem dX7_year_174 : decode cX7_year 174 = .ok (.aload_n 0, 1) := by decide +kernel
theorem dX7_year_175 : decode cX7_year 175 = .ok (.getfield 102, 3) := by decide +kernel
theorem dX7_year_178 : decode cX7_year 178 = .ok (.isub, 1) := by decide +kernel
theorem dX7_year_179 : decode cX7_year 179 = .ok (.invokevirtual 117, 3) := by decide +kernel
theorem dX7_year_182 : decode cX7_year 182 = .ok (.iinc 5 1, 3) := by decide +kernel
theorem dX7_year_185 : decode cX7_year 185 = .ok (.goto (-142), 3) := by decide +kernel
theorem dX7_year_188 : decode cX7_year 188 = .ok (.iconst 0, 1) := by decide +kernel
theorem dX7_year_189 : decode cX7_year 189 = .ok (.istore 5, 2) := by decide +kernel
theorem dX7_year_191 : decode cX7_year 191 = .ok (.iconst 1, 1) := by decide +kernel
theorem dX7_year_192 : decode cX7_year 192 = .ok (.aload_n 0, 1) := by decide +kernel
theorem dX7_year_193 : decode cX7_year 193 = .ok (.getfield 7, 3) := by decide +kernel
theorem dX7_year_196 : decode cX7_year 196 = .ok (.ishl, 1) := by decide +kernel
theorem dX7_year_197 : decode cX7_year 197 = .ok (.iconst 1, 1) := by decide +kernel
theorem dX7_year_198 : decode cX7_year 198 = .ok (.isub, 1) := by decide +kernel
theorem dX7_year_199 : decode cX7_year 199 = .ok (.istore 6, 2) := by decide +kernel
theorem dX7_year_201 : decode cX7_year 201 = .ok (.iconst 0, 1) := by decide +kernel
theorem dX7_year_202 : decode cX7_year 202 = .ok (.istore 7, 2) := by decide +kernel
theorem dX7_year_204 : decode cX7_year 204 = .ok (.iload 7, 2) := by decide +kernel
theorem dX7_year_206 : decode cX7_year 206 = .ok (.aload_n 0, 1) := by decide +kernel
theorem dX7_year_207 : decode cX7_year 207 = .ok (.getfield 7, 3) := by decide +kernel
theorem dX7_year_210 : decode cX7_year 210 = .ok (.if_icmp .ge 71, 3) := by decide +kernel
theorem dX7_year_213 : decode cX7_year 213 = .ok (.iload 5, 2) := by decide +kernel
theorem dX7_year_215 : decode cX7_year 215 = .ok (.aload_n 0, 1) := by decide +kernel
theorem dX7_year_216 : decode cX7_year 216 = .ok (.getfield 38, 3) := by decide +kernel
theorem dX7_year_219 : decode cX7_year 219 = .ok (.iload 7, 2) := by decide +kernel
theorem dX7_year_221 : decode cX7_year 221 = .ok (.iaload, 1) := by decide +kernel
theorem dX7_year_222 : decode cX7_year 222 = .ok (.ifCond .lt 19, 3) := by decide +kernel
theorem dX7_year_225 : decode cX7_year 225 = .ok (.aload_n 0, 1) := by decide +kernel
theorem dX7_year_226 : decode cX7_year 226 = .ok (.getfield 41, 3) := by decide +kernel
theorem dX7_year_229 : decode cX7_year 229 = .ok (.iload 7, 2) := by decide +kernel
theorem dX7_year_231 : decode cX7_year 231 = .ok (.iaload, 1) := by decide +kernel
theorem dX7_year_232 : decode cX7_year 232 = .ok (.iload 7, 2) := by decide +kernel
theorem dX7_year_234 : decode cX7_year 234 = .ok (.if_icmp .ne 7, 3) := by decide +kernel
theorem dX7_year_237 : decode cX7_year 237 = .ok (.iconst 1, 1) := by decide +kernel
theorem dX7_year_238 : decode cX7_year 238 = .ok (.goto 4, 3) := by decide +kernel
theorem dX7_year_241 : decode cX7_year 241 = .ok (.iconst 0, 1) := by decide +kernel
theorem dX7_year_242 : decode cX7_year 242 = .ok (.iadd, 1) := by decide +kernel
theorem dX7_year_243 : decode cX7_year 243 = .ok (.istore 5, 2) := by decide +kernel
theorem dX7_year_245 : decode cX7_year 245 = .ok (.iload 6, 2) := by decide +kernel
theorem dX7_year_247 : decode cX7_year 247 = .ok (.aload_n 0, 1) := by decide +kernel
theorem dX7_year_248 : decode cX7_year 248 = .ok (.getfield 38, 3) := by decide +kernel
theorem dX7_year_251 : decode cX7_year 251 = .ok (.iload 7, 2) := by decide +kernel
theorem dX7_year_253 : decode cX7_year 253 = .ok (.iaload, 1) := by decide +kernel
theorem dX7_year_254 : decode cX7_year 254 = .ok (.ifCond .ge 7, 3) := by decide +kernel
theorem dX7_year_257 : decode cX7_year 257 = .ok (.iconst (-1), 1) := by decide +kernel
theorem dX7_year_258 : decode cX7_year 258 = .ok (.goto 14, 3) := by decide +kernel
theorem dX7_year_261 : decode cX7_year 261 = .ok (.iconst 1, 1) := by decide +kernel
theorem dX7_year_262 : decode cX7_year 262 = .ok (.aload_n 0, 1) := by decide +kernel
theorem dX7_year_263 : decode cX7_year 263 = .ok (.getfield 38, 3) := by decide +kernel
theorem dX7_year_266 : decode cX7_year 266 = .ok (.iload 7, 2) := by decide +kernel
theorem dX7_year_268 : decode cX7_year 268 = .ok (.iaload, 1) := by decide +kernel
theorem dX7_year_269 : decode cX7_year 269 = .ok (.ishl, 1) := by decide +kernel
theorem dX7_year_270 : decode cX7_year 270 = .ok (.iconst (-1), 1) := by decide +kernel
theorem dX7_year_271 : decode cX7_year 271 = .ok (.ixor, 1) := by decide +kernel
theorem dX7_year_272 : decode cX7_year 272 = .ok (.iand, 1) := by decide +kernel
theorem dX7_year_273 : decode cX7_year 273 = .ok (.istore 6, 2) := by decide +kernel
theorem dX7_year_275 : decode cX7_year 275 = .ok (.iinc 7 1, 3) := by decide +kernel
theorem dX7_year_278 : decode cX7_year 278 = .ok (.goto (-74), 3) := by decide +kernel
theorem dX7_year_281 : decode cX7_year 281 = .ok (.iload_n 3, 1) := by decide +kernel
theorem dX7_year_282 : decode cX7_year 282 = .ok (.ifCond .ne 15, 3) := by decide +kernel
theorem dX7_year_285 : decode cX7_year 285 = .ok (.aload_n 0, 1) := by decide +kernel
theorem dX7_year_286 : decode cX7_year 286 = .ok (.getfield 96, 3) := by decide +kernel
theorem dX7_year_289 : decode cX7_year 289 = .ok (.aload_n 0, 1) := by decide +kernel
theorem dX7_year_290 : decode cX7_year 290 = .ok (.getfield 66, 3) := by decide +kernel
theorem dX7_year_293 : decode cX7_year 293 = .ok (.isub, 1) := by decide +kernel
theorem dX7_year_294 : decode cX7_year 294 = .ok (.goto 15, 3) := by decide +kernel
theorem dX7_year_297 : decode cX7_year 297 = .ok (.iload_n 3, 1) := by decide +kernel
theorem dX7_year_298 : decode cX7_year 298 = .ok (.iconst 1, 1) := by decide +kernel
theorem dX7_year_299 : decode cX7_year 299 = .ok (.if_icmp .ne 8, 3) := by decide +kernel
theorem dX7_year_302 : decode cX7_year 302 = .ok (.iload 5, 2) := by decide +kernel
theorem dX7_year_304 : decode cX7_year 304 = .ok (.goto 5, 3) := by decide +kernel
theorem dX7_year_307 : decode cX7_year 307 = .ok (.iload 6, 2) := by decide +kernel
theorem dX7_year_309 : decode cX7_year 309 = .ok (.ireturn, 1) := by decide +kernel
theorem dX7_image_0 : decode cX7_image 0 = .ok (.iload_n 1, 1) := by decide +kernel
theorem dX7_image_1 : decode cX7_image 1 = .ok (.iconst 0, 1) := by decide +kernel
theorem dX7_image_2 : decode cX7_image 2 = .ok (.iconst 1, 1) := by decide +kernel
theorem dX7_image_3 : decode cX7_image 3 = .ok (.invokestatic 78, 3) := by decide +kernel
theorem dX7_image_6 : decode cX7_image 6 = .ok (.ifCond .ne 6, 3) := by decide +kernel
theorem dX7_image_9 : decode cX7_image 9 = .ok (.bipush (-2), 2) := by decide +kernel
theorem dX7_image_11 : decode cX7_image 11 = .ok (.ireturn, 1) := by decide +kernel
theorem dX7_image_12 : decode cX7_image 12 = .ok (.bipush 70, 2) := by decide +kernel
theorem dX7_image_14 : decode cX7_image 14 = .ok (.iload_n 1, 1) := by decide +kernel
theorem dX7_image_15 : decode cX7_image 15 = .ok (.imul, 1) := by decide +kernel
theorem dX7_image_16 : decode cX7_image 16 = .ok (.istore_n 2, 1) := by decide +kernel
theorem dX7_image_17 : decode cX7_image 17 = .ok (.iconst 0, 1) := by decide +kernel
theorem dX7_image_18 : decode cX7_image 18 = .ok (.istore_n 3, 1) := by decide +kernel
theorem dX7_image_19 : decode cX7_image 19 = .ok (.iload_n 3, 1) := by decide +kernel
theorem dX7_image_20 : decode cX7_image 20 = .ok (.bipush 6, 2) := by decide +kernel
theorem dX7_image_22 : decode cX7_image 22 = .ok (.if_icmp .ge 91, 3) := by decide +kernel
theorem dX7_image_25 : decode cX7_image 25 = .ok (.aload_n 0, 1) := by decide +kernel
theorem dX7_image_26 : decode cX7_image 26 = .ok (.getfield 56, 3) := by decide +kernel
theorem dX7_image_29 : decode cX7_image 29 = .ok (.iload_n 2, 1) := by decide +kernel
theorem dX7_image_30 : decode cX7_image 30 = .ok (.iload_n 3, 1) := by decide +kernel
theorem dX7_image_31 : decode cX7_image 31 = .ok (.iadd, 1) := by decide +kernel
theorem dX7_image_32 : decode cX7_image 32 = .ok (.aload_n 0, 1) := by decide +kernel
theorem dX7_image_33 : decode cX7_image 33 = .ok (.getfield 16, 3) := by decide +kernel
theorem dX7_image_36 : decode cX7_image 36 = .ok (.iload_n 3, 1) := by decide +kernel
theorem dX7_image_37 : decode cX7_image 37 = .ok (.iaload, 1) := by decide +kernel
theorem dX7_image_38 : decode cX7_image 38 = .ok (.iastore, 1) := by decide +kernel
theorem dX7_image_39 : decode cX7_image 39 = .ok (.aload_n 0, 1) := by decide +kernel
theorem dX7_image_40 : decode cX7_image 40 = .ok (.getfield 56, 3) := by decide +kernel
theorem dX7_image_43 : decode cX7_image 43 = .ok (.iload_n 2, 1) := by decide +kernel
theorem dX7_image_44 : decode cX7_image 44 = .ok (.bipush 6, 2) := by decide +kernel
theorem dX7_image_46 : decode cX7_image 46 = .ok (.iadd, 1) := by decide +kernel
theorem dX7_image_47 : decode cX7_image 47 = .ok (.iload_n 3, 1) := by decide +kernel
theorem dX7_image_48 : decode cX7_image 48 = .ok (.iadd, 1) := by decide +kernel
theorem dX7_image_49 : decode cX7_image 49 = .ok (.aload_n 0, 1) := by decide +kernel
theorem dX7_image_50 : decode cX7_image 50 = .ok (.getfield 20, 3) := by decide +kernel
theorem dX7_image_53 : decode cX7_image 53 = .ok (.iload_n 3, 1) := by decide +kernel
theorem dX7_image_54 : decode cX7_image 54 = .ok (.iaload, 1) := by decide +kernel
theorem dX7_image_55 : decode cX7_image 55 = .ok (.iastore, 1) := by decide +kernel
theorem dX7_image_56 : decode cX7_image 56 = .ok (.aload_n 0, 1) := by decide +kernel
theorem dX7_image_57 : decode cX7_image 57 = .ok (.getfield 56, 3) := by decide +kernel
theorem dX7_image_60 : decode cX7_image 60 = .ok (.iload_n 2, 1) := by decide +kernel
theorem dX7_image_61 : decode cX7_image 61 = .ok (.bipush 12, 2) := by decide +kernel
theorem dX7_image_63 : decode cX7_image 63 = .ok (.iadd, 1) := by decide +kernel
theorem dX7_image_64 : decode cX7_image 64 = .ok (.iload_n 3, 1) := by decide +kernel
theorem dX7_image_65 : decode cX7_image 65 = .ok (.iadd, 1) := by decide +kernel
theorem dX7_image_66 : decode cX7_image 66 = .ok (.aload_n 0, 1) := by decide +kernel
theorem dX7_image_67 : decode cX7_image 67 = .ok (.getfield 23, 3) := by decide +kernel
theorem dX7_image_70 : decode cX7_image 70 = .ok (.iload_n 3, 1) := by decide +kernel
theorem dX7_image_71 : decode cX7_image 71 = .ok (.iaload, 1) := by decide +kernel
theorem dX7_image_72 : decode cX7_image 72 = .ok (.iastore, 1) := by decide +kernel
theorem dX7_image_73 : decode cX7_image 73 = .ok (.aload_n 0, 1) := by decide +kernel
theorem dX7_image_74 : decode cX7_image 74 = .ok (.getfield 56, 3) := by decide +kernel
theorem dX7_image_77 : decode cX7_image 77 = .ok (.iload_n 2, 1) := by decide +kernel
theorem dX7_image_78 : decode cX7_image 78 = .ok (.bipush 18, 2) := by decide +kernel
theorem dX7_image_80 : decode cX7_image 80 = .ok (.iadd, 1) := by decide +kernel
theorem dX7_image_81 : decode cX7_image 81 = .ok (.iload_n 3, 1) := by decide +kernel
theorem dX7_image_82 : decode cX7_image 82 = .ok (.iadd, 1) := by decide +kernel
theorem dX7_image_83 : decode cX7_image 83 = .ok (.aload_n 0, 1) := by decide +kernel
theorem dX7_image_84 : decode cX7_image 84 = .ok (.getfield 26, 3) := by decide +kernel
theorem dX7_image_87 : decode cX7_image 87 = .ok (.iload_n 3, 1) := by decide +kernel
theorem dX7_image_88 : decode cX7_image 88 = .ok (.iaload, 1) := by decide +kernel
theorem dX7_image_89 : decode cX7_image 89 = .ok (.iastore, 1) := by decide +kernel
theorem dX7_image_90 : decode cX7_image 90 = .ok (.aload_n 0, 1) := by decide +kernel
theorem dX7_image_91 : decode cX7_image 91 = .ok (.getfield 56, 3) := by decide +kernel
theorem dX7_image_94 : decode cX7_image 94 = .ok (.iload_n 2, 1) := by decide +kernel
theorem dX7_image_95 : decode cX7_image 95 = .ok (.bipush 24, 2) := by decide +kernel
theorem dX7_image_97 : decode cX7_image 97 = .ok (.iadd, 1) := by decide +kernel
theorem dX7_image_98 : decode cX7_image 98 = .ok (.iload_n 3, 1) := by decide +kernel
theorem dX7_image_99 : decode cX7_image 99 = .ok (.iadd, 1) := by decide +kernel
theorem dX7_image_100 : decode cX7_image 100 = .ok (.aload_n 0, 1) := by decide +kernel
theorem dX7_image_101 : decode cX7_image 101 = .ok (.getfield 29, 3) := by decide +kernel
theorem dX7_image_104 : decode cX7_image 104 = .ok (.iload_n 3, 1) := by decide +kernel
theorem dX7_image_105 : decode cX7_image 105 = .ok (.iaload, 1) := by decide +kernel
theorem dX7_image_106 : decode cX7_image 106 = .ok (.iastore, 1) := by decide +kernel
theorem dX7_image_107 : decode cX7_image 107 = .ok (.iinc 3 1, 3) := by decide +kernel
theorem dX7_image_110 : decode cX7_image 110 = .ok (.goto (-91), 3) := by decide +kernel
theorem dX7_image_113 : decode cX7_image 113 = .ok (.iconst 0, 1) := by decide +kernel
theorem dX7_image_114 : decode cX7_image 114 = .ok (.istore_n 3, 1) := by decide +kernel
theorem dX7_image_115 : decode cX7_image 115 = .ok (.iload_n 3, 1) := by decide +kernel
theorem dX7_image_116 : decode cX7_image 116 = .ok (.bipush 16, 2) := by decide +kernel
theorem dX7_image_118 : decode cX7_image 118 = .ok (.if_icmp .ge 26, 3) := by decide +kernel
theorem dX7_image_121 : decode cX7_image 121 = .ok (.aload_n 0, 1) := by decide +kernel
theorem dX7_image_122 : decode cX7_image 122 = .ok (.getfield 56, 3) := by decide +kernel
theorem dX7_image_125 : decode cX7_image 125 = .ok (.iload_n 2, 1) := by decide +kernel
theorem dX7_image_126 : decode cX7_image 126 = .ok (.bipush 30, 2) := by decide +kernel
theorem dX7_image_128 : decode cX7_image 128 = .ok (.iadd, 1) := by decide +kernel
theorem dX7_image_129 : decode cX7_image 129 = .ok (.iload_n 3, 1) := by decide +kernel
theorem dX7_image_130 : decode cX7_image 130 = .ok (.iadd, 1) := by decide +kernel
theorem dX7_image_131 : decode cX7_image 131 = .ok (.aload_n 0, 1) := by decide +kernel
theorem dX7_image_132 : decode cX7_image 132 = .ok (.getfield 32, 3) := by decide +kernel
theorem dX7_image_135 : decode cX7_image 135 = .ok (.iload_n 3, 1) := by decide +kernel
theorem dX7_image_136 : decode cX7_image 136 = .ok (.iaload, 1) := by decide +kernel
theorem dX7_image_137 : decode cX7_image 137 = .ok (.iastore, 1) := by decide +kernel
theorem dX7_image_138 : decode cX7_image 138 = .ok (.iinc 3 1, 3) := by decide +kernel
theorem dX7_image_141 : decode cX7_image 141 = .ok (.goto (-26), 3) := by decide +kernel
theorem dX7_image_144 : decode cX7_image 144 = .ok (.aload_n 0, 1) := by decide +kernel
theorem dX7_image_145 : decode cX7_image 145 = .ok (.getfield 56, 3) := by decide +kernel
theorem dX7_image_148 : decode cX7_image 148 = .ok (.iload_n 2, 1) := by decide +kernel
theorem dX7_image_149 : decode cX7_image 149 = .ok (.bipush 50, 2) := by decide +kernel
theorem dX7_image_151 : decode cX7_image 151 = .ok (.iadd, 1) := by decide +kernel
theorem dX7_image_152 : decode cX7_image 152 = .ok (.aload_n 0, 1) := by decide +kernel
theorem dX7_image_153 : decode cX7_image 153 = .ok (.getfield 7, 3) := by decide +kernel
theorem dX7_image_156 : decode cX7_image 156 = .ok (.iastore, 1) := by decide +kernel
theorem dX7_image_157 : decode cX7_image 157 = .ok (.aload_n 0, 1) := by decide +kernel
theorem dX7_image_158 : decode cX7_image 158 = .ok (.getfield 56, 3) := by decide +kernel
theorem dX7_image_161 : decode cX7_image 161 = .ok (.iload_n 2, 1) := by decide +kernel
theorem dX7_image_162 : decode cX7_image 162 = .ok (.bipush 51, 2) := by decide +kernel
theorem dX7_image_164 : decode cX7_image 164 = .ok (.iadd, 1) := by decide +kernel
theorem dX7_image_165 : decode cX7_image 165 = .ok (.aload_n 0, 1) := by decide +kernel
theorem dX7_image_166 : decode cX7_image 166 = .ok (.getfield 13, 3) := by decide +kernel
theorem dX7_image_169 : decode cX7_image 169 = .ok (.iastore, 1) := by decide +kernel
theorem dX7_image_170 : decode cX7_image 170 = .ok (.aload_n 0, 1) := by decide +kernel
theorem dX7_image_171 : decode cX7_image 171 = .ok (.getfield 56, 3) := by decide +kernel
theorem dX7_image_174 : decode cX7_image 174 = .ok (.iload_n 2, 1) := by decide +kernel
theorem dX7_image_175 : decode cX7_image 175 = .ok (.bipush 52, 2) := by decide +kernel
theorem dX7_image_177 : decode cX7_image 177 = .ok (.iadd, 1) := by decide +kernel
theorem dX7_image_178 : decode cX7_image 178 = .ok (.aload_n 0, 1) := by decide +kernel
theorem dX7_image_179 : decode cX7_image 179 = .ok (.getfield 66, 3) := by decide +kernel
theorem dX7_image_182 : decode cX7_image 182 = .ok (.iastore, 1) := by decide +kernel
theorem dX7_image_183 : decode cX7_image 183 = .ok (.aload_n 0, 1) := by decide +kernel
theorem dX7_image_184 : decode cX7_image 184 = .ok (.getfield 56, 3) := by decide +kernel
theorem dX7_image_187 : decode cX7_image 187 = .ok (.iload_n 2, 1) := by decide +kernel
theorem dX7_image_188 : decode cX7_image 188 = .ok (.bipush 53, 2) := by decide +kernel
theorem dX7_image_190 : decode cX7_image 190 = .ok (.iadd, 1) := by decide +kernel
theorem dX7_image_191 : decode cX7_image 191 = .ok (.aload_n 0, 1) := by decide +kernel
theorem dX7_image_192 : decode cX7_image 192 = .ok (.getfield 69, 3) := by decide +kernel
theorem dX7_image_195 : decode cX7_image 195 = .ok (.iastore, 1) := by decide +kernel
theorem dX7_image_196 : decode cX7_image 196 = .ok (.aload_n 0, 1) := by decide +kernel
theorem dX7_image_197 : decode cX7_image 197 = .ok (.getfield 56, 3) := by decide +kernel
theorem dX7_image_200 : decode cX7_image 200 = .ok (.iload_n 2, 1) := by decide +kernel
theorem dX7_image_201 : decode cX7_image 201 = .ok (.bipush 54, 2) := by decide +kernel
theorem dX7_image_203 : decode cX7_image 203 = .ok (.iadd, 1) := by decide +kernel
theorem dX7_image_204 : decode cX7_image 204 = .ok (.aload_n 0, 1) := by decide +kernel
theorem dX7_image_205 : decode cX7_image 205 = .ok (.getfield 72, 3) := by decide +kernel
theorem dX7_image_208 : decode cX7_image 208 = .ok (.iastore, 1) := by decide +kernel
theorem dX7_image_209 : decode cX7_image 209 = .ok (.aload_n 0, 1) := by decide +kernel
theorem dX7_image_210 : decode cX7_image 210 = .ok (.getfield 56, 3) := by decide +kernel
theorem dX7_image_213 : decode cX7_image 213 = .ok (.iload_n 2, 1) := by decide +kernel
theorem dX7_image_214 : decode cX7_image 214 = .ok (.bipush 55, 2) := by decide +kernel
theorem dX7_image_216 : decode cX7_image 216 = .ok (.iadd, 1) := by decide +kernel
theorem dX7_image_217 : decode cX7_image 217 = .ok (.aload_n 0, 1) := by decide +kernel
theorem dX7_image_218 : decode cX7_image 218 = .ok (.getfield 75, 3) := by decide +kernel
theorem dX7_image_221 : decode cX7_image 221 = .ok (.iastore, 1) := by decide +kernel
theorem dX7_image_222 : decode cX7_image 222 = .ok (.aload_n 0, 1) := by decide +kernel
theorem dX7_image_223 : decode cX7_image 223 = .ok (.getfield 59, 3) := by decide +kernel
theorem dX7_image_226 : decode cX7_image 226 = .ok (.iload_n 1, 1) := by decide +kernel
theorem dX7_image_227 : decode cX7_image 227 = .ok (.iconst 1, 1) := by decide +kernel
theorem dX7_image_228 : decode cX7_image 228 = .ok (.bastore, 1) := by decide +kernel
theorem dX7_image_229 : decode cX7_image 229 = .ok (.iconst 1, 1) := by decide +kernel
theorem dX7_image_230 : decode cX7_image 230 = .ok (.ireturn, 1) := by decide +kernel
theorem dX7_restore_0 : decode cX7_restore 0 = .ok (.iload_n 1, 1) := by decide +kernel
theorem dX7_restore_1 : decode cX7_restore 1 = .ok (.iconst 0, 1) := by decide +kernel
theorem dX7_restore_2 : decode cX7_restore 2 = .ok (.iconst 1, 1) := by decide +kernel
theorem dX7_restore_3 : decode cX7_restore 3 = .ok (.invokestatic 78, 3) := by decide +kernel
theorem dX7_restore_6 : decode cX7_restore 6 = .ok (.ifCond .ne 6, 3) := by decide +kernel
theorem dX7_restore_9 : decode cX7_restore 9 = .ok (.bipush (-2), 2) := by decide +kernel
theorem dX7_restore_11 : decode cX7_restore 11 = .ok (.ireturn, 1) := by decide +kernel
theorem dX7_restore_12 : decode cX7_restore 12 = .ok (.aload_n 0, 1) := by decide +kernel
theorem dX7_restore_13 : decode cX7_restore 13 = .ok (.getfield 59, 3) := by decide +kernel
theorem dX7_restore_16 : decode cX7_restore 16 = .ok (.iload_n 1, 1) := by decide +kernel
theorem dX7_restore_17 : decode cX7_restore 17 = .ok (.baload, 1) := by decide +kernel
theorem dX7_restore_18 : decode cX7_restore 18 = .ok (.ifCond .ne 6, 3) := by decide +kernel
theorem dX7_restore_21 : decode cX7_restore 21 = .ok (.bipush (-3), 2) := by decide +kernel
theorem dX7_restore_23 : decode cX7_restore 23 = .ok (.ireturn, 1) := by decide +kernel
theorem dX7_restore_24 : decode cX7_restore 24 = .ok (.bipush 70, 2) := by decide +kernel
theorem dX7_restore_26 : decode cX7_restore 26 = .ok (.iload_n 1, 1) := by decide +kernel
theorem dX7_restore_27 : decode cX7_restore 27 = .ok (.imul, 1) := by decide +kernel
theorem dX7_restore_28 : decode cX7_restore 28 = .ok (.istore_n 2, 1) := by decide +kernel
theorem dX7_restore_29 : decode cX7_restore 29 = .ok (.iconst 0, 1) := by decide +kernel
theorem dX7_restore_30 : decode cX7_restore 30 = .ok (.istore_n 3, 1) := by decide +kernel
theorem dX7_restore_31 : decode cX7_restore 31 = .ok (.iload_n 3, 1) := by decide +kernel
theorem dX7_restore_32 : decode cX7_restore 32 = .ok (.bipush 6, 2) := by decide +kernel
theorem dX7_restore_34 : decode cX7_restore 34 = .ok (.if_icmp .ge 91, 3) := by decide +kernel
theorem dX7_restore_37 : decode cX7_restore 37 = .ok (.aload_n 0, 1) := by decide +kernel
theorem dX7_restore_38 : decode cX7_restore 38 = .ok (.getfield 16, 3) := by decide +kernel
theorem dX7_restore_41 : decode cX7_restore 41 = .ok (.iload_n 3, 1) := by decide +kernel
theorem dX7_restore_42 : decode cX7_restore 42 = .ok (.aload_n 0, 1) := by decide +kernel
theorem dX7_restore_43 : decode cX7_restore 43 = .ok (.getfield 56, 3) := by decide +kernel
theorem dX7_restore_46 : decode cX7_restore 46 = .ok (.iload_n 2, 1) := by decide +kernel
theorem dX7_restore_47 : decode cX7_restore 47 = .ok (.iload_n 3, 1) := by decide +kernel
theorem dX7_restore_48 : decode cX7_restore 48 = .ok (.iadd, 1) := by decide +kernel
theorem dX7_restore_49 : decode cX7_restore 49 = .ok (.iaload, 1) := by decide +kernel
theorem dX7_restore_50 : decode cX7_restore 50 = .ok (.iastore, 1) := by decide +kernel
theorem dX7_restore_51 : decode cX7_restore 51 = .ok (.aload_n 0, 1) := by decide +kernel
theorem dX7_restore_52 : decode cX7_restore 52 = .ok (.getfield 20, 3) := by decide +kernel
theorem dX7_restore_55 : decode cX7_restore 55 = .ok (.iload_n 3, 1) := by decide +kernel
theorem dX7_restore_56 : decode cX7_restore 56 = .ok (.aload_n 0, 1) := by decide +kernel
theorem dX7_restore_57 : decode cX7_restore 57 = .ok (.getfield 56, 3) := by decide +kernel
theorem dX7_restore_60 : decode cX7_restore 60 = .ok (.iload_n 2, 1) := by decide +kernel
theorem dX7_restore_61 : decode cX7_restore 61 = .ok (.bipush 6, 2) := by decide +kernel
theorem dX7_restore_63 : decode cX7_restore 63 = .ok (.iadd, 1) := by decide +kernel
theorem dX7_restore_64 : decode cX7_restore 64 = .ok (.iload_n 3, 1) := by decide +kernel
theorem dX7_restore_65 : decode cX7_restore 65 = .ok (.iadd, 1) := by decide +kernel
theorem dX7_restore_66 : decode cX7_restore 66 = .ok (.iaload, 1) := by decide +kernel
theorem dX7_restore_67 : decode cX7_restore 67 = .ok (.iastore, 1) := by decide +kernel
theorem dX7_restore_68 : decode cX7_restore 68 = .ok (.aload_n 0, 1) := by decide +kernel
theorem dX7_restore_69 : decode cX7_restore 69 = .ok (.getfield 23, 3) := by decide +kernel
theorem dX7_restore_72 : decode cX7_restore 72 = .ok (.iload_n 3, 1) := by decide +kernel
theorem dX7_restore_73 : decode cX7_restore 73 = .ok (.aload_n 0, 1) := by decide +kernel
theorem dX7_restore_74 : decode cX7_restore 74 = .ok (.getfield 56, 3) := by decide +kernel
theorem dX7_restore_77 : decode cX7_restore 77 = .ok (.iload_n 2, 1) := by decide +kernel
theorem dX7_restore_78 : decode cX7_restore 78 = .ok (.bipush 12, 2) := by decide +kernel
theorem dX7_restore_80 : decode cX7_restore 80 = .ok (.iadd, 1) := by decide +kernel
theorem dX7_restore_81 : decode cX7_restore 81 = .ok (.iload_n 3, 1) := by decide +kernel
theorem dX7_restore_82 : decode cX7_restore 82 = .ok (.iadd, 1) := by decide +kernel
theorem dX7_restore_83 : decode cX7_restore 83 = .ok (.iaload, 1) := by decide +kernel
theorem dX7_restore_84 : decode cX7_restore 84 = .ok (.iastore, 1) := by decide +kernel
theorem dX7_restore_85 : decode cX7_restore 85 = .ok (.aload_n 0, 1) := by decide +kernel
theorem dX7_restore_86 : decode cX7_restore 86 = .ok (.getfield 26, 3) := by decide +kernel
theorem dX7_restore_89 : decode cX7_restore 89 = .ok (.iload_n 3, 1) := by decide +kernel
theorem dX7_restore_90 : decode cX7_restore 90 = .ok (.aload_n 0, 1) := by decide +kernel
theorem dX7_restore_91 : decode cX7_restore 91 = .ok (.getfield 56, 3) := by decide +kernel
theorem dX7_restore_94 : decode cX7_restore 94 = .ok (.iload_n 2, 1) := by decide +kernel
theorem dX7_restore_95 : decode cX7_restore 95 = .ok (.bipush 18, 2) := by decide +kernel
theorem dX7_restore_97 : decode cX7_restore 97 = .ok (.iadd, 1) := by decide +kernel
theorem dX7_restore_98 : decode cX7_restore 98 = .ok (.iload_n 3, 1) := by decide +kernel
theorem dX7_restore_99 : decode cX7_restore 99 = .ok (.iadd, 1) := by decide +kernel
theorem dX7_restore_100 : decode cX7_restore 100 = .ok (.iaload, 1) := by decide +kernel
theorem dX7_restore_101 : decode cX7_restore 101 = .ok (.iastore, 1) := by decide +kernel
theorem dX7_restore_102 : decode cX7_restore 102 = .ok (.aload_n 0, 1) := by decide +kernel
theorem dX7_restore_103 : decode cX7_restore 103 = .ok (.getfield 29, 3) := by decide +kernel
theorem dX7_restore_106 : decode cX7_restore 106 = .ok (.iload_n 3, 1) := by decide +kernel
theorem dX7_restore_107 : decode cX7_restore 107 = .ok (.aload_n 0, 1) := by decide +kernel
theorem dX7_restore_108 : decode cX7_restore 108 = .ok (.getfield 56, 3) := by decide +kernel
theorem dX7_restore_111 : decode cX7_restore 111 = .ok (.iload_n 2, 1) := by decide +kernel
theorem dX7_restore_112 : decode cX7_restore 112 = .ok (.bipush 24, 2) := by decide +kernel
theorem dX7_restore_114 : decode cX7_restore 114 = .ok (.iadd, 1) := by decide +kernel
theorem dX7_restore_115 : decode cX7_restore 115 = .ok (.iload_n 3, 1) := by decide +kernel
theorem dX7_restore_116 : decode cX7_restore 116 = .ok (.iadd, 1) := by decide +kernel
theorem dX7_restore_117 : decode cX7_restore 117 = .ok (.iaload, 1) := by decide +kernel
theorem dX7_restore_118 : decode cX7_restore 118 = .ok (.iastore, 1) := by decide +kernel
theorem dX7_restore_119 : decode cX7_restore 119 = .ok (.iinc 3 1, 3) := by decide +kernel
theorem dX7_restore_122 : decode cX7_restore 122 = .ok (.goto (-91), 3) := by decide +kernel
theorem dX7_restore_125 : decode cX7_restore 125 = .ok (.iconst 0, 1) := by decide +kernel
theorem dX7_restore_126 : decode cX7_restore 126 = .ok (.istore_n 3, 1) := by decide +kernel
theorem dX7_restore_127 : decode cX7_restore 127 = .ok (.iload_n 3, 1) := by decide +kernel
theorem dX7_restore_128 : decode cX7_restore 128 = .ok (.bipush 16, 2) := by decide +kernel
theorem dX7_restore_130 : decode cX7_restore 130 = .ok (.if_icmp .ge 26, 3) := by decide +kernel
theorem dX7_restore_133 : decode cX7_restore 133 = .ok (.aload_n 0, 1) := by decide +kernel
theorem dX7_restore_134 : decode cX7_restore 134 = .ok (.getfield 32, 3) := by decide +kernel
theorem dX7_restore_137 : decode cX7_restore 137 = .ok (.iload_n 3, 1) := by decide +kernel
theorem dX7_restore_138 : decode cX7_restore 138 = .ok (.aload_n 0, 1) := by decide +kernel
theorem dX7_restore_139 : decode cX7_restore 139 = .ok (.getfield 56, 3) := by decide +kernel
theorem dX7_restore_142 : decode cX7_restore 142 = .ok (.iload_n 2, 1) := by decide +kernel
theorem dX7_restore_143 : decode cX7_restore 143 = .ok (.bipush 30, 2) := by decide +kernel
theorem dX7_restore_145 : decode cX7_restore 145 = .ok (.iadd, 1) := by decide +kernel
theorem dX7_restore_146 : decode cX7_restore 146 = .ok (.iload_n 3, 1) := by decide +kernel
theorem dX7_restore_147 : decode cX7_restore 147 = .ok (.iadd, 1) := by decide +kernel
theorem dX7_restore_148 : decode cX7_restore 148 = .ok (.iaload, 1) := by decide +kernel
theorem dX7_restore_149 : decode cX7_restore 149 = .ok (.iastore, 1) := by decide +kernel
theorem dX7_restore_150 : decode cX7_restore 150 = .ok (.iinc 3 1, 3) := by decide +kernel
theorem dX7_restore_153 : decode cX7_restore 153 = .ok (.goto (-26), 3) := by decide +kernel
theorem dX7_restore_156 : decode cX7_restore 156 = .ok (.aload_n 0, 1) := by decide +kernel
theorem dX7_restore_157 : decode cX7_restore 157 = .ok (.aload_n 0, 1) := by decide +kernel
theorem dX7_restore_158 : decode cX7_restore 158 = .ok (.getfield 56, 3) := by decide +kernel
theorem dX7_restore_161 : decode cX7_restore 161 = .ok (.iload_n 2, 1) := by decide +kernel
theorem dX7_restore_162 : decode cX7_restore 162 = .ok (.bipush 50, 2) := by decide +kernel
theorem dX7_restore_164 : decode cX7_restore 164 = .ok (.iadd, 1) := by decide +kernel
theorem dX7_restore_165 : decode cX7_restore 165 = .ok (.iaload, 1) := by decide +kernel
theorem dX7_restore_166 : decode cX7_restore 166 = .ok (.putfield 7, 3) := by decide +kernel
theorem dX7_restore_169 : decode cX7_restore 169 = .ok (.aload_n 0, 1) := by decide +kernel
theorem dX7_restore_170 : decode cX7_restore 170 = .ok (.aload_n 0, 1) := by decide +kernel
theorem dX7_restore_171 : decode cX7_restore 171 = .ok (.getfield 56, 3) := by decide +kernel
theorem dX7_restore_174 : decode cX7_restore 174 = .ok (.iload_n 2, 1) := by decide +kernel
theorem dX7_restore_175 : decode cX7_restore 175 = .ok (.bipush 51, 2) := by decide +kernel
theorem dX7_restore_177 : decode cX7_restore 177 = .ok (.iadd, 1) := by decide +kernel
theorem dX7_restore_178 : decode cX7_restore 178 = .ok (.iaload, 1) := by decide +kernel
theorem dX7_restore_179 : decode cX7_restore 179 = .ok (.putfield 13, 3) := by decide +kernel
theorem dX7_restore_182 : decode cX7_restore 182 = .ok (.aload_n 0, 1) := by decide +kernel
theorem dX7_restore_183 : decode cX7_restore 183 = .ok (.aload_n 0, 1) := by decide +kernel
theorem dX7_restore_184 : decode cX7_restore 184 = .ok (.getfield 56, 3) := by decide +kernel
theorem dX7_restore_187 : decode cX7_restore 187 = .ok (.iload_n 2, 1) := by decide +kernel
theorem dX7_restore_188 : decode cX7_restore 188 = .ok (.bipush 52, 2) := by decide +kernel
theorem dX7_restore_190 : decode cX7_restore 190 = .ok (.iadd, 1) := by decide +kernel
theorem dX7_restore_191 : decode cX7_restore 191 = .ok (.iaload, 1) := by decide +kernel
theorem dX7_restore_192 : decode cX7_restore 192 = .ok (.putfield 66, 3) := by decide +kernel
theorem dX7_restore_195 : decode cX7_restore 195 = .ok (.aload_n 0, 1) := by decide +kernel
theorem dX7_restore_196 : decode cX7_restore 196 = .ok (.aload_n 0, 1) := by decide +kernel
theorem dX7_restore_197 : decode cX7_restore 197 = .ok (.getfield 56, 3) := by decide +kernel
theorem dX7_restore_200 : decode cX7_restore 200 = .ok (.iload_n 2, 1) := by decide +kernel
theorem dX7_restore_201 : decode cX7_restore 201 = .ok (.bipush 53, 2) := by decide +kernel
theorem dX7_restore_203 : decode cX7_restore 203 = .ok (.iadd, 1) := by decide +kernel
theorem dX7_restore_204 : decode cX7_restore 204 = .ok (.iaload, 1) := by decide +kernel
theorem dX7_restore_205 : decode cX7_restore 205 = .ok (.putfield 69, 3) := by decide +kernel
theorem dX7_restore_208 : decode cX7_restore 208 = .ok (.aload_n 0, 1) := by decide +kernel
theorem dX7_restore_209 : decode cX7_restore 209 = .ok (.aload_n 0, 1) := by decide +kernel
theorem dX7_restore_210 : decode cX7_restore 210 = .ok (.getfield 56, 3) := by decide +kernel
theorem dX7_restore_213 : decode cX7_restore 213 = .ok (.iload_n 2, 1) := by decide +kernel
theorem dX7_restore_214 : decode cX7_restore 214 = .ok (.bipush 54, 2) := by decide +kernel
theorem dX7_restore_216 : decode cX7_restore 216 = .ok (.iadd, 1) := by decide +kernel
theorem dX7_restore_217 : decode cX7_restore 217 = .ok (.iaload, 1) := by decide +kernel
theorem dX7_restore_218 : decode cX7_restore 218 = .ok (.putfield 72, 3) := by decide +kernel
theorem dX7_restore_221 : decode cX7_restore 221 = .ok (.aload_n 0, 1) := by decide +kernel
theorem dX7_restore_222 : decode cX7_restore 222 = .ok (.aload_n 0, 1) := by decide +kernel
theorem dX7_restore_223 : decode cX7_restore 223 = .ok (.getfield 56, 3) := by decide +kernel
theorem dX7_restore_226 : decode cX7_restore 226 = .ok (.iload_n 2, 1) := by decide +kernel
theorem dX7_restore_227 : decode cX7_restore 227 = .ok (.bipush 55, 2) := by decide +kernel
theorem dX7_restore_229 : decode cX7_restore 229 = .ok (.iadd, 1) := by decide +kernel
theorem dX7_restore_230 : decode cX7_restore 230 = .ok (.iaload, 1) := by decide +kernel
theorem dX7_restore_231 : decode cX7_restore 231 = .ok (.putfield 75, 3) := by decide +kernel
theorem dX7_restore_234 : decode cX7_restore 234 = .ok (.iconst 1, 1) := by decide +kernel
theorem dX7_restore_235 : decode cX7_restore 235 = .ok (.ireturn, 1) := by decide +kernel
theorem dX7_told_0 : decode cX7_told 0 = .ok (.iload_n 1, 1) := by decide +kernel
theorem dX7_told_1 : decode cX7_told 1 = .ok (.bipush 20, 2) := by decide +kernel
theorem dX7_told_3 : decode cX7_told 3 = .ok (.if_icmp .lt 29, 3) := by decide +kernel
theorem dX7_told_6 : decode cX7_told 6 = .ok (.aload_n 0, 1) := by decide +kernel
theorem dX7_told_7 : decode cX7_told 7 = .ok (.iload_n 1, 1) := by decide +kernel
theorem dX7_told_8 : decode cX7_told 8 = .ok (.bipush 20, 2) := by decide +kernel
theorem dX7_told_10 : decode cX7_told 10 = .ok (.isub, 1) := by decide +kernel
theorem dX7_told_11 : decode cX7_told 11 = .ok (.invokevirtual 82, 3) := by decide +kernel
theorem dX7_told_14 : decode cX7_told 14 = .ok (.ifCond .eq 15, 3) := by decide +kernel
theorem dX7_told_17 : decode cX7_told 17 = .ok (.aload_n 0, 1) := by decide +kernel
theorem dX7_told_18 : decode cX7_told 18 = .ok (.getfield 29, 3) := by decide +kernel
theorem dX7_told_21 : decode cX7_told 21 = .ok (.iload_n 1, 1) := by decide +kernel
theorem dX7_told_22 : decode cX7_told 22 = .ok (.bipush 20, 2) := by decide +kernel
theorem dX7_told_24 : decode cX7_told 24 = .ok (.isub, 1) := by decide +kernel
theorem dX7_told_25 : decode cX7_told 25 = .ok (.iaload, 1) := by decide +kernel
theorem dX7_told_26 : decode cX7_told 26 = .ok (.goto 5, 3) := by decide +kernel
theorem dX7_told_29 : decode cX7_told 29 = .ok (.bipush (-2), 2) := by decide +kernel
theorem dX7_told_31 : decode cX7_told 31 = .ok (.ireturn, 1) := by decide +kernel
theorem dX7_told_32 : decode cX7_told 32 = .ok (.iload_n 1, 1) := by decide +kernel
theorem dX7_told_33 : decode cX7_told 33 = .ok (.bipush 10, 2) := by decide +kernel
theorem dX7_told_35 : decode cX7_told 35 = .ok (.if_icmp .lt 29, 3) := by decide +kernel
theorem dX7_told_38 : decode cX7_told 38 = .ok (.aload_n 0, 1) := by decide +kernel
theorem dX7_told_39 : decode cX7_told 39 = .ok (.iload_n 1, 1) := by decide +kernel
theorem dX7_told_40 : decode cX7_told 40 = .ok (.bipush 10, 2) := by decide +kernel
theorem dX7_told_42 : decode cX7_told 42 = .ok (.isub, 1) := by decide +kernel
theorem dX7_told_43 : decode cX7_told 43 = .ok (.invokevirtual 82, 3) := by decide +kernel
theorem dX7_told_46 : decode cX7_told 46 = .ok (.ifCond .eq 15, 3) := by decide +kernel
theorem dX7_told_49 : decode cX7_told 49 = .ok (.aload_n 0, 1) := by decide +kernel
theorem dX7_told_50 : decode cX7_told 50 = .ok (.getfield 26, 3) := by decide +kernel
theorem dX7_told_53 : decode cX7_told 53 = .ok (.iload_n 1, 1) := by decide +kernel
theorem dX7_told_54 : decode cX7_told 54 = .ok (.bipush 10, 2) := by decide +kernel
theorem dX7_told_56 : decode cX7_told 56 = .ok (.isub, 1) := by decide +kernel
theorem dX7_told_57 : decode cX7_told 57 = .ok (.iaload, 1) := by decide +kernel
theorem dX7_told_58 : decode cX7_told 58 = .ok (.goto 5, 3) := by decide +kernel
theorem dX7_told_61 : decode cX7_told 61 = .ok (.bipush (-2), 2) := by decide +kernel
theorem dX7_told_63 : decode cX7_told 63 = .ok (.ireturn, 1) := by decide +kernel
theorem dX7_told_64 : decode cX7_told 64 = .ok (.iconst 0, 1) := by decide +kernel
theorem dX7_told_65 : decode cX7_told 65 = .ok (.istore_n 2, 1) := by decide +kernel
theorem dX7_told_66 : decode cX7_told 66 = .ok (.iconst 0, 1) := by decide +kernel
theorem dX7_told_67 : decode cX7_told 67 = .ok (.istore_n 3, 1) := by decide +kernel
theorem dX7_told_68 : decode cX7_told 68 = .ok (.iload_n 3, 1) := by decide +kernel
theorem dX7_told_69 : decode cX7_told 69 = .ok (.aload_n 0, 1) := by decide +kernel
theorem dX7_told_70 : decode cX7_told 70 = .ok (.getfield 7, 3) := by decide +kernel
theorem dX7_told_73 : decode cX7_told 73 = .ok (.if_icmp .ge 28, 3) := by decide +kernel
theorem dX7_told_76 : decode cX7_told 76 = .ok (.iload_n 2, 1) := by decide +kernel
theorem dX7_told_77 : decode cX7_told 77 = .ok (.aload_n 0, 1) := by decide +kernel
theorem dX7_told_78 : decode cX7_told 78 = .ok (.getfield 16, 3) := by decide +kernel
theorem dX7_told_81 : decode cX7_told 81 = .ok (.iload_n 3, 1) := by decide +kernel
theorem dX7_told_82 : decode cX7_told 82 = .ok (.iaload, 1) := by decide +kernel
theorem dX7_told_83 : decode cX7_told 83 = .ok (.ifCond .lt 9, 3) := by decide +kernel
theorem dX7_told_86 : decode cX7_told 86 = .ok (.iconst 1, 1) := by decide +kernel
theorem dX7_told_87 : decode cX7_told 87 = .ok (.iload_n 3, 1) := by decide +kernel
theorem dX7_told_88 : decode cX7_told 88 = .ok (.ishl, 1) := by decide +kernel
theorem dX7_told_89 : decode cX7_told 89 = .ok (.goto 4, 3) := by decide +kernel
theorem dX7_told_92 : decode cX7_told 92 = .ok (.iconst 0, 1) := by decide +kernel
theorem dX7_told_93 : decode cX7_told 93 = .ok (.ior, 1) := by decide +kernel
theorem dX7_told_94 : decode cX7_told 94 = .ok (.istore_n 2, 1) := by decide +kernel
theorem dX7_told_95 : decode cX7_told 95 = .ok (.iinc 3 1, 3) := by decide +kernel
theorem dX7_told_98 : decode cX7_told 98 = .ok (.goto (-30), 3) := by decide +kernel
theorem dX7_told_101 : decode cX7_told 101 = .ok (.iload_n 1, 1) := by decide +kernel
theorem dX7_told_102 : decode cX7_told 102 = .ok (.tableswitch 65 0 5 #[38, 43, 48, 53, 58, 63], 38) := by decide +kernel
theorem dX7_told_140 : decode cX7_told 140 = .ok (.aload_n 0, 1) := by decide +kernel
theorem dX7_told_141 : decode cX7_told 141 = .ok (.getfield 86, 3) := by decide +kernel
theorem dX7_told_144 : decode cX7_told 144 = .ok (.ireturn, 1) := by decide +kernel
theorem dX7_told_145 : decode cX7_told 145 = .ok (.aload_n 0, 1) := by decide +kernel
theorem dX7_told_146 : decode cX7_told 146 = .ok (.getfield 7, 3) := by decide +kernel
theorem dX7_told_149 : decode cX7_told 149 = .ok (.ireturn, 1) := by decide +kernel
theorem dX7_told_150 : decode cX7_told 150 = .ok (.aload_n 0, 1) := by decide +kernel
theorem dX7_told_151 : decode cX7_told 151 = .ok (.getfield 13, 3) := by decide +kernel
theorem dX7_told_154 : decode cX7_told 154 = .ok (.ireturn, 1) := by decide +kernel
theorem dX7_told_155 : decode cX7_told 155 = .ok (.aload_n 0, 1) := by decide +kernel
theorem dX7_told_156 : decode cX7_told 156 = .ok (.getfield 66, 3) := by decide +kernel
theorem dX7_told_159 : decode cX7_told 159 = .ok (.ireturn, 1) := by decide +kernel
theorem dX7_told_160 : decode cX7_told 160 = .ok (.aload_n 0, 1) := by decide +kernel
theorem dX7_told_161 : decode cX7_told 161 = .ok (.getfield 69, 3) := by decide +kernel
theorem dX7_told_164 : decode cX7_told 164 = .ok (.ireturn, 1) := by decide +kernel
theorem dX7_told_165 : decode cX7_told 165 = .ok (.iload_n 2, 1) := by decide +kernel
theorem dX7_told_166 : decode cX7_told 166 = .ok (.ireturn, 1) := by decide +kernel
theorem dX7_told_167 : decode cX7_told 167 = .ok (.iload_n 1, 1) := by decide +kernel
theorem dX7_told_168 : decode cX7_told 168 = .ok (.bipush 6, 2) := by decide +kernel
theorem dX7_told_170 : decode cX7_told 170 = .ok (.if_icmp .ne 10, 3) := by decide +kernel
theorem dX7_told_173 : decode cX7_told 173 = .ok (.aload_n 0, 1) := by decide +kernel
theorem dX7_told_174 : decode cX7_told 174 = .ok (.getfield 75, 3) := by decide +kernel
theorem dX7_told_177 : decode cX7_told 177 = .ok (.goto 5, 3) := by decide +kernel
theorem dX7_told_180 : decode cX7_told 180 = .ok (.bipush (-2), 2) := by decide +kernel
theorem dX7_told_182 : decode cX7_told 182 = .ok (.ireturn, 1) := by decide +kernel
end
section
-- decode rows: printed by the TURN, copied
theorem dL_law_0 : decode cL_law 0 = .ok (.new 7, 3) := by decide +kernel
theorem dL_law_3 : decode cL_law 3 = .ok (.dup, 1) := by decide +kernel
theorem dL_law_4 : decode cL_law 4 = .ok (.invokespecial 9, 3) := by decide +kernel
theorem dL_law_7 : decode cL_law 7 = .ok (.astore_n 1, 1) := by decide +kernel
theorem dL_law_8 : decode cL_law 8 = .ok (.new 10, 3) := by decide +kernel
theorem dL_law_11 : decode cL_law 11 = .ok (.dup, 1) := by decide +kernel
theorem dL_law_12 : decode cL_law 12 = .ok (.invokespecial 12, 3) := by decide +kernel
theorem dL_law_15 : decode cL_law 15 = .ok (.astore_n 2, 1) := by decide +kernel
theorem dL_law_16 : decode cL_law 16 = .ok (.iconst 0, 1) := by decide +kernel
theorem dL_law_17 : decode cL_law 17 = .ok (.istore_n 3, 1) := by decide +kernel
theorem dL_law_18 : decode cL_law 18 = .ok (.iload_n 3, 1) := by decide +kernel
theorem dL_law_19 : decode cL_law 19 = .ok (.aload_n 0, 1) := by decide +kernel
theorem dL_law_20 : decode cL_law 20 = .ok (.arraylength, 1) := by decide +kernel
theorem dL_law_21 : decode cL_law 21 = .ok (.iconst 5, 1) := by decide +kernel
theorem dL_law_22 : decode cL_law 22 = .ok (.isub, 1) := by decide +kernel
theorem dL_law_23 : decode cL_law 23 = .ok (.if_icmp .gt 1183, 3) := by decide +kernel
theorem dL_law_26 : decode cL_law 26 = .ok (.aload_n 0, 1) := by decide +kernel
theorem dL_law_27 : decode cL_law 27 = .ok (.iload_n 3, 1) := by decide +kernel
theorem dL_law_28 : decode cL_law 28 = .ok (.iaload, 1) := by decide +kernel
theorem dL_law_29 : decode cL_law 29 = .ok (.bipush 63, 2) := by decide +kernel
theorem dL_law_31 : decode cL_law 31 = .ok (.iand, 1) := by decide +kernel
theorem dL_law_32 : decode cL_law 32 = .ok (.tableswitch 1168 0 34 #[156, 179, 202, 245, 268, 281, 294, 317, 330, 363, 396, 409, 442, 475, 508, 551, 594, 637, 680, 703, 746, 779, 802, 835, 884, 897, 920, 943, 966, 979, 1002, 1056, 1099, 1122, 1145], 156) := by decide +kernel
theorem dL_law_188 : decode cL_law 188 = .ok (.aload_n 1, 1) := by decide +kernel
theorem dL_law_189 : decode cL_law 189 = .ok (.aload_n 0, 1) := by decide +kernel
theorem dL_law_190 : decode cL_law 190 = .ok (.iload_n 3, 1) := by decide +kernel
theorem dL_law_191 : decode cL_law 191 = .ok (.iconst 1, 1) := by decide +kernel
theorem dL_law_192 : decode cL_law 192 = .ok (.iadd, 1) := by decide +kernel
theorem dL_law_193 : decode cL_law 193 = .ok (.iaload, 1) := by decide +kernel
theorem dL_law_194 : decode cL_law 194 = .ok (.invokevirtual 13, 3) := by decide +kernel
theorem dL_law_197 : decode cL_law 197 = .ok (.aload_n 2, 1) := by decide +kernel
theorem dL_law_198 : decode cL_law 198 = .ok (.aload_n 0, 1) := by decide +kernel
theorem dL_law_199 : decode cL_law 199 = .ok (.iload_n 3, 1) := by decide +kernel
theorem dL_law_200 : decode cL_law 200 = .ok (.iconst 1, 1) := by decide +kernel
theorem dL_law_201 : decode cL_law 201 = .ok (.iadd, 1) := by decide +kernel
theorem dL_law_202 : decode cL_law 202 = .ok (.iaload, 1) := by decide +kernel
theorem dL_law_203 : decode cL_law 203 = .ok (.invokevirtual 17, 3) := by decide +kernel
theorem dL_law_206 : decode cL_law 206 = .ok (.if_icmp .eq 994, 3) := by decide +kernel
theorem dL_law_209 : decode cL_law 209 = .ok (.iconst 0, 1) := by decide +kernel
theorem dL_law_210 : decode cL_law 210 = .ok (.ireturn, 1) := by decide +kernel
theorem dL_law_211 : decode cL_law 211 = .ok (.aload_n 1, 1) := by decide +kernel
theorem dL_law_212 : decode cL_law 212 = .ok (.aload_n 0, 1) := by decide +kernel
theorem dL_law_213 : decode cL_law 213 = .ok (.iload_n 3, 1) := by decide +kernel
theorem dL_law_214 : decode cL_law 214 = .ok (.iconst 1, 1) := by decide +kernel
theorem dL_law_215 : decode cL_law 215 = .ok (.iadd, 1) := by decide +kernel
theorem dL_law_216 : decode cL_law 216 = .ok (.iaload, 1) := by decide +kernel
theorem dL_law_217 : decode cL_law 217 = .ok (.invokevirtual 18, 3) := by decide +kernel
theorem dL_law_220 : decode cL_law 220 = .ok (.aload_n 2, 1) := by decide +kernel
theorem dL_law_221 : decode cL_law 221 = .ok (.aload_n 0, 1) := by decide +kernel
theorem dL_law_222 : decode cL_law 222 = .ok (.iload_n 3, 1) := by decide +kernel
theorem dL_law_223 : decode cL_law 223 = .ok (.iconst 1, 1) := by decide +kernel
theorem dL_law_224 : decode cL_law 224 = .ok (.iadd, 1) := by decide +kernel
theorem dL_law_225 : decode cL_law 225 = .ok (.iaload, 1) := by decide +kernel
theorem dL_law_226 : decode cL_law 226 = .ok (.invokevirtual 21, 3) := by decide +kernel
theorem dL_law_229 : decode cL_law 229 = .ok (.if_icmp .eq 971, 3) := by decide +kernel
theorem dL_law_232 : decode cL_law 232 = .ok (.iconst 0, 1) := by decide +kernel
theorem dL_law_233 : decode cL_law 233 = .ok (.ireturn, 1) := by decide +kernel
theorem dL_law_234 : decode cL_law 234 = .ok (.aload_n 1, 1) := by decide +kernel
theorem dL_law_235 : decode cL_law 235 = .ok (.aload_n 0, 1) := by decide +kernel
theorem dL_law_236 : decode cL_law 236 = .ok (.iload_n 3, 1) := by decide +kernel
theorem dL_law_237 : decode cL_law 237 = .ok (.iconst 1, 1) := by decide +kernel
theorem dL_law_238 : decode cL_law 238 = .ok (.iadd, 1) := by decide +kernel
theorem dL_law_239 : decode cL_law 239 = .ok (.iaload, 1) := by decide +kernel
theorem dL_law_240 : decode cL_law 240 = .ok (.aload_n 0, 1) := by decide +kernel
theorem dL_law_241 : decode cL_law 241 = .ok (.iload_n 3, 1) := by decide +kernel
theorem dL_law_242 : decode cL_law 242 = .ok (.iconst 2, 1) := by decide +kernel
theorem dL_law_243 : decode cL_law 243 = .ok (.iadd, 1) := by decide +kernel
theorem dL_law_244 : decode cL_law 244 = .ok (.iaload, 1) := by decide +kernel
theorem dL_law_245 : decode cL_law 245 = .ok (.aload_n 0, 1) := by decide +kernel
theorem dL_law_246 : decode cL_law 246 = .ok (.iload_n 3, 1) := by decide +kernel
theorem dL_law_247 : decode cL_law 247 = .ok (.iconst 3, 1) := by decide +kernel
theorem dL_law_248 : decode cL_law 248 = .ok (.iadd, 1) := by decide +kernel
theorem dL_law_249 : decode cL_law 249 = .ok (.iaload, 1) := by decide +kernel
theorem dL_law_250 : decode cL_law 250 = .ok (.invokevirtual 22, 3) := by decide +kernel
theorem dL_law_253 : decode cL_law 253 = .ok (.aload_n 2, 1) := by decide +kernel
theorem dL_law_254 : decode cL_law 254 = .ok (.aload_n 0, 1) := by decide +kernel
theorem dL_law_255 : decode cL_law 255 = .ok (.iload_n 3, 1) := by decide +kernel
theorem dL_law_256 : decode cL_law 256 = .ok (.iconst 1, 1) := by decide +kernel
theorem dL_law_257 : decode cL_law 257 = .ok (.iadd, 1) := by decide +kernel
theorem dL_law_258 : decode cL_law 258 = .ok (.iaload, 1) := by decide +kernel
theorem dL_law_259 : decode cL_law 259 = .ok (.aload_n 0, 1) := by decide +kernel
theorem dL_law_260 : decode cL_law 260 = .ok (.iload_n 3, 1) := by decide +kernel
theorem dL_law_261 : decode cL_law 261 = .ok (.iconst 2, 1) := by decide +kernel
theorem dL_law_262 : decode cL_law 262 = .ok (.iadd, 1) := by decide +kernel
theorem dL_law_263 : decode cL_law 263 = .ok (.iaload, 1) := by decide +kernel
theorem dL_law_264 : decode cL_law 264 = .ok (.aload_n 0, 1) := by decide +kernel
theorem dL_law_265 : decode cL_law 265 = .ok (.iload_n 3, 1) := by decide +kernel
theorem dL_law_266 : decode cL_law 266 = .ok (.iconst 3, 1) := by decide +kernel
theorem dL_law_267 : decode cL_law 267 = .ok (.iadd, 1) := by decide +kernel
theorem dL_law_268 : decode cL_law 268 = .ok (.iaload, 1) := by decide +kernel
theorem dL_law_269 : decode cL_law 269 = .ok (.invokevirtual 26, 3) := by decide +kernel
theorem dL_law_272 : decode cL_law 272 = .ok (.if_icmp .eq 928, 3) := by decide +kernel
theorem dL_law_275 : decode cL_law 275 = .ok (.iconst 0, 1) := by decide +kernel
theorem dL_law_276 : decode cL_law 276 = .ok (.ireturn, 1) := by decide +kernel
theorem dL_law_277 : decode cL_law 277 = .ok (.aload_n 1, 1) := by decide +kernel
theorem dL_law_278 : decode cL_law 278 = .ok (.aload_n 0, 1) := by decide +kernel
theorem dL_law_279 : decode cL_law 279 = .ok (.iload_n 3, 1) := by decide +kernel
theorem dL_law_280 : decode cL_law 280 = .ok (.iconst 1, 1) := by decide +kernel
theorem dL_law_281 : decode cL_law 281 = .ok (.iadd, 1) := by decide +kernel
theorem dL_law_282 : decode cL_law 282 = .ok (.iaload, 1) := by decide +kernel
theorem dL_law_283 : decode cL_law 283 = .ok (.invokevirtual 27, 3) := by decide +kernel
theorem dL_law_286 : decode cL_law 286 = .ok (.aload_n 2, 1) := by decide +kernel
theorem dL_law_287 : decode cL_law 287 = .ok (.aload_n 0, 1) := by decide +kernel
theorem dL_law_288 : decode cL_law 288 = .ok (.iload_n 3, 1) := by decide +kernel
theorem dL_law_289 : decode cL_law 289 = .ok (.iconst 1, 1) := by decide +kernel
theorem dL_law_290 : decode cL_law 290 = .ok (.iadd, 1) := by decide +kernel
theorem dL_law_291 : decode cL_law 291 = .ok (.iaload, 1) := by decide +kernel
theorem dL_law_292 : decode cL_law 292 = .ok (.invokevirtual 30, 3) := by decide +kernel
theorem dL_law_295 : decode cL_law 295 = .ok (.if_icmp .eq 905, 3) := by decide +kernel
theorem dL_law_298 : decode cL_law 298 = .ok (.iconst 0, 1) := by decide +kernel
theorem dL_law_299 : decode cL_law 299 = .ok (.ireturn, 1) := by decide +kernel
theorem dL_law_300 : decode cL_law 300 = .ok (.aload_n 1, 1) := by decide +kernel
theorem dL_law_301 : decode cL_law 301 = .ok (.invokevirtual 31, 3) := by decide +kernel
theorem dL_law_304 : decode cL_law 304 = .ok (.aload_n 2, 1) := by decide +kernel
theorem dL_law_305 : decode cL_law 305 = .ok (.invokevirtual 35, 3) := by decide +kernel
theorem dL_law_308 : decode cL_law 308 = .ok (.if_icmp .eq 892, 3) := by decide +kernel
theorem dL_law_311 : decode cL_law 311 = .ok (.iconst 0, 1) := by decide +kernel
theorem dL_law_312 : decode cL_law 312 = .ok (.ireturn, 1) := by decide +kernel
theorem dL_law_313 : decode cL_law 313 = .ok (.aload_n 1, 1) := by decide +kernel
theorem dL_law_314 : decode cL_law 314 = .ok (.invokevirtual 36, 3) := by decide +kernel
theorem dL_law_317 : decode cL_law 317 = .ok (.aload_n 2, 1) := by decide +kernel
theorem dL_law_318 : decode cL_law 318 = .ok (.invokevirtual 39, 3) := by decide +kernel
theorem dL_law_321 : decode cL_law 321 = .ok (.if_icmp .eq 879, 3) := by decide +kernel
theorem dL_law_324 : decode cL_law 324 = .ok (.iconst 0, 1) := by decide +kernel
theorem dL_law_325 : decode cL_law 325 = .ok (.ireturn, 1) := by decide +kernel
theorem dL_law_326 : decode cL_law 326 = .ok (.aload_n 1, 1) := by decide +kernel
theorem dL_law_327 : decode cL_law 327 = .ok (.aload_n 0, 1) := by decide +kernel
theorem dL_law_328 : decode cL_law 328 = .ok (.iload_n 3, 1) := by decide +kernel
theorem dL_law_329 : decode cL_law 329 = .ok (.iconst 1, 1) := by decide +kernel
theorem dL_law_330 : decode cL_law 330 = .ok (.iadd, 1) := by decide +kernel
theorem dL_law_331 : decode cL_law 331 = .ok (.iaload, 1) := by decide +kernel
theorem dL_law_332 : decode cL_law 332 = .ok (.invokevirtual 40, 3) := by decide +kernel
theorem dL_law_335 : decode cL_law 335 = .ok (.aload_n 2, 1) := by decide +kernel
theorem dL_law_336 : decode cL_law 336 = .ok (.aload_n 0, 1) := by decide +kernel
theorem dL_law_337 : decode cL_law 337 = .ok (.iload_n 3, 1) := by decide +kernel
theorem dL_law_338 : decode cL_law 338 = .ok (.iconst 1, 1) := by decide +kernel
theorem dL_law_339 : decode cL_law 339 = .ok (.iadd, 1) := by decide +kernel
theorem dL_law_340 : decode cL_law 340 = .ok (.iaload, 1) := by decide +kernel
theorem dL_law_341 : decode cL_law 341 = .ok (.invokevirtual 43, 3) := by decide +kernel
theorem dL_law_344 : decode cL_law 344 = .ok (.if_icmp .eq 856, 3) := by decide +kernel
theorem dL_law_347 : decode cL_law 347 = .ok (.iconst 0, 1) := by decide +kernel
theorem dL_law_348 : decode cL_law 348 = .ok (.ireturn, 1) := by decide +kernel
theorem dL_law_349 : decode cL_law 349 = .ok (.aload_n 1, 1) := by decide +kernel
theorem dL_law_350 : decode cL_law 350 = .ok (.invokevirtual 44, 3) := by decide +kernel
theorem dL_law_353 : decode cL_law 353 = .ok (.aload_n 2, 1) := by decide +kernel
theorem dL_law_354 : decode cL_law 354 = .ok (.invokevirtual 47, 3) := by decide +kernel
theorem dL_law_357 : decode cL_law 357 = .ok (.if_icmp .eq 843, 3) := by decide +kernel
theorem dL_law_360 : decode cL_law 360 = .ok (.iconst 0, 1) := by decide +kernel
theorem dL_law_361 : decode cL_law 361 = .ok (.ireturn, 1) := by decide +kernel
theorem dL_law_362 : decode cL_law 362 = .ok (.aload_n 1, 1) := by decide +kernel
theorem dL_law_363 : decode cL_law 363 = .ok (.aload_n 0, 1) := by decide +kernel
theorem dL_law_364 : decode cL_law 364 = .ok (.iload_n 3, 1) := by decide +kernel
theorem dL_law_365 : decode cL_law 365 = .ok (.iconst 1, 1) := by decide +kernel
theorem dL_law_366 : decode cL_law 366 = .ok (.iadd, 1) := by decide +kernel
theorem dL_law_367 : decode cL_law 367 = .ok (.iaload, 1) := by decide +kernel
theorem dL_law_368 : decode cL_law 368 = .ok (.aload_n 0, 1) := by decide +kernel
theorem dL_law_369 : decode cL_law 369 = .ok (.iload_n 3, 1) := by decide +kernel
theorem dL_law_370 : decode cL_law 370 = .ok (.iconst 2, 1) := by decide +kernel
theorem dL_law_371 : decode cL_law 371 = .ok (.iadd, 1) := by decide +kernel
theorem dL_law_372 : decode cL_law 372 = .ok (.iaload, 1) := by decide +kernel
theorem dL_law_373 : decode cL_law 373 = .ok (.invokevirtual 48, 3) := by decide +kernel
theorem dL_law_376 : decode cL_law 376 = .ok (.aload_n 2, 1) := by decide +kernel
theorem dL_law_377 : decode cL_law 377 = .ok (.aload_n 0, 1) := by decide +kernel
theorem dL_law_378 : decode cL_law 378 = .ok (.iload_n 3, 1) := by decide +kernel
theorem dL_law_379 : decode cL_law 379 = .ok (.iconst 1, 1) := by decide +kernel
theorem dL_law_380 : decode cL_law 380 = .ok (.iadd, 1) := by decide +kernel
theorem dL_law_381 : decode cL_law 381 = .ok (.iaload, 1) := by decide +kernel
theorem dL_law_382 : decode cL_law 382 = .ok (.aload_n 0, 1) := by decide +kernel
theorem dL_law_383 : decode cL_law 383 = .ok (.iload_n 3, 1) := by decide +kernel
theorem dL_law_384 : decode cL_law 384 = .ok (.iconst 2, 1) := by decide +kernel
theorem dL_law_385 : decode cL_law 385 = .ok (.iadd, 1) := by decide +kernel
theorem dL_law_386 : decode cL_law 386 = .ok (.iaload, 1) := by decide +kernel
theorem dL_law_387 : decode cL_law 387 = .ok (.invokevirtual 52, 3) := by decide +kernel
theorem dL_law_390 : decode cL_law 390 = .ok (.if_icmp .eq 810, 3) := by decide +kernel
theorem dL_law_393 : decode cL_law 393 = .ok (.iconst 0, 1) := by decide +kernel
theorem dL_law_394 : decode cL_law 394 = .ok (.ireturn, 1) := by decide +kernel
theorem dL_law_395 : decode cL_law 395 = .ok (.aload_n 1, 1) := by decide +kernel
theorem dL_law_396 : decode cL_law 396 = .ok (.aload_n 0, 1) := by decide +kernel
theorem dL_law_397 : decode cL_law 397 = .ok (.iload_n 3, 1) := by decide +kernel
theorem dL_law_398 : decode cL_law 398 = .ok (.iconst 1, 1) := by decide +kernel
theorem dL_law_399 : decode cL_law 399 = .ok (.iadd, 1) := by decide +kernel
theorem dL_law_400 : decode cL_law 400 = .ok (.iaload, 1) := by decide +kernel
theorem dL_law_401 : decode cL_law 401 = .ok (.aload_n 0, 1) := by decide +kernel
theorem dL_law_402 : decode cL_law 402 = .ok (.iload_n 3, 1) := by decide +kernel
theorem dL_law_403 : decode cL_law 403 = .ok (.iconst 2, 1) := by decide +kernel
theorem dL_law_404 : decode cL_law 404 = .ok (.iadd, 1) := by decide +kernel
theorem dL_law_405 : decode cL_law 405 = .ok (.iaload, 1) := by decide +kernel
theorem dL_law_406 : decode cL_law 406 = .ok (.invokevirtual 53, 3) := by decide +kernel
theorem dL_law_409 : decode cL_law 409 = .ok (.aload_n 2, 1) := by decide +kernel
theorem dL_law_410 : decode cL_law 410 = .ok (.aload_n 0, 1) := by decide +kernel
theorem dL_law_411 : decode cL_law 411 = .ok (.iload_n 3, 1) := by decide +kernel
theorem dL_law_412 : decode cL_law 412 = .ok (.iconst 1, 1) := by decide +kernel
theorem dL_law_413 : decode cL_law 413 = .ok (.iadd, 1) := by decide +kernel
theorem dL_law_414 : decode cL_law 414 = .ok (.iaload, 1) := by decide +kernel
theorem dL_law_415 : decode cL_law 415 = .ok (.aload_n 0, 1) := by decide +kernel
theorem dL_law_416 : decode cL_law 416 = .ok (.iload_n 3, 1) := by decide +kernel
theorem dL_law_417 : decode cL_law 417 = .ok (.iconst 2, 1) := by decide +kernel
theorem dL_law_418 : decode cL_law 418 = .ok (.iadd, 1) := by decide +kernel
theorem dL_law_419 : decode cL_law 419 = .ok (.iaload, 1) := by decide +kernel
theorem dL_law_420 : decode cL_law 420 = .ok (.invokevirtual 56, 3) := by decide +kernel
theorem dL_law_423 : decode cL_law 423 = .ok (.if_icmp .eq 777, 3) := by decide +kernel
theorem dL_law_426 : decode cL_law 426 = .ok (.iconst 0, 1) := by decide +kernel
theorem dL_law_427 : decode cL_law 427 = .ok (.ireturn, 1) := by decide +kernel
theorem dL_law_428 : decode cL_law 428 = .ok (.aload_n 1, 1) := by decide +kernel
theorem dL_law_429 : decode cL_law 429 = .ok (.invokevirtual 57, 3) := by decide +kernel
theorem dL_law_432 : decode cL_law 432 = .ok (.aload_n 2, 1) := by decide +kernel
theorem dL_law_433 : decode cL_law 433 = .ok (.invokevirtual 60, 3) := by decide +kernel
theorem dL_law_436 : decode cL_law 436 = .ok (.if_icmp .eq 764, 3) := by decide +kernel
theorem dL_law_439 : decode cL_law 439 = .ok (.iconst 0, 1) := by decide +kernel
theorem dL_law_440 : decode cL_law 440 = .ok (.ireturn, 1) := by decide +kernel
theorem dL_law_441 : decode cL_law 441 = .ok (.aload_n 1, 1) := by decide +kernel
theorem dL_law_442 : decode cL_law 442 = .ok (.aload_n 0, 1) := by decide +kernel
theorem dL_law_443 : decode cL_law 443 = .ok (.iload_n 3, 1) := by decide +kernel
theorem dL_law_444 : decode cL_law 444 = .ok (.iconst 1, 1) := by decide +kernel
theorem dL_law_445 : decode cL_law 445 = .ok (.iadd, 1) := by decide +kernel
theorem dL_law_446 : decode cL_law 446 = .ok (.iaload, 1) := by decide +kernel
theorem dL_law_447 : decode cL_law 447 = .ok (.aload_n 0, 1) := by decide +kernel
theorem dL_law_448 : decode cL_law 448 = .ok (.iload_n 3, 1) := by decide +kernel
theorem dL_law_449 : decode cL_law 449 = .ok (.iconst 2, 1) := by decide +kernel
theorem dL_law_450 : decode cL_law 450 = .ok (.iadd, 1) := by decide +kernel
theorem dL_law_451 : decode cL_law 451 = .ok (.iaload, 1) := by decide +kernel
theorem dL_law_452 : decode cL_law 452 = .ok (.invokevirtual 61, 3) := by decide +kernel
theorem dL_law_455 : decode cL_law 455 = .ok (.aload_n 2, 1) := by decide +kernel
theorem dL_law_456 : decode cL_law 456 = .ok (.aload_n 0, 1) := by decide +kernel
theorem dL_law_457 : decode cL_law 457 = .ok (.iload_n 3, 1) := by decide +kernel
theorem dL_law_458 : decode cL_law 458 = .ok (.iconst 1, 1) := by decide +kernel
theorem dL_law_459 : decode cL_law 459 = .ok (.iadd, 1) := by decide +kernel
theorem dL_law_460 : decode cL_law 460 = .ok (.iaload, 1) := by decide +kernel
theorem dL_law_461 : decode cL_law 461 = .ok (.aload_n 0, 1) := by decide +kernel
theorem dL_law_462 : decode cL_law 462 = .ok (.iload_n 3, 1) := by decide +kernel
theorem dL_law_463 : decode cL_law 463 = .ok (.iconst 2, 1) := by decide +kernel
theorem dL_law_464 : decode cL_law 464 = .ok (.iadd, 1) := by decide +kernel
theorem dL_law_465 : decode cL_law 465 = .ok (.iaload, 1) := by decide +kernel
theorem dL_law_466 : decode cL_law 466 = .ok (.invokevirtual 64, 3) := by decide +kernel
theorem dL_law_469 : decode cL_law 469 = .ok (.if_icmp .eq 731, 3) := by decide +kernel
theorem dL_law_472 : decode cL_law 472 = .ok (.iconst 0, 1) := by decide +kernel
theorem dL_law_473 : decode cL_law 473 = .ok (.ireturn, 1) := by decide +kernel
theorem dL_law_474 : decode cL_law 474 = .ok (.aload_n 1, 1) := by decide +kernel
theorem dL_law_475 : decode cL_law 475 = .ok (.aload_n 0, 1) := by decide +kernel
theorem dL_law_476 : decode cL_law 476 = .ok (.iload_n 3, 1) := by decide +kernel
theorem dL_law_477 : decode cL_law 477 = .ok (.iconst 1, 1) := by decide +kernel
theorem dL_law_478 : decode cL_law 478 = .ok (.iadd, 1) := by decide +kernel
theorem dL_law_479 : decode cL_law 479 = .ok (.iaload, 1) := by decide +kernel
theorem dL_law_480 : decode cL_law 480 = .ok (.aload_n 0, 1) := by decide +kernel
theorem dL_law_481 : decode cL_law 481 = .ok (.iload_n 3, 1) := by decide +kernel
theorem dL_law_482 : decode cL_law 482 = .ok (.iconst 2, 1) := by decide +kernel
theorem dL_law_483 : decode cL_law 483 = .ok (.iadd, 1) := by decide +kernel
theorem dL_law_484 : decode cL_law 484 = .ok (.iaload, 1) := by decide +kernel
theorem dL_law_485 : decode cL_law 485 = .ok (.invokevirtual 65, 3) := by decide +kernel
theorem dL_law_488 : decode cL_law 488 = .ok (.aload_n 2, 1) := by decide +kernel
theorem dL_law_489 : decode cL_law 489 = .ok (.aload_n 0, 1) := by decide +kernel
theorem dL_law_490 : decode cL_law 490 = .ok (.iload_n 3, 1) := by decide +kernel
theorem dL_law_491 : decode cL_law 491 = .ok (.iconst 1, 1) := by decide +kernel
theorem dL_law_492 : decode cL_law 492 = .ok (.iadd, 1) := by decide +kernel
theorem dL_law_493 : decode cL_law 493 = .ok (.iaload, 1) := by decide +kernel
theorem dL_law_494 : decode cL_law 494 = .ok (.aload_n 0, 1) := by decide +kernel
theorem dL_law_495 : decode cL_law 495 = .ok (.iload_n 3, 1) := by decide +kernel
theorem dL_law_496 : decode cL_law 496 = .ok (.iconst 2, 1) := by decide +kernel
theorem dL_law_497 : decode cL_law 497 = .ok (.iadd, 1) := by decide +kernel
theorem dL_law_498 : decode cL_law 498 = .ok (.iaload, 1) := by decide +kernel
theorem dL_law_499 : decode cL_law 499 = .ok (.invokevirtual 68, 3) := by decide +kernel
theorem dL_law_502 : decode cL_law 502 = .ok (.if_icmp .eq 698, 3) := by decide +kernel
theorem dL_law_505 : decode cL_law 505 = .ok (.iconst 0, 1) := by decide +kernel
theorem dL_law_506 : decode cL_law 506 = .ok (.ireturn, 1) := by decide +kernel
theorem dL_law_507 : decode cL_law 507 = .ok (.aload_n 1, 1) := by decide +kernel
theorem dL_law_508 : decode cL_law 508 = .ok (.aload_n 0, 1) := by decide +kernel
theorem dL_law_509 : decode cL_law 509 = .ok (.iload_n 3, 1) := by decide +kernel
theorem dL_law_510 : decode cL_law 510 = .ok (.iconst 1, 1) := by decide +kernel
theorem dL_law_511 : decode cL_law 511 = .ok (.iadd, 1) := by decide +kernel
theorem dL_law_512 : decode cL_law 512 = .ok (.iaload, 1) := by decide +kernel
theorem dL_law_513 : decode cL_law 513 = .ok (.aload_n 0, 1) := by decide +kernel
theorem dL_law_514 : decode cL_law 514 = .ok (.iload_n 3, 1) := by decide +kernel
theorem dL_law_515 : decode cL_law 515 = .ok (.iconst 2, 1) := by decide +kernel
theorem dL_law_516 : decode cL_law 516 = .ok (.iadd, 1) := by decide +kernel
theorem dL_law_517 : decode cL_law 517 = .ok (.iaload, 1) := by decide +kernel
theorem dL_law_518 : decode cL_law 518 = .ok (.invokevirtual 69, 3) := by decide +kernel
theorem dL_law_521 : decode cL_law 521 = .ok (.aload_n 2, 1) := by decide +kernel
theorem dL_law_522 : decode cL_law 522 = .ok (.aload_n 0, 1) := by decide +kernel
theorem dL_law_523 : decode cL_law 523 = .ok (.iload_n 3, 1) := by decide +kernel
theorem dL_law_524 : decode cL_law 524 = .ok (.iconst 1, 1) := by decide +kernel
theorem dL_law_525 : decode cL_law 525 = .ok (.iadd, 1) := by decide +kernel
theorem dL_law_526 : decode cL_law 526 = .ok (.iaload, 1) := by decide +kernel
theorem dL_law_527 : decode cL_law 527 = .ok (.aload_n 0, 1) := by decide +kernel
theorem dL_law_528 : decode cL_law 528 = .ok (.iload_n 3, 1) := by decide +kernel
theorem dL_law_529 : decode cL_law 529 = .ok (.iconst 2, 1) := by decide +kernel
theorem dL_law_530 : decode cL_law 530 = .ok (.iadd, 1) := by decide +kernel
theorem dL_law_531 : decode cL_law 531 = .ok (.iaload, 1) := by decide +kernel
theorem dL_law_532 : decode cL_law 532 = .ok (.invokevirtual 72, 3) := by decide +kernel
theorem dL_law_535 : decode cL_law 535 = .ok (.if_icmp .eq 665, 3) := by decide +kernel
theorem dL_law_538 : decode cL_law 538 = .ok (.iconst 0, 1) := by decide +kernel
theorem dL_law_539 : decode cL_law 539 = .ok (.ireturn, 1) := by decide +kernel
theorem dL_law_540 : decode cL_law 540 = .ok (.aload_n 1, 1) := by decide +kernel
theorem dL_law_541 : decode cL_law 541 = .ok (.aload_n 0, 1) := by decide +kernel
theorem dL_law_542 : decode cL_law 542 = .ok (.iload_n 3, 1) := by decide +kernel
theorem dL_law_543 : decode cL_law 543 = .ok (.iconst 1, 1) := by decide +kernel
theorem dL_law_544 : decode cL_law 544 = .ok (.iadd, 1) := by decide +kernel
theorem dL_law_545 : decode cL_law 545 = .ok (.iaload, 1) := by decide +kernel
theorem dL_law_546 : decode cL_law 546 = .ok (.aload_n 0, 1) := by decide +kernel
theorem dL_law_547 : decode cL_law 547 = .ok (.iload_n 3, 1) := by decide +kernel
theorem dL_law_548 : decode cL_law 548 = .ok (.iconst 2, 1) := by decide +kernel
theorem dL_law_549 : decode cL_law 549 = .ok (.iadd, 1) := by decide +kernel
theorem dL_law_550 : decode cL_law 550 = .ok (.iaload, 1) := by decide +kernel
theorem dL_law_551 : decode cL_law 551 = .ok (.aload_n 0, 1) := by decide +kernel
theorem dL_law_552 : decode cL_law 552 = .ok (.iload_n 3, 1) := by decide +kernel
theorem dL_law_553 : decode cL_law 553 = .ok (.iconst 3, 1) := by decide +kernel
theorem dL_law_554 : decode cL_law 554 = .ok (.iadd, 1) := by decide +kernel
theorem dL_law_555 : decode cL_law 555 = .ok (.iaload, 1) := by decide +kernel
theorem dL_law_556 : decode cL_law 556 = .ok (.invokevirtual 73, 3) := by decide +kernel
theorem dL_law_559 : decode cL_law 559 = .ok (.aload_n 2, 1) := by decide +kernel
theorem dL_law_560 : decode cL_law 560 = .ok (.aload_n 0, 1) := by decide +kernel
theorem dL_law_561 : decode cL_law 561 = .ok (.iload_n 3, 1) := by decide +kernel
theorem dL_law_562 : decode cL_law 562 = .ok (.iconst 1, 1) := by decide +kernel
theorem dL_law_563 : decode cL_law 563 = .ok (.iadd, 1) := by decide +kernel
theorem dL_law_564 : decode cL_law 564 = .ok (.iaload, 1) := by decide +kernel
theorem dL_law_565 : decode cL_law 565 = .ok (.aload_n 0, 1) := by decide +kernel
theorem dL_law_566 : decode cL_law 566 = .ok (.iload_n 3, 1) := by decide +kernel
theorem dL_law_567 : decode cL_law 567 = .ok (.iconst 2, 1) := by decide +kernel
theorem dL_law_568 : decode cL_law 568 = .ok (.iadd, 1) := by decide +kernel
theorem dL_law_569 : decode cL_law 569 = .ok (.iaload, 1) := by decide +kernel
theorem dL_law_570 : decode cL_law 570 = .ok (.aload_n 0, 1) := by decide +kernel
theorem dL_law_571 : decode cL_law 571 = .ok (.iload_n 3, 1) := by decide +kernel
theorem dL_law_572 : decode cL_law 572 = .ok (.iconst 3, 1) := by decide +kernel
theorem dL_law_573 : decode cL_law 573 = .ok (.iadd, 1) := by decide +kernel
theorem dL_law_574 : decode cL_law 574 = .ok (.iaload, 1) := by decide +kernel
theorem dL_law_575 : decode cL_law 575 = .ok (.invokevirtual 76, 3) := by decide +kernel
theorem dL_law_578 : decode cL_law 578 = .ok (.if_icmp .eq 622, 3) := by decide +kernel
theorem dL_law_581 : decode cL_law 581 = .ok (.iconst 0, 1) := by decide +kernel
theorem dL_law_582 : decode cL_law 582 = .ok (.ireturn, 1) := by decide +kernel
theorem dL_law_583 : decode cL_law 583 = .ok (.aload_n 1, 1) := by decide +kernel
theorem dL_law_584 : decode cL_law 584 = .ok (.aload_n 0, 1) := by decide +kernel
theorem dL_law_585 : decode cL_law 585 = .ok (.iload_n 3, 1) := by decide +kernel
theorem dL_law_586 : decode cL_law 586 = .ok (.iconst 1, 1) := by decide +kernel
theorem dL_law_587 : decode cL_law 587 = .ok (.iadd, 1) := by decide +kernel
theorem dL_law_588 : decode cL_law 588 = .ok (.iaload, 1) := by decide +kernel
theorem dL_law_589 : decode cL_law 589 = .ok (.aload_n 0, 1) := by decide +kernel
theorem dL_law_590 : decode cL_law 590 = .ok (.iload_n 3, 1) := by decide +kernel
theorem dL_law_591 : decode cL_law 591 = .ok (.iconst 2, 1) := by decide +kernel
theorem dL_law_592 : decode cL_law 592 = .ok (.iadd, 1) := by decide +kernel
theorem dL_law_593 : decode cL_law 593 = .ok (.iaload, 1) := by decide +kernel
theorem dL_law_594 : decode cL_law 594 = .ok (.aload_n 0, 1) := by decide +kernel
theorem dL_law_595 : decode cL_law 595 = .ok (.iload_n 3, 1) := by decide +kernel
theorem dL_law_596 : decode cL_law 596 = .ok (.iconst 3, 1) := by decide +kernel
theorem dL_law_597 : decode cL_law 597 = .ok (.iadd, 1) := by decide +kernel
theorem dL_law_598 : decode cL_law 598 = .ok (.iaload, 1) := by decide +kernel
theorem dL_law_599 : decode cL_law 599 = .ok (.invokevirtual 77, 3) := by decide +kernel
theorem dL_law_602 : decode cL_law 602 = .ok (.aload_n 2, 1) := by decide +kernel
theorem dL_law_603 : decode cL_law 603 = .ok (.aload_n 0, 1) := by decide +kernel
theorem dL_law_604 : decode cL_law 604 = .ok (.iload_n 3, 1) := by decide +kernel
theorem dL_law_605 : decode cL_law 605 = .ok (.iconst 1, 1) := by decide +kernel
theorem dL_law_606 : decode cL_law 606 = .ok (.iadd, 1) := by decide +kernel
theorem dL_law_607 : decode cL_law 607 = .ok (.iaload, 1) := by decide +kernel
theorem dL_law_608 : decode cL_law 608 = .ok (.aload_n 0, 1) := by decide +kernel
theorem dL_law_609 : decode cL_law 609 = .ok (.iload_n 3, 1) := by decide +kernel
theorem dL_law_610 : decode cL_law 610 = .ok (.iconst 2, 1) := by decide +kernel
theorem dL_law_611 : decode cL_law 611 = .ok (.iadd, 1) := by decide +kernel
theorem dL_law_612 : decode cL_law 612 = .ok (.iaload, 1) := by decide +kernel
theorem dL_law_613 : decode cL_law 613 = .ok (.aload_n 0, 1) := by decide +kernel
theorem dL_law_614 : decode cL_law 614 = .ok (.iload_n 3, 1) := by decide +kernel
theorem dL_law_615 : decode cL_law 615 = .ok (.iconst 3, 1) := by decide +kernel
theorem dL_law_616 : decode cL_law 616 = .ok (.iadd, 1) := by decide +kernel
theorem dL_law_617 : decode cL_law 617 = .ok (.iaload, 1) := by decide +kernel
theorem dL_law_618 : decode cL_law 618 = .ok (.invokevirtual 80, 3) := by decide +kernel
theorem dL_law_621 : decode cL_law 621 = .ok (.if_icmp .eq 579, 3) := by decide +kernel
theorem dL_law_624 : decode cL_law 624 = .ok (.iconst 0, 1) := by decide +kernel
theorem dL_law_625 : decode cL_law 625 = .ok (.ireturn, 1) := by decide +kernel
theorem dL_law_626 : decode cL_law 626 = .ok (.aload_n 1, 1) := by decide +kernel
theorem dL_law_627 : decode cL_law 627 = .ok (.aload_n 0, 1) := by decide +kernel
theorem dL_law_628 : decode cL_law 628 = .ok (.iload_n 3, 1) := by decide +kernel
theorem dL_law_629 : decode cL_law 629 = .ok (.iconst 1, 1) := by decide +kernel
theorem dL_law_630 : decode cL_law 630 = .ok (.iadd, 1) := by decide +kernel
theorem dL_law_631 : decode cL_law 631 = .ok (.iaload, 1) := by decide +kernel
theorem dL_law_632 : decode cL_law 632 = .ok (.aload_n 0, 1) := by decide +kernel
theorem dL_law_633 : decode cL_law 633 = .ok (.iload_n 3, 1) := by decide +kernel
theorem dL_law_634 : decode cL_law 634 = .ok (.iconst 2, 1) := by decide +kernel
theorem dL_law_635 : decode cL_law 635 = .ok (.iadd, 1) := by decide +kernel
theorem dL_law_636 : decode cL_law 636 = .ok (.iaload, 1) := by decide +kernel
theorem dL_law_637 : decode cL_law 637 = .ok (.aload_n 0, 1) := by decide +kernel
theorem dL_law_638 : decode cL_law 638 = .ok (.iload_n 3, 1) := by decide +kernel
theorem dL_law_639 : decode cL_law 639 = .ok (.iconst 3, 1) := by decide +kernel
theorem dL_law_640 : decode cL_law 640 = .ok (.iadd, 1) := by decide +kernel
theorem dL_law_641 : decode cL_law 641 = .ok (.iaload, 1) := by decide +kernel
theorem dL_law_642 : decode cL_law 642 = .ok (.invokevirtual 81, 3) := by decide +kernel
theorem dL_law_645 : decode cL_law 645 = .ok (.aload_n 2, 1) := by decide +kernel
theorem dL_law_646 : decode cL_law 646 = .ok (.aload_n 0, 1) := by decide +kernel
theorem dL_law_647 : decode cL_law 647 = .ok (.iload_n 3, 1) := by decide +kernel
theorem dL_law_648 : decode cL_law 648 = .ok (.iconst 1, 1) := by decide +kernel
theorem dL_law_649 : decode cL_law 649 = .ok (.iadd, 1) := by decide +kernel
theorem dL_law_650 : decode cL_law 650 = .ok (.iaload, 1) := by decide +kernel
theorem dL_law_651 : decode cL_law 651 = .ok (.aload_n 0, 1) := by decide +kernel
theorem dL_law_652 : decode cL_law 652 = .ok (.iload_n 3, 1) := by decide +kernel
theorem dL_law_653 : decode cL_law 653 = .ok (.iconst 2, 1) := by decide +kernel
theorem dL_law_654 : decode cL_law 654 = .ok (.iadd, 1) := by decide +kernel
theorem dL_law_655 : decode cL_law 655 = .ok (.iaload, 1) := by decide +kernel
theorem dL_law_656 : decode cL_law 656 = .ok (.aload_n 0, 1) := by decide +kernel
theorem dL_law_657 : decode cL_law 657 = .ok (.iload_n 3, 1) := by decide +kernel
theorem dL_law_658 : decode cL_law 658 = .ok (.iconst 3, 1) := by decide +kernel
theorem dL_law_659 : decode cL_law 659 = .ok (.iadd, 1) := by decide +kernel
theorem dL_law_660 : decode cL_law 660 = .ok (.iaload, 1) := by decide +kernel
theorem dL_law_661 : decode cL_law 661 = .ok (.invokevirtual 84, 3) := by decide +kernel
theorem dL_law_664 : decode cL_law 664 = .ok (.if_icmp .eq 536, 3) := by decide +kernel
theorem dL_law_667 : decode cL_law 667 = .ok (.iconst 0, 1) := by decide +kernel
theorem dL_law_668 : decode cL_law 668 = .ok (.ireturn, 1) := by decide +kernel
theorem dL_law_669 : decode cL_law 669 = .ok (.aload_n 1, 1) := by decide +kernel
theorem dL_law_670 : decode cL_law 670 = .ok (.aload_n 0, 1) := by decide +kernel
theorem dL_law_671 : decode cL_law 671 = .ok (.iload_n 3, 1) := by decide +kernel
theorem dL_law_672 : decode cL_law 672 = .ok (.iconst 1, 1) := by decide +kernel
theorem dL_law_673 : decode cL_law 673 = .ok (.iadd, 1) := by decide +kernel
theorem dL_law_674 : decode cL_law 674 = .ok (.iaload, 1) := by decide +kernel
theorem dL_law_675 : decode cL_law 675 = .ok (.aload_n 0, 1) := by decide +kernel
theorem dL_law_676 : decode cL_law 676 = .ok (.iload_n 3, 1) := by decide +kernel
theorem dL_law_677 : decode cL_law 677 = .ok (.iconst 2, 1) := by decide +kernel
theorem dL_law_678 : decode cL_law 678 = .ok (.iadd, 1) := by decide +kernel
theorem dL_law_679 : decode cL_law 679 = .ok (.iaload, 1) := by decide +kernel
theorem dL_law_680 : decode cL_law 680 = .ok (.aload_n 0, 1) := by decide +kernel
theorem dL_law_681 : decode cL_law 681 = .ok (.iload_n 3, 1) := by decide +kernel
theorem dL_law_682 : decode cL_law 682 = .ok (.iconst 3, 1) := by decide +kernel
theorem dL_law_683 : decode cL_law 683 = .ok (.iadd, 1) := by decide +kernel
theorem dL_law_684 : decode cL_law 684 = .ok (.iaload, 1) := by decide +kernel
theorem dL_law_685 : decode cL_law 685 = .ok (.invokevirtual 85, 3) := by decide +kernel
theorem dL_law_688 : decode cL_law 688 = .ok (.aload_n 2, 1) := by decide +kernel
theorem dL_law_689 : decode cL_law 689 = .ok (.aload_n 0, 1) := by decide +kernel
theorem dL_law_690 : decode cL_law 690 = .ok (.iload_n 3, 1) := by decide +kernel
theorem dL_law_691 : decode cL_law 691 = .ok (.iconst 1, 1) := by decide +kernel
theorem dL_law_692 : decode cL_law 692 = .ok (.iadd, 1) := by decide +kernel
theorem dL_law_693 : decode cL_law 693 = .ok (.iaload, 1) := by decide +kernel
theorem dL_law_694 : decode cL_law 694 = .ok (.aload_n 0, 1) := by decide +kernel
theorem dL_law_695 : decode cL_law 695 = .ok (.iload_n 3, 1) := by decide +kernel
theorem dL_law_696 : decode cL_law 696 = .ok (.iconst 2, 1) := by decide +kernel
theorem dL_law_697 : decode cL_law 697 = .ok (.iadd, 1) := by decide +kernel
theorem dL_law_698 : decode cL_law 698 = .ok (.iaload, 1) := by decide +kernel
theorem dL_law_699 : decode cL_law 699 = .ok (.aload_n 0, 1) := by decide +kernel
theorem dL_law_700 : decode cL_law 700 = .ok (.iload_n 3, 1) := by decide +kernel
theorem dL_law_701 : decode cL_law 701 = .ok (.iconst 3, 1) := by decide +kernel
theorem dL_law_702 : decode cL_law 702 = .ok (.iadd, 1) := by decide +kernel
theorem dL_law_703 : decode cL_law 703 = .ok (.iaload, 1) := by decide +kernel
theorem dL_law_704 : decode cL_law 704 = .ok (.invokevirtual 88, 3) := by decide +kernel
theorem dL_law_707 : decode cL_law 707 = .ok (.if_icmp .eq 493, 3) := by decide +kernel
theorem dL_law_710 : decode cL_law 710 = .ok (.iconst 0, 1) := by decide +kernel
theorem dL_law_711 : decode cL_law 711 = .ok (.ireturn, 1) := by decide +kernel
theorem dL_law_712 : decode cL_law 712 = .ok (.aload_n 1, 1) := by decide +kernel
theorem dL_law_713 : decode cL_law 713 = .ok (.aload_n 0, 1) := by decide +kernel
theorem dL_law_714 : decode cL_law 714 = .ok (.iload_n 3, 1) := by decide +kernel
theorem dL_law_715 : decode cL_law 715 = .ok (.iconst 1, 1) := by decide +kernel
theorem dL_law_716 : decode cL_law 716 = .ok (.iadd, 1) := by decide +kernel
theorem dL_law_717 : decode cL_law 717 = .ok (.iaload, 1) := by decide +kernel
theorem dL_law_718 : decode cL_law 718 = .ok (.invokevirtual 89, 3) := by decide +kernel
theorem dL_law_721 : decode cL_law 721 = .ok (.aload_n 2, 1) := by decide +kernel
theorem dL_law_722 : decode cL_law 722 = .ok (.aload_n 0, 1) := by decide +kernel
theorem dL_law_723 : decode cL_law 723 = .ok (.iload_n 3, 1) := by decide +kernel
theorem dL_law_724 : decode cL_law 724 = .ok (.iconst 1, 1) := by decide +kernel
theorem dL_law_725 : decode cL_law 725 = .ok (.iadd, 1) := by decide +kernel
theorem dL_law_726 : decode cL_law 726 = .ok (.iaload, 1) := by decide +kernel
theorem dL_law_727 : decode cL_law 727 = .ok (.invokevirtual 92, 3) := by decide +kernel
theorem dL_law_730 : decode cL_law 730 = .ok (.if_icmp .eq 470, 3) := by decide +kernel
theorem dL_law_733 : decode cL_law 733 = .ok (.iconst 0, 1) := by decide +kernel
theorem dL_law_734 : decode cL_law 734 = .ok (.ireturn, 1) := by decide +kernel
theorem dL_law_735 : decode cL_law 735 = .ok (.aload_n 1, 1) := by decide +kernel
theorem dL_law_736 : decode cL_law 736 = .ok (.aload_n 0, 1) := by decide +kernel
theorem dL_law_737 : decode cL_law 737 = .ok (.iload_n 3, 1) := by decide +kernel
theorem dL_law_738 : decode cL_law 738 = .ok (.iconst 1, 1) := by decide +kernel
theorem dL_law_739 : decode cL_law 739 = .ok (.iadd, 1) := by decide +kernel
theorem dL_law_740 : decode cL_law 740 = .ok (.iaload, 1) := by decide +kernel
theorem dL_law_741 : decode cL_law 741 = .ok (.aload_n 0, 1) := by decide +kernel
theorem dL_law_742 : decode cL_law 742 = .ok (.iload_n 3, 1) := by decide +kernel
theorem dL_law_743 : decode cL_law 743 = .ok (.iconst 2, 1) := by decide +kernel
theorem dL_law_744 : decode cL_law 744 = .ok (.iadd, 1) := by decide +kernel
theorem dL_law_745 : decode cL_law 745 = .ok (.iaload, 1) := by decide +kernel
theorem dL_law_746 : decode cL_law 746 = .ok (.aload_n 0, 1) := by decide +kernel
theorem dL_law_747 : decode cL_law 747 = .ok (.iload_n 3, 1) := by decide +kernel
theorem dL_law_748 : decode cL_law 748 = .ok (.iconst 3, 1) := by decide +kernel
theorem dL_law_749 : decode cL_law 749 = .ok (.iadd, 1) := by decide +kernel
theorem dL_law_750 : decode cL_law 750 = .ok (.iaload, 1) := by decide +kernel
theorem dL_law_751 : decode cL_law 751 = .ok (.invokevirtual 93, 3) := by decide +kernel
theorem dL_law_754 : decode cL_law 754 = .ok (.aload_n 2, 1) := by decide +kernel
theorem dL_law_755 : decode cL_law 755 = .ok (.aload_n 0, 1) := by decide +kernel
theorem dL_law_756 : decode cL_law 756 = .ok (.iload_n 3, 1) := by decide +kernel
theorem dL_law_757 : decode cL_law 757 = .ok (.iconst 1, 1) := by decide +kernel
theorem dL_law_758 : decode cL_law 758 = .ok (.iadd, 1) := by decide +kernel
theorem dL_law_759 : decode cL_law 759 = .ok (.iaload, 1) := by decide +kernel
theorem dL_law_760 : decode cL_law 760 = .ok (.aload_n 0, 1) := by decide +kernel
theorem dL_law_761 : decode cL_law 761 = .ok (.iload_n 3, 1) := by decide +kernel
theorem dL_law_762 : decode cL_law 762 = .ok (.iconst 2, 1) := by decide +kernel
theorem dL_law_763 : decode cL_law 763 = .ok (.iadd, 1) := by decide +kernel
theorem dL_law_764 : decode cL_law 764 = .ok (.iaload, 1) := by decide +kernel
theorem dL_law_765 : decode cL_law 765 = .ok (.aload_n 0, 1) := by decide +kernel
theorem dL_law_766 : decode cL_law 766 = .ok (.iload_n 3, 1) := by decide +kernel
theorem dL_law_767 : decode cL_law 767 = .ok (.iconst 3, 1) := by decide +kernel
theorem dL_law_768 : decode cL_law 768 = .ok (.iadd, 1) := by decide +kernel
theorem dL_law_769 : decode cL_law 769 = .ok (.iaload, 1) := by decide +kernel
theorem dL_law_770 : decode cL_law 770 = .ok (.invokevirtual 96, 3) := by decide +kernel
theorem dL_law_773 : decode cL_law 773 = .ok (.if_icmp .eq 427, 3) := by decide +kernel
theorem dL_law_776 : decode cL_law 776 = .ok (.iconst 0, 1) := by decide +kernel
theorem dL_law_777 : decode cL_law 777 = .ok (.ireturn, 1) := by decide +kernel
theorem dL_law_778 : decode cL_law 778 = .ok (.aload_n 1, 1) := by decide +kernel
theorem dL_law_779 : decode cL_law 779 = .ok (.aload_n 0, 1) := by decide +kernel
theorem dL_law_780 : decode cL_law 780 = .ok (.iload_n 3, 1) := by decide +kernel
theorem dL_law_781 : decode cL_law 781 = .ok (.iconst 1, 1) := by decide +kernel
theorem dL_law_782 : decode cL_law 782 = .ok (.iadd, 1) := by decide +kernel
theorem dL_law_783 : decode cL_law 783 = .ok (.iaload, 1) := by decide +kernel
theorem dL_law_784 : decode cL_law 784 = .ok (.aload_n 0, 1) := by decide +kernel
theorem dL_law_785 : decode cL_law 785 = .ok (.iload_n 3, 1) := by decide +kernel
theorem dL_law_786 : decode cL_law 786 = .ok (.iconst 2, 1) := by decide +kernel
theorem dL_law_787 : decode cL_law 787 = .ok (.iadd, 1) := by decide +kernel
theorem dL_law_788 : decode cL_law 788 = .ok (.iaload, 1) := by decide +kernel
theorem dL_law_789 : decode cL_law 789 = .ok (.invokevirtual 97, 3) := by decide +kernel
theorem dL_law_792 : decode cL_law 792 = .ok (.aload_n 2, 1) := by decide +kernel
theorem dL_law_793 : decode cL_law 793 = .ok (.aload_n 0, 1) := by decide +kernel
theorem dL_law_794 : decode cL_law 794 = .ok (.iload_n 3, 1) := by decide +kernel
theorem dL_law_795 : decode cL_law 795 = .ok (.iconst 1, 1) := by decide +kernel
theorem dL_law_796 : decode cL_law 796 = .ok (.iadd, 1) := by decide +kernel
theorem dL_law_797 : decode cL_law 797 = .ok (.iaload, 1) := by decide +kernel
theorem dL_law_798 : decode cL_law 798 = .ok (.aload_n 0, 1) := by decide +kernel
theorem dL_law_799 : decode cL_law 799 = .ok (.iload_n 3, 1) := by decide +kernel
theorem dL_law_800 : decode cL_law 800 = .ok (.iconst 2, 1) := by decide +kernel
theorem dL_law_801 : decode cL_law 801 = .ok (.iadd, 1) := by decide +kernel
theorem dL_law_802 : decode cL_law 802 = .ok (.iaload, 1) := by decide +kernel
theorem dL_law_803 : decode cL_law 803 = .ok (.invokevirtual 100, 3) := by decide +kernel
theorem dL_law_806 : decode cL_law 806 = .ok (.if_icmp .eq 394, 3) := by decide +kernel
theorem dL_law_809 : decode cL_law 809 = .ok (.iconst 0, 1) := by decide +kernel
theorem dL_law_810 : decode cL_law 810 = .ok (.ireturn, 1) := by decide +kernel
theorem dL_law_811 : decode cL_law 811 = .ok (.aload_n 1, 1) := by decide +kernel
theorem dL_law_812 : decode cL_law 812 = .ok (.aload_n 0, 1) := by decide +kernel
theorem dL_law_813 : decode cL_law 813 = .ok (.iload_n 3, 1) := by decide +kernel
theorem dL_law_814 : decode cL_law 814 = .ok (.iconst 1, 1) := by decide +kernel
theorem dL_law_815 : decode cL_law 815 = .ok (.iadd, 1) := by decide +kernel
theorem dL_law_816 : decode cL_law 816 = .ok (.iaload, 1) := by decide +kernel
theorem dL_law_817 : decode cL_law 817 = .ok (.invokevirtual 101, 3) := by decide +kernel
theorem dL_law_820 : decode cL_law 820 = .ok (.aload_n 2, 1) := by decide +kernel
theorem dL_law_821 : decode cL_law 821 = .ok (.aload_n 0, 1) := by decide +kernel
theorem dL_law_822 : decode cL_law 822 = .ok (.iload_n 3, 1) := by decide +kernel
theorem dL_law_823 : decode cL_law 823 = .ok (.iconst 1, 1) := by decide +kernel
theorem dL_law_824 : decode cL_law 824 = .ok (.iadd, 1) := by decide +kernel
theorem dL_law_825 : decode cL_law 825 = .ok (.iaload, 1) := by decide +kernel
theorem dL_law_826 : decode cL_law 826 = .ok (.invokevirtual 104, 3) := by decide +kernel
theorem dL_law_829 : decode cL_law 829 = .ok (.if_icmp .eq 371, 3) := by decide +kernel
theorem dL_law_832 : decode cL_law 832 = .ok (.iconst 0, 1) := by decide +kernel
theorem dL_law_833 : decode cL_law 833 = .ok (.ireturn, 1) := by decide +kernel
theorem dL_law_834 : decode cL_law 834 = .ok (.aload_n 1, 1) := by decide +kernel
theorem dL_law_835 : decode cL_law 835 = .ok (.aload_n 0, 1) := by decide +kernel
theorem dL_law_836 : decode cL_law 836 = .ok (.iload_n 3, 1) := by decide +kernel
theorem dL_law_837 : decode cL_law 837 = .ok (.iconst 1, 1) := by decide +kernel
theorem dL_law_838 : decode cL_law 838 = .ok (.iadd, 1) := by decide +kernel
theorem dL_law_839 : decode cL_law 839 = .ok (.iaload, 1) := by decide +kernel
theorem dL_law_840 : decode cL_law 840 = .ok (.aload_n 0, 1) := by decide +kernel
theorem dL_law_841 : decode cL_law 841 = .ok (.iload_n 3, 1) := by decide +kernel
theorem dL_law_842 : decode cL_law 842 = .ok (.iconst 2, 1) := by decide +kernel
theorem dL_law_843 : decode cL_law 843 = .ok (.iadd, 1) := by decide +kernel
theorem dL_law_844 : decode cL_law 844 = .ok (.iaload, 1) := by decide +kernel
theorem dL_law_845 : decode cL_law 845 = .ok (.invokevirtual 105, 3) := by decide +kernel
theorem dL_law_848 : decode cL_law 848 = .ok (.aload_n 2, 1) := by decide +kernel
theorem dL_law_849 : decode cL_law 849 = .ok (.aload_n 0, 1) := by decide +kernel
theorem dL_law_850 : decode cL_law 850 = .ok (.iload_n 3, 1) := by decide +kernel
theorem dL_law_851 : decode cL_law 851 = .ok (.iconst 1, 1) := by decide +kernel
theorem dL_law_852 : decode cL_law 852 = .ok (.iadd, 1) := by decide +kernel
theorem dL_law_853 : decode cL_law 853 = .ok (.iaload, 1) := by decide +kernel
theorem dL_law_854 : decode cL_law 854 = .ok (.aload_n 0, 1) := by decide +kernel
theorem dL_law_855 : decode cL_law 855 = .ok (.iload_n 3, 1) := by decide +kernel
theorem dL_law_856 : decode cL_law 856 = .ok (.iconst 2, 1) := by decide +kernel
theorem dL_law_857 : decode cL_law 857 = .ok (.iadd, 1) := by decide +kernel
theorem dL_law_858 : decode cL_law 858 = .ok (.iaload, 1) := by decide +kernel
theorem dL_law_859 : decode cL_law 859 = .ok (.invokevirtual 108, 3) := by decide +kernel
theorem dL_law_862 : decode cL_law 862 = .ok (.if_icmp .eq 338, 3) := by decide +kernel
theorem dL_law_865 : decode cL_law 865 = .ok (.iconst 0, 1) := by decide +kernel
theorem dL_law_866 : decode cL_law 866 = .ok (.ireturn, 1) := by decide +kernel
theorem dL_law_867 : decode cL_law 867 = .ok (.aload_n 1, 1) := by decide +kernel
theorem dL_law_868 : decode cL_law 868 = .ok (.aload_n 0, 1) := by decide +kernel
theorem dL_law_869 : decode cL_law 869 = .ok (.iload_n 3, 1) := by decide +kernel
theorem dL_law_870 : decode cL_law 870 = .ok (.iconst 1, 1) := by decide +kernel
theorem dL_law_871 : decode cL_law 871 = .ok (.iadd, 1) := by decide +kernel
theorem dL_law_872 : decode cL_law 872 = .ok (.iaload, 1) := by decide +kernel
theorem dL_law_873 : decode cL_law 873 = .ok (.aload_n 0, 1) := by decide +kernel
theorem dL_law_874 : decode cL_law 874 = .ok (.iload_n 3, 1) := by decide +kernel
theorem dL_law_875 : decode cL_law 875 = .ok (.iconst 2, 1) := by decide +kernel
theorem dL_law_876 : decode cL_law 876 = .ok (.iadd, 1) := by decide +kernel
theorem dL_law_877 : decode cL_law 877 = .ok (.iaload, 1) := by decide +kernel
theorem dL_law_878 : decode cL_law 878 = .ok (.ifCond .eq 7, 3) := by decide +kernel
theorem dL_law_881 : decode cL_law 881 = .ok (.iconst 1, 1) := by decide +kernel
theorem dL_law_882 : decode cL_law 882 = .ok (.goto 4, 3) := by decide +kernel
theorem dL_law_885 : decode cL_law 885 = .ok (.iconst 0, 1) := by decide +kernel
theorem dL_law_886 : decode cL_law 886 = .ok (.invokevirtual 109, 3) := by decide +kernel
theorem dL_law_889 : decode cL_law 889 = .ok (.aload_n 2, 1) := by decide +kernel
theorem dL_law_890 : decode cL_law 890 = .ok (.aload_n 0, 1) := by decide +kernel
theorem dL_law_891 : decode cL_law 891 = .ok (.iload_n 3, 1) := by decide +kernel
theorem dL_law_892 : decode cL_law 892 = .ok (.iconst 1, 1) := by decide +kernel
theorem dL_law_893 : decode cL_law 893 = .ok (.iadd, 1) := by decide +kernel
theorem dL_law_894 : decode cL_law 894 = .ok (.iaload, 1) := by decide +kernel
theorem dL_law_895 : decode cL_law 895 = .ok (.aload_n 0, 1) := by decide +kernel
theorem dL_law_896 : decode cL_law 896 = .ok (.iload_n 3, 1) := by decide +kernel
theorem dL_law_897 : decode cL_law 897 = .ok (.iconst 2, 1) := by decide +kernel
theorem dL_law_898 : decode cL_law 898 = .ok (.iadd, 1) := by decide +kernel
theorem dL_law_899 : decode cL_law 899 = .ok (.iaload, 1) := by decide +kernel
theorem dL_law_900 : decode cL_law 900 = .ok (.ifCond .eq 7, 3) := by decide +kernel
theorem dL_law_903 : decode cL_law 903 = .ok (.iconst 1, 1) := by decide +kernel
theorem dL_law_904 : decode cL_law 904 = .ok (.goto 4, 3) := by decide +kernel
theorem dL_law_907 : decode cL_law 907 = .ok (.iconst 0, 1) := by decide +kernel
theorem dL_law_908 : decode cL_law 908 = .ok (.invokevirtual 113, 3) := by decide +kernel
theorem dL_law_911 : decode cL_law 911 = .ok (.if_icmp .eq 289, 3) := by decide +kernel
theorem dL_law_914 : decode cL_law 914 = .ok (.iconst 0, 1) := by decide +kernel
theorem dL_law_915 : decode cL_law 915 = .ok (.ireturn, 1) := by decide +kernel
theorem dL_law_916 : decode cL_law 916 = .ok (.aload_n 1, 1) := by decide +kernel
theorem dL_law_917 : decode cL_law 917 = .ok (.invokevirtual 114, 3) := by decide +kernel
theorem dL_law_920 : decode cL_law 920 = .ok (.aload_n 2, 1) := by decide +kernel
theorem dL_law_921 : decode cL_law 921 = .ok (.invokevirtual 117, 3) := by decide +kernel
theorem dL_law_924 : decode cL_law 924 = .ok (.if_icmp .eq 276, 3) := by decide +kernel
theorem dL_law_927 : decode cL_law 927 = .ok (.iconst 0, 1) := by decide +kernel
theorem dL_law_928 : decode cL_law 928 = .ok (.ireturn, 1) := by decide +kernel
theorem dL_law_929 : decode cL_law 929 = .ok (.aload_n 1, 1) := by decide +kernel
theorem dL_law_930 : decode cL_law 930 = .ok (.aload_n 0, 1) := by decide +kernel
theorem dL_law_931 : decode cL_law 931 = .ok (.iload_n 3, 1) := by decide +kernel
theorem dL_law_932 : decode cL_law 932 = .ok (.iconst 1, 1) := by decide +kernel
theorem dL_law_933 : decode cL_law 933 = .ok (.iadd, 1) := by decide +kernel
theorem dL_law_934 : decode cL_law 934 = .ok (.iaload, 1) := by decide +kernel
theorem dL_law_935 : decode cL_law 935 = .ok (.invokevirtual 118, 3) := by decide +kernel
theorem dL_law_938 : decode cL_law 938 = .ok (.aload_n 2, 1) := by decide +kernel
theorem dL_law_939 : decode cL_law 939 = .ok (.aload_n 0, 1) := by decide +kernel
theorem dL_law_940 : decode cL_law 940 = .ok (.iload_n 3, 1) := by decide +kernel
theorem dL_law_941 : decode cL_law 941 = .ok (.iconst 1, 1) := by decide +kernel
theorem dL_law_942 : decode cL_law 942 = .ok (.iadd, 1) := by decide +kernel
theorem dL_law_943 : decode cL_law 943 = .ok (.iaload, 1) := by decide +kernel
theorem dL_law_944 : decode cL_law 944 = .ok (.invokevirtual 121, 3) := by decide +kernel
theorem dL_law_947 : decode cL_law 947 = .ok (.if_icmp .eq 253, 3) := by decide +kernel
theorem dL_law_950 : decode cL_law 950 = .ok (.iconst 0, 1) := by decide +kernel
theorem dL_law_951 : decode cL_law 951 = .ok (.ireturn, 1) := by decide +kernel
theorem dL_law_952 : decode cL_law 952 = .ok (.aload_n 1, 1) := by decide +kernel
theorem dL_law_953 : decode cL_law 953 = .ok (.aload_n 0, 1) := by decide +kernel
theorem dL_law_954 : decode cL_law 954 = .ok (.iload_n 3, 1) := by decide +kernel
theorem dL_law_955 : decode cL_law 955 = .ok (.iconst 1, 1) := by decide +kernel
theorem dL_law_956 : decode cL_law 956 = .ok (.iadd, 1) := by decide +kernel
theorem dL_law_957 : decode cL_law 957 = .ok (.iaload, 1) := by decide +kernel
theorem dL_law_958 : decode cL_law 958 = .ok (.invokevirtual 122, 3) := by decide +kernel
theorem dL_law_961 : decode cL_law 961 = .ok (.aload_n 2, 1) := by decide +kernel
theorem dL_law_962 : decode cL_law 962 = .ok (.aload_n 0, 1) := by decide +kernel
theorem dL_law_963 : decode cL_law 963 = .ok (.iload_n 3, 1) := by decide +kernel
theorem dL_law_964 : decode cL_law 964 = .ok (.iconst 1, 1) := by decide +kernel
theorem dL_law_965 : decode cL_law 965 = .ok (.iadd, 1) := by decide +kernel
theorem dL_law_966 : decode cL_law 966 = .ok (.iaload, 1) := by decide +kernel
theorem dL_law_967 : decode cL_law 967 = .ok (.invokevirtual 125, 3) := by decide +kernel
theorem dL_law_970 : decode cL_law 970 = .ok (.if_icmp .eq 230, 3) := by decide +kernel
theorem dL_law_973 : decode cL_law 973 = .ok (.iconst 0, 1) := by decide +kernel
theorem dL_law_974 : decode cL_law 974 = .ok (.ireturn, 1) := by decide +kernel
theorem dL_law_975 : decode cL_law 975 = .ok (.aload_n 1, 1) := by decide +kernel
theorem dL_law_976 : decode cL_law 976 = .ok (.aload_n 0, 1) := by decide +kernel
theorem dL_law_977 : decode cL_law 977 = .ok (.iload_n 3, 1) := by decide +kernel
theorem dL_law_978 : decode cL_law 978 = .ok (.iconst 1, 1) := by decide +kernel
theorem dL_law_979 : decode cL_law 979 = .ok (.iadd, 1) := by decide +kernel
theorem dL_law_980 : decode cL_law 980 = .ok (.iaload, 1) := by decide +kernel
theorem dL_law_981 : decode cL_law 981 = .ok (.invokevirtual 126, 3) := by decide +kernel
theorem dL_law_984 : decode cL_law 984 = .ok (.aload_n 2, 1) := by decide +kernel
theorem dL_law_985 : decode cL_law 985 = .ok (.aload_n 0, 1) := by decide +kernel
theorem dL_law_986 : decode cL_law 986 = .ok (.iload_n 3, 1) := by decide +kernel
theorem dL_law_987 : decode cL_law 987 = .ok (.iconst 1, 1) := by decide +kernel
theorem dL_law_988 : decode cL_law 988 = .ok (.iadd, 1) := by decide +kernel
theorem dL_law_989 : decode cL_law 989 = .ok (.iaload, 1) := by decide +kernel
theorem dL_law_990 : decode cL_law 990 = .ok (.invokevirtual 129, 3) := by decide +kernel
theorem dL_law_993 : decode cL_law 993 = .ok (.if_icmp .eq 207, 3) := by decide +kernel
theorem dL_law_996 : decode cL_law 996 = .ok (.iconst 0, 1) := by decide +kernel
theorem dL_law_997 : decode cL_law 997 = .ok (.ireturn, 1) := by decide +kernel
theorem dL_law_998 : decode cL_law 998 = .ok (.aload_n 1, 1) := by decide +kernel
theorem dL_law_999 : decode cL_law 999 = .ok (.invokevirtual 130, 3) := by decide +kernel
theorem dL_law_1002 : decode cL_law 1002 = .ok (.aload_n 2, 1) := by decide +kernel
theorem dL_law_1003 : decode cL_law 1003 = .ok (.invokevirtual 133, 3) := by decide +kernel
theorem dL_law_1006 : decode cL_law 1006 = .ok (.if_icmp .eq 194, 3) := by decide +kernel
theorem dL_law_1009 : decode cL_law 1009 = .ok (.iconst 0, 1) := by decide +kernel
theorem dL_law_1010 : decode cL_law 1010 = .ok (.ireturn, 1) := by decide +kernel
theorem dL_law_1011 : decode cL_law 1011 = .ok (.aload_n 1, 1) := by decide +kernel
theorem dL_law_1012 : decode cL_law 1012 = .ok (.aload_n 0, 1) := by decide +kernel
theorem dL_law_1013 : decode cL_law 1013 = .ok (.iload_n 3, 1) := by decide +kernel
theorem dL_law_1014 : decode cL_law 1014 = .ok (.iconst 1, 1) := by decide +kernel
theorem dL_law_1015 : decode cL_law 1015 = .ok (.iadd, 1) := by decide +kernel
theorem dL_law_1016 : decode cL_law 1016 = .ok (.iaload, 1) := by decide +kernel
theorem dL_law_1017 : decode cL_law 1017 = .ok (.invokevirtual 134, 3) := by decide +kernel
theorem dL_law_1020 : decode cL_law 1020 = .ok (.aload_n 2, 1) := by decide +kernel
theorem dL_law_1021 : decode cL_law 1021 = .ok (.aload_n 0, 1) := by decide +kernel
theorem dL_law_1022 : decode cL_law 1022 = .ok (.iload_n 3, 1) := by decide +kernel
theorem dL_law_1023 : decode cL_law 1023 = .ok (.iconst 1, 1) := by decide +kernel
theorem dL_law_1024 : decode cL_law 1024 = .ok (.iadd, 1) := by decide +kernel
theorem dL_law_1025 : decode cL_law 1025 = .ok (.iaload, 1) := by decide +kernel
theorem dL_law_1026 : decode cL_law 1026 = .ok (.invokevirtual 137, 3) := by decide +kernel
theorem dL_law_1029 : decode cL_law 1029 = .ok (.if_icmp .eq 171, 3) := by decide +kernel
theorem dL_law_1032 : decode cL_law 1032 = .ok (.iconst 0, 1) := by decide +kernel
theorem dL_law_1033 : decode cL_law 1033 = .ok (.ireturn, 1) := by decide +kernel
theorem dL_law_1034 : decode cL_law 1034 = .ok (.aload_n 1, 1) := by decide +kernel
theorem dL_law_1035 : decode cL_law 1035 = .ok (.aload_n 0, 1) := by decide +kernel
theorem dL_law_1036 : decode cL_law 1036 = .ok (.iload_n 3, 1) := by decide +kernel
theorem dL_law_1037 : decode cL_law 1037 = .ok (.iconst 1, 1) := by decide +kernel
theorem dL_law_1038 : decode cL_law 1038 = .ok (.iadd, 1) := by decide +kernel
theorem dL_law_1039 : decode cL_law 1039 = .ok (.iaload, 1) := by decide +kernel
theorem dL_law_1040 : decode cL_law 1040 = .ok (.aload_n 0, 1) := by decide +kernel
theorem dL_law_1041 : decode cL_law 1041 = .ok (.iload_n 3, 1) := by decide +kernel
theorem dL_law_1042 : decode cL_law 1042 = .ok (.iconst 2, 1) := by decide +kernel
theorem dL_law_1043 : decode cL_law 1043 = .ok (.iadd, 1) := by decide +kernel
theorem dL_law_1044 : decode cL_law 1044 = .ok (.iaload, 1) := by decide +kernel
theorem dL_law_1045 : decode cL_law 1045 = .ok (.aload_n 0, 1) := by decide +kernel
theorem dL_law_1046 : decode cL_law 1046 = .ok (.iload_n 3, 1) := by decide +kernel
theorem dL_law_1047 : decode cL_law 1047 = .ok (.iconst 3, 1) := by decide +kernel
theorem dL_law_1048 : decode cL_law 1048 = .ok (.iadd, 1) := by decide +kernel
theorem dL_law_1049 : decode cL_law 1049 = .ok (.iaload, 1) := by decide +kernel
theorem dL_law_1050 : decode cL_law 1050 = .ok (.aload_n 0, 1) := by decide +kernel
theorem dL_law_1051 : decode cL_law 1051 = .ok (.iload_n 3, 1) := by decide +kernel
theorem dL_law_1052 : decode cL_law 1052 = .ok (.iconst 4, 1) := by decide +kernel
theorem dL_law_1053 : decode cL_law 1053 = .ok (.iadd, 1) := by decide +kernel
theorem dL_law_1054 : decode cL_law 1054 = .ok (.iaload, 1) := by decide +kernel
theorem dL_law_1055 : decode cL_law 1055 = .ok (.invokevirtual 138, 3) := by decide +kernel
theorem dL_law_1058 : decode cL_law 1058 = .ok (.aload_n 2, 1) := by decide +kernel
theorem dL_law_1059 : decode cL_law 1059 = .ok (.aload_n 0, 1) := by decide +kernel
theorem dL_law_1060 : decode cL_law 1060 = .ok (.iload_n 3, 1) := by decide +kernel
theorem dL_law_1061 : decode cL_law 1061 = .ok (.iconst 1, 1) := by decide +kernel
theorem dL_law_1062 : decode cL_law 1062 = .ok (.iadd, 1) := by decide +kernel
theorem dL_law_1063 : decode cL_law 1063 = .ok (.iaload, 1) := by decide +kernel
theorem dL_law_1064 : decode cL_law 1064 = .ok (.aload_n 0, 1) := by decide +kernel
theorem dL_law_1065 : decode cL_law 1065 = .ok (.iload_n 3, 1) := by decide +kernel
theorem dL_law_1066 : decode cL_law 1066 = .ok (.iconst 2, 1) := by decide +kernel
theorem dL_law_1067 : decode cL_law 1067 = .ok (.iadd, 1) := by decide +kernel
theorem dL_law_1068 : decode cL_law 1068 = .ok (.iaload, 1) := by decide +kernel
theorem dL_law_1069 : decode cL_law 1069 = .ok (.aload_n 0, 1) := by decide +kernel
theorem dL_law_1070 : decode cL_law 1070 = .ok (.iload_n 3, 1) := by decide +kernel
theorem dL_law_1071 : decode cL_law 1071 = .ok (.iconst 3, 1) := by decide +kernel
theorem dL_law_1072 : decode cL_law 1072 = .ok (.iadd, 1) := by decide +kernel
theorem dL_law_1073 : decode cL_law 1073 = .ok (.iaload, 1) := by decide +kernel
theorem dL_law_1074 : decode cL_law 1074 = .ok (.aload_n 0, 1) := by decide +kernel
theorem dL_law_1075 : decode cL_law 1075 = .ok (.iload_n 3, 1) := by decide +kernel
theorem dL_law_1076 : decode cL_law 1076 = .ok (.iconst 4, 1) := by decide +kernel
theorem dL_law_1077 : decode cL_law 1077 = .ok (.iadd, 1) := by decide +kernel
theorem dL_law_1078 : decode cL_law 1078 = .ok (.iaload, 1) := by decide +kernel
theorem dL_law_1079 : decode cL_law 1079 = .ok (.invokevirtual 142, 3) := by decide +kernel
theorem dL_law_1082 : decode cL_law 1082 = .ok (.lcmp, 1) := by decide +kernel
theorem dL_law_1083 : decode cL_law 1083 = .ok (.ifCond .eq 117, 3) := by decide +kernel
theorem dL_law_1086 : decode cL_law 1086 = .ok (.iconst 0, 1) := by decide +kernel
theorem dL_law_1087 : decode cL_law 1087 = .ok (.ireturn, 1) := by decide +kernel
theorem dL_law_1088 : decode cL_law 1088 = .ok (.aload_n 1, 1) := by decide +kernel
theorem dL_law_1089 : decode cL_law 1089 = .ok (.aload_n 0, 1) := by decide +kernel
theorem dL_law_1090 : decode cL_law 1090 = .ok (.iload_n 3, 1) := by decide +kernel
theorem dL_law_1091 : decode cL_law 1091 = .ok (.iconst 1, 1) := by decide +kernel
theorem dL_law_1092 : decode cL_law 1092 = .ok (.iadd, 1) := by decide +kernel
theorem dL_law_1093 : decode cL_law 1093 = .ok (.iaload, 1) := by decide +kernel
theorem dL_law_1094 : decode cL_law 1094 = .ok (.aload_n 0, 1) := by decide +kernel
theorem dL_law_1095 : decode cL_law 1095 = .ok (.iload_n 3, 1) := by decide +kernel
theorem dL_law_1096 : decode cL_law 1096 = .ok (.iconst 2, 1) := by decide +kernel
theorem dL_law_1097 : decode cL_law 1097 = .ok (.iadd, 1) := by decide +kernel
theorem dL_law_1098 : decode cL_law 1098 = .ok (.iaload, 1) := by decide +kernel
theorem dL_law_1099 : decode cL_law 1099 = .ok (.aload_n 0, 1) := by decide +kernel
theorem dL_law_1100 : decode cL_law 1100 = .ok (.iload_n 3, 1) := by decide +kernel
theorem dL_law_1101 : decode cL_law 1101 = .ok (.iconst 3, 1) := by decide +kernel
theorem dL_law_1102 : decode cL_law 1102 = .ok (.iadd, 1) := by decide +kernel
theorem dL_law_1103 : decode cL_law 1103 = .ok (.iaload, 1) := by decide +kernel
theorem dL_law_1104 : decode cL_law 1104 = .ok (.invokevirtual 143, 3) := by decide +kernel
theorem dL_law_1107 : decode cL_law 1107 = .ok (.aload_n 2, 1) := by decide +kernel
theorem dL_law_1108 : decode cL_law 1108 = .ok (.aload_n 0, 1) := by decide +kernel
theorem dL_law_1109 : decode cL_law 1109 = .ok (.iload_n 3, 1) := by decide +kernel
theorem dL_law_1110 : decode cL_law 1110 = .ok (.iconst 1, 1) := by decide +kernel
theorem dL_law_1111 : decode cL_law 1111 = .ok (.iadd, 1) := by decide +kernel
theorem dL_law_1112 : decode cL_law 1112 = .ok (.iaload, 1) := by decide +kernel
theorem dL_law_1113 : decode cL_law 1113 = .ok (.aload_n 0, 1) := by decide +kernel
theorem dL_law_1114 : decode cL_law 1114 = .ok (.iload_n 3, 1) := by decide +kernel
theorem dL_law_1115 : decode cL_law 1115 = .ok (.iconst 2, 1) := by decide +kernel
theorem dL_law_1116 : decode cL_law 1116 = .ok (.iadd, 1) := by decide +kernel
theorem dL_law_1117 : decode cL_law 1117 = .ok (.iaload, 1) := by decide +kernel
theorem dL_law_1118 : decode cL_law 1118 = .ok (.aload_n 0, 1) := by decide +kernel
theorem dL_law_1119 : decode cL_law 1119 = .ok (.iload_n 3, 1) := by decide +kernel
theorem dL_law_1120 : decode cL_law 1120 = .ok (.iconst 3, 1) := by decide +kernel
theorem dL_law_1121 : decode cL_law 1121 = .ok (.iadd, 1) := by decide +kernel
theorem dL_law_1122 : decode cL_law 1122 = .ok (.iaload, 1) := by decide +kernel
theorem dL_law_1123 : decode cL_law 1123 = .ok (.invokevirtual 146, 3) := by decide +kernel
theorem dL_law_1126 : decode cL_law 1126 = .ok (.if_icmp .eq 74, 3) := by decide +kernel
theorem dL_law_1129 : decode cL_law 1129 = .ok (.iconst 0, 1) := by decide +kernel
theorem dL_law_1130 : decode cL_law 1130 = .ok (.ireturn, 1) := by decide +kernel
theorem dL_law_1131 : decode cL_law 1131 = .ok (.aload_n 1, 1) := by decide +kernel
theorem dL_law_1132 : decode cL_law 1132 = .ok (.aload_n 0, 1) := by decide +kernel
theorem dL_law_1133 : decode cL_law 1133 = .ok (.iload_n 3, 1) := by decide +kernel
theorem dL_law_1134 : decode cL_law 1134 = .ok (.iconst 1, 1) := by decide +kernel
theorem dL_law_1135 : decode cL_law 1135 = .ok (.iadd, 1) := by decide +kernel
theorem dL_law_1136 : decode cL_law 1136 = .ok (.iaload, 1) := by decide +kernel
theorem dL_law_1137 : decode cL_law 1137 = .ok (.invokevirtual 147, 3) := by decide +kernel
theorem dL_law_1140 : decode cL_law 1140 = .ok (.aload_n 2, 1) := by decide +kernel
theorem dL_law_1141 : decode cL_law 1141 = .ok (.aload_n 0, 1) := by decide +kernel
theorem dL_law_1142 : decode cL_law 1142 = .ok (.iload_n 3, 1) := by decide +kernel
theorem dL_law_1143 : decode cL_law 1143 = .ok (.iconst 1, 1) := by decide +kernel
theorem dL_law_1144 : decode cL_law 1144 = .ok (.iadd, 1) := by decide +kernel
theorem dL_law_1145 : decode cL_law 1145 = .ok (.iaload, 1) := by decide +kernel
theorem dL_law_1146 : decode cL_law 1146 = .ok (.invokevirtual 150, 3) := by decide +kernel
theorem dL_law_1149 : decode cL_law 1149 = .ok (.if_icmp .eq 51, 3) := by decide +kernel
theorem dL_law_1152 : decode cL_law 1152 = .ok (.iconst 0, 1) := by decide +kernel
theorem dL_law_1153 : decode cL_law 1153 = .ok (.ireturn, 1) := by decide +kernel
theorem dL_law_1154 : decode cL_law 1154 = .ok (.aload_n 1, 1) := by decide +kernel
theorem dL_law_1155 : decode cL_law 1155 = .ok (.aload_n 0, 1) := by decide +kernel
theorem dL_law_1156 : decode cL_law 1156 = .ok (.iload_n 3, 1) := by decide +kernel
theorem dL_law_1157 : decode cL_law 1157 = .ok (.iconst 1, 1) := by decide +kernel
theorem dL_law_1158 : decode cL_law 1158 = .ok (.iadd, 1) := by decide +kernel
theorem dL_law_1159 : decode cL_law 1159 = .ok (.iaload, 1) := by decide +kernel
theorem dL_law_1160 : decode cL_law 1160 = .ok (.invokevirtual 151, 3) := by decide +kernel
theorem dL_law_1163 : decode cL_law 1163 = .ok (.aload_n 2, 1) := by decide +kernel
theorem dL_law_1164 : decode cL_law 1164 = .ok (.aload_n 0, 1) := by decide +kernel
theorem dL_law_1165 : decode cL_law 1165 = .ok (.iload_n 3, 1) := by decide +kernel
theorem dL_law_1166 : decode cL_law 1166 = .ok (.iconst 1, 1) := by decide +kernel
theorem dL_law_1167 : decode cL_law 1167 = .ok (.iadd, 1) := by decide +kernel
theorem dL_law_1168 : decode cL_law 1168 = .ok (.iaload, 1) := by decide +kernel
theorem dL_law_1169 : decode cL_law 1169 = .ok (.invokevirtual 154, 3) := by decide +kernel
theorem dL_law_1172 : decode cL_law 1172 = .ok (.if_icmp .eq 28, 3) := by decide +kernel
theorem dL_law_1175 : decode cL_law 1175 = .ok (.iconst 0, 1) := by decide +kernel
theorem dL_law_1176 : decode cL_law 1176 = .ok (.ireturn, 1) := by decide +kernel
theorem dL_law_1177 : decode cL_law 1177 = .ok (.aload_n 1, 1) := by decide +kernel
theorem dL_law_1178 : decode cL_law 1178 = .ok (.aload_n 0, 1) := by decide +kernel
theorem dL_law_1179 : decode cL_law 1179 = .ok (.iload_n 3, 1) := by decide +kernel
theorem dL_law_1180 : decode cL_law 1180 = .ok (.iconst 1, 1) := by decide +kernel
theorem dL_law_1181 : decode cL_law 1181 = .ok (.iadd, 1) := by decide +kernel
theorem dL_law_1182 : decode cL_law 1182 = .ok (.iaload, 1) := by decide +kernel
theorem dL_law_1183 : decode cL_law 1183 = .ok (.invokevirtual 155, 3) := by decide +kernel
theorem dL_law_1186 : decode cL_law 1186 = .ok (.aload_n 2, 1) := by decide +kernel
theorem dL_law_1187 : decode cL_law 1187 = .ok (.aload_n 0, 1) := by decide +kernel
theorem dL_law_1188 : decode cL_law 1188 = .ok (.iload_n 3, 1) := by decide +kernel
theorem dL_law_1189 : decode cL_law 1189 = .ok (.iconst 1, 1) := by decide +kernel
theorem dL_law_1190 : decode cL_law 1190 = .ok (.iadd, 1) := by decide +kernel
theorem dL_law_1191 : decode cL_law 1191 = .ok (.iaload, 1) := by decide +kernel
theorem dL_law_1192 : decode cL_law 1192 = .ok (.invokevirtual 158, 3) := by decide +kernel
theorem dL_law_1195 : decode cL_law 1195 = .ok (.if_icmp .eq 5, 3) := by decide +kernel
theorem dL_law_1198 : decode cL_law 1198 = .ok (.iconst 0, 1) := by decide +kernel
theorem dL_law_1199 : decode cL_law 1199 = .ok (.ireturn, 1) := by decide +kernel
theorem dL_law_1200 : decode cL_law 1200 = .ok (.iinc 3 5, 3) := by decide +kernel
theorem dL_law_1203 : decode cL_law 1203 = .ok (.goto (-1185), 3) := by decide +kernel
theorem dL_law_1206 : decode cL_law 1206 = .ok (.iconst 1, 1) := by decide +kernel
theorem dL_law_1207 : decode cL_law 1207 = .ok (.ireturn, 1) := by decide +kernel
end
section
-- laid by wip/whole/mkwords.py: the table words that calls carry, and each word in it by its place
def WT : List Cond := lw_tbl.filter goodWord
theorem mWT {w : Cond} (i : Nat) (h : lw_tbl[i]? = some w) (hg : goodWord w = true) : w ∈ WT := List.mem_filter.mpr ⟨List.mem_of_getElem? h, hg⟩
theorem WT_good : ∀ w ∈ WT, (w.onTables && w.keeps) = true ∨ ∃ ty, w = .arrayClass ty := fun _ h => good_of_word (List.mem_filter.mp h).2
theorem WT_tbl : ∀ w ∈ WT, w ∈ lw_tbl := fun _ h => (List.mem_filter.mp h).1
def MV (C : String) (y : MethodName) (b : ByteArray) (nL : Nat) (ret : Option FieldType) (n : Nat) : Prop :=
  Cond.instanceMethod y ∈ WT ∧ Cond.selects C y y ∈ WT ∧ Cond.initialized C ∈ WT ∧ Cond.code y b nL ret ∈ WT ∧ (y.cls = C ∧ y.cls ≠ "java/lang/invoke/MethodHandle" ∧ y.cls ≠ "java/lang/invoke/VarHandle" ∧ (parseMethodDescriptor y.desc).map (fun d => d.parameters.length) = some n)
def MS (y : MethodName) (b : ByteArray) (nL : Nat) (ret : Option FieldType) (n : Nat) : Prop :=
  Cond.static y ∈ WT ∧ Cond.initialized y.cls ∈ WT ∧ Cond.code y b nL ret ∈ WT ∧ (y.cls ≠ "java/lang/invoke/MethodHandle" ∧ y.cls ≠ "java/lang/invoke/VarHandle" ∧ (parseMethodDescriptor y.desc).map (fun d => d.parameters.length) = some n)
def MI (y : MethodName) (b : ByteArray) (nL : Nat) (n : Nat) : Prop :=
  Cond.instanceMethod y ∈ WT ∧ Cond.initialized y.cls ∈ WT ∧ Cond.code y b nL none ∈ WT ∧ y.name = "<init>" ∧ (y.cls ≠ "java/lang/invoke/MethodHandle" ∧ y.cls ≠ "java/lang/invoke/VarHandle" ∧ (parseMethodDescriptor y.desc).map (fun d => d.parameters.length) = some n)
set_option maxRecDepth 100000 in
theorem se_X2_passEquinox : Cond.selects RX2 yX2_passEquinox yX2_passEquinox ∈ WT := mWT 0 rfl rfl
set_option maxRecDepth 100000 in
theorem se_X6_yearsCanBe : Cond.selects RX6 yX6_yearsCanBe yX6_yearsCanBe ∈ WT := mWT 1 rfl rfl
set_option maxRecDepth 100000 in
theorem se_X0_takeBack : Cond.selects RX0 yX0_takeBack yX0_takeBack ∈ WT := mWT 2 rfl rfl
set_option maxRecDepth 100000 in
theorem se_X0_countWant : Cond.selects RX0 yX0_countWant yX0_countWant ∈ WT := mWT 3 rfl rfl
set_option maxRecDepth 100000 in
theorem se_X0_countBearer : Cond.selects RX0 yX0_countBearer yX0_countBearer ∈ WT := mWT 4 rfl rfl
set_option maxRecDepth 100000 in
theorem se_X0_heed : Cond.selects RX0 yX0_heed yX0_heed ∈ WT := mWT 5 rfl rfl
set_option maxRecDepth 100000 in
theorem se_X0_isOpen : Cond.selects RX0 yX0_isOpen yX0_isOpen ∈ WT := mWT 6 rfl rfl
set_option maxRecDepth 100000 in
theorem se_X0_waysIf : Cond.selects RX0 yX0_waysIf yX0_waysIf ∈ WT := mWT 7 rfl rfl
set_option maxRecDepth 100000 in
theorem se_X0_waysWith : Cond.selects RX0 yX0_waysWith yX0_waysWith ∈ WT := mWT 8 rfl rfl
set_option maxRecDepth 100000 in
theorem se_X0_suits : Cond.selects RX0 yX0_suits yX0_suits ∈ WT := mWT 9 rfl rfl
set_option maxRecDepth 100000 in
theorem se_X0_give : Cond.selects RX0 yX0_give yX0_give ∈ WT := mWT 10 rfl rfl
set_option maxRecDepth 100000 in
theorem se_X4_bestOf : Cond.selects RX4 yX4_bestOf yX4_bestOf ∈ WT := mWT 11 rfl rfl
set_option maxRecDepth 100000 in
theorem se_X6_drawYear : Cond.selects RX6 yX6_drawYear yX6_drawYear ∈ WT := mWT 12 rfl rfl
set_option maxRecDepth 100000 in
theorem se_X6_drawAct : Cond.selects RX6 yX6_drawAct yX6_drawAct ∈ WT := mWT 13 rfl rfl
set_option maxRecDepth 100000 in
theorem se_X6_imageAt : Cond.selects RX6 yX6_imageAt yX6_imageAt ∈ WT := mWT 14 rfl rfl
set_option maxRecDepth 100000 in
theorem se_X6_toldOfOne : Cond.selects RX6 yX6_toldOfOne yX6_toldOfOne ∈ WT := mWT 15 rfl rfl
set_option maxRecDepth 100000 in
theorem se_X7_clear : Cond.selects RX7 yX7_clear yX7_clear ∈ WT := mWT 16 rfl rfl
set_option maxRecDepth 100000 in
theorem se_X7_isOne : Cond.selects RX7 yX7_isOne yX7_isOne ∈ WT := mWT 17 rfl rfl
set_option maxRecDepth 100000 in
theorem se_X7_faultOf : Cond.selects RX7 yX7_faultOf yX7_faultOf ∈ WT := mWT 18 rfl rfl
set_option maxRecDepth 100000 in
theorem se_X7_isChild : Cond.selects RX7 yX7_isChild yX7_isChild ∈ WT := mWT 19 rfl rfl
set_option maxRecDepth 100000 in
theorem se_X7_goYears : Cond.selects RX7 yX7_goYears yX7_goYears ∈ WT := mWT 20 rfl rfl
set_option maxRecDepth 100000 in
theorem se_X7_asNow : Cond.selects RX7 yX7_asNow yX7_asNow ∈ WT := mWT 21 rfl rfl
set_option maxRecDepth 100000 in
theorem se_X7_days : Cond.selects RX7 yX7_days yX7_days ∈ WT := mWT 22 rfl rfl
set_option maxRecDepth 100000 in
theorem se_X7_equinox : Cond.selects RX7 yX7_equinox yX7_equinox ∈ WT := mWT 23 rfl rfl
set_option maxRecDepth 100000 in
theorem se_X7_whyNoHats : Cond.selects RX7 yX7_whyNoHats yX7_whyNoHats ∈ WT := mWT 24 rfl rfl
set_option maxRecDepth 100000 in
theorem se_X7_hats : Cond.selects RX7 yX7_hats yX7_hats ∈ WT := mWT 25 rfl rfl
set_option maxRecDepth 100000 in
theorem se_X7_whyNot : Cond.selects RX7 yX7_whyNot yX7_whyNot ∈ WT := mWT 26 rfl rfl
set_option maxRecDepth 100000 in
theorem se_X7_barOfYears : Cond.selects RX7 yX7_barOfYears yX7_barOfYears ∈ WT := mWT 27 rfl rfl
set_option maxRecDepth 100000 in
theorem se_X7_equinoxes : Cond.selects RX7 yX7_equinoxes yX7_equinoxes ∈ WT := mWT 28 rfl rfl
set_option maxRecDepth 100000 in
theorem se_X7_whereBehind : Cond.selects RX7 yX7_whereBehind yX7_whereBehind ∈ WT := mWT 29 rfl rfl
set_option maxRecDepth 100000 in
theorem se_X7_areTwo : Cond.selects RX7 yX7_areTwo yX7_areTwo ∈ WT := mWT 30 rfl rfl
set_option maxRecDepth 100000 in
theorem se_X7_areIn : Cond.selects RX7 yX7_areIn yX7_areIn ∈ WT := mWT 31 rfl rfl
set_option maxRecDepth 100000 in
theorem se_X7_firstDay : Cond.selects RX7 yX7_firstDay yX7_firstDay ∈ WT := mWT 32 rfl rfl
set_option maxRecDepth 100000 in
theorem se_X7_isThere : Cond.selects RX7 yX7_isThere yX7_isThere ∈ WT := mWT 33 rfl rfl
set_option maxRecDepth 100000 in
theorem se_X7_isWar : Cond.selects RX7 yX7_isWar yX7_isWar ∈ WT := mWT 34 rfl rfl
set_option maxRecDepth 100000 in
theorem se_X7_codes : Cond.selects RX7 yX7_codes yX7_codes ∈ WT := mWT 35 rfl rfl
set_option maxRecDepth 100000 in
theorem se_X7_isRow : Cond.selects RX7 yX7_isRow yX7_isRow ∈ WT := mWT 36 rfl rfl
set_option maxRecDepth 100000 in
theorem se_X7_deals : Cond.selects RX7 yX7_deals yX7_deals ∈ WT := mWT 37 rfl rfl
set_option maxRecDepth 100000 in
theorem se_X7_living : Cond.selects RX7 yX7_living yX7_living ∈ WT := mWT 38 rfl rfl
set_option maxRecDepth 100000 in
theorem se_X7_coughOf : Cond.selects RX7 yX7_coughOf yX7_coughOf ∈ WT := mWT 39 rfl rfl
set_option maxRecDepth 100000 in
theorem se_X7_doMeet : Cond.selects RX7 yX7_doMeet yX7_doMeet ∈ WT := mWT 40 rfl rfl
set_option maxRecDepth 100000 in
theorem se_X7_alive : Cond.selects RX7 yX7_alive yX7_alive ∈ WT := mWT 41 rfl rfl
set_option maxRecDepth 100000 in
theorem ini_L : Cond.initialized RL ∈ WT := mWT 42 rfl rfl
set_option maxRecDepth 100000 in
theorem ini_X6 : Cond.initialized RX6 ∈ WT := mWT 43 rfl rfl
set_option maxRecDepth 100000 in
theorem ini_X2 : Cond.initialized RX2 ∈ WT := mWT 44 rfl rfl
set_option maxRecDepth 100000 in
theorem ini_X3 : Cond.initialized RX3 ∈ WT := mWT 45 rfl rfl
set_option maxRecDepth 100000 in
theorem ini_X1 : Cond.initialized RX1 ∈ WT := mWT 46 rfl rfl
set_option maxRecDepth 100000 in
theorem ini_X5 : Cond.initialized RX5 ∈ WT := mWT 47 rfl rfl
set_option maxRecDepth 100000 in
theorem ini_X0 : Cond.initialized RX0 ∈ WT := mWT 48 rfl rfl
set_option maxRecDepth 100000 in
theorem ini_X4 : Cond.initialized RX4 ∈ WT := mWT 49 rfl rfl
set_option maxRecDepth 100000 in
theorem ini_X7 : Cond.initialized RX7 ∈ WT := mWT 50 rfl rfl
set_option maxRecDepth 100000 in
theorem ini_J9 : Cond.initialized RJ9 ∈ WT := mWT 51 rfl rfl
set_option maxRecDepth 100000 in
theorem ini_J6 : Cond.initialized RJ6 ∈ WT := mWT 52 rfl rfl
set_option maxRecDepth 100000 in
theorem cl_L_7 : Cond.classLink RL 7 RX6 ∈ WT := mWT 53 rfl rfl
set_option maxRecDepth 100000 in
theorem isb_X6 : Cond.instantiable RX6 9 ∈ WT := mWT 54 rfl rfl
set_option maxRecDepth 100000 in
theorem ml_L_9 : Cond.methodLink RL 9 yX6_init ∈ WT := mWT 55 rfl rfl
set_option maxRecDepth 100000 in
theorem im_X6_init : Cond.instanceMethod yX6_init ∈ WT := mWT 56 rfl rfl
set_option maxRecDepth 100000 in
theorem cd_X6_init : Cond.code yX6_init cX6_init 1 none ∈ WT := mWT 57 rfl rfl
set_option maxRecDepth 100000 in
theorem ml_X6_1 : Cond.methodLink RX6 1 objectInit ∈ WT := mWT 58 rfl rfl
set_option maxRecDepth 100000 in
theorem im_obj : Cond.instanceMethod objectInit ∈ WT := mWT 59 rfl rfl
set_option maxRecDepth 100000 in
theorem cd_obj : Cond.code objectInit ⟨#[0xb1]⟩ 1 none ∈ WT := mWT 60 rfl rfl
set_option maxRecDepth 100000 in
theorem cl_X6_7 : Cond.classLink RX6 7 RX2 ∈ WT := mWT 61 rfl rfl
set_option maxRecDepth 100000 in
theorem isb_X2 : Cond.instantiable RX2 15 ∈ WT := mWT 62 rfl rfl
set_option maxRecDepth 100000 in
theorem im_X2_init : Cond.instanceMethod yX2_init ∈ WT := mWT 64 rfl rfl
set_option maxRecDepth 100000 in
theorem cd_X2_init : Cond.code yX2_init cX2_init 1 none ∈ WT := mWT 65 rfl rfl
set_option maxRecDepth 100000 in
theorem ml_X2_3 : Cond.methodLink RX2 3 objectInit ∈ WT := mWT 66 rfl rfl
set_option maxRecDepth 100000 in
theorem cl_X2_9 : Cond.classLink RX2 9 RX3 ∈ WT := mWT 67 rfl rfl
set_option maxRecDepth 100000 in
theorem isb_X3 : Cond.instantiable RX3 1 ∈ WT := mWT 68 rfl rfl
set_option maxRecDepth 100000 in
theorem ml_X2_11 : Cond.methodLink RX2 11 yX3_init ∈ WT := mWT 69 rfl rfl
set_option maxRecDepth 100000 in
theorem im_X3_init : Cond.instanceMethod yX3_init ∈ WT := mWT 70 rfl rfl
set_option maxRecDepth 100000 in
theorem cd_X3_init : Cond.code yX3_init cX3_init 2 none ∈ WT := mWT 71 rfl rfl
set_option maxRecDepth 100000 in
theorem ml_X3_1 : Cond.methodLink RX3 1 objectInit ∈ WT := mWT 72 rfl rfl
set_option maxRecDepth 100000 in
theorem fl_X3_7 : Cond.fieldLink RX3 7 RX3 "cells" "[I" ∈ WT := mWT 73 rfl rfl
set_option maxRecDepth 100000 in
theorem ac_int : Cond.arrayClass .int ∈ WT := mWT 77 rfl rfl
set_option maxRecDepth 100000 in
theorem fl_X2_41 : Cond.fieldLink RX2 41 RX2 "lands" "I" ∈ WT := mWT 78 rfl rfl
set_option maxRecDepth 100000 in
theorem fl_X4_23 : Cond.fieldLink RX4 23 RX2 "lands" "I" ∈ WT := mWT 79 rfl rfl
set_option maxRecDepth 100000 in
theorem fl_X6_73 : Cond.fieldLink RX6 73 RX2 "lands" "I" ∈ WT := mWT 80 rfl rfl
set_option maxRecDepth 100000 in
theorem fl_X0_43 : Cond.fieldLink RX0 43 RX2 "lands" "I" ∈ WT := mWT 81 rfl rfl
set_option maxRecDepth 100000 in
theorem fl_X6_62 : Cond.fieldLink RX6 62 RX2 "longDays" "I" ∈ WT := mWT 82 rfl rfl
set_option maxRecDepth 100000 in
theorem fl_X2_67 : Cond.fieldLink RX2 67 RX2 "longDays" "I" ∈ WT := mWT 83 rfl rfl
set_option maxRecDepth 100000 in
theorem fl_X2_45 : Cond.fieldLink RX2 45 RX2 "day" "I" ∈ WT := mWT 84 rfl rfl
set_option maxRecDepth 100000 in
theorem fl_X6_141 : Cond.fieldLink RX6 141 RX2 "day" "I" ∈ WT := mWT 85 rfl rfl
set_option maxRecDepth 100000 in
theorem fl_X2_48 : Cond.fieldLink RX2 48 RX2 "dayOfSeason" "I" ∈ WT := mWT 86 rfl rfl
set_option maxRecDepth 100000 in
theorem fl_X6_76 : Cond.fieldLink RX6 76 RX2 "dayOfSeason" "I" ∈ WT := mWT 87 rfl rfl
set_option maxRecDepth 100000 in
theorem fl_X2_51 : Cond.fieldLink RX2 51 RX2 "season" "I" ∈ WT := mWT 88 rfl rfl
set_option maxRecDepth 100000 in
theorem fl_X6_257 : Cond.fieldLink RX6 257 RX2 "season" "I" ∈ WT := mWT 89 rfl rfl
set_option maxRecDepth 100000 in
theorem fl_X2_57 : Cond.fieldLink RX2 57 RX2 "living" "I" ∈ WT := mWT 90 rfl rfl
set_option maxRecDepth 100000 in
theorem fl_X6_223 : Cond.fieldLink RX6 223 RX2 "living" "I" ∈ WT := mWT 91 rfl rfl
set_option maxRecDepth 100000 in
theorem fl_X2_54 : Cond.fieldLink RX2 54 RX2 "sights" "I" ∈ WT := mWT 92 rfl rfl
set_option maxRecDepth 100000 in
theorem fl_X0_66 : Cond.fieldLink RX0 66 RX2 "sights" "I" ∈ WT := mWT 93 rfl rfl
set_option maxRecDepth 100000 in
theorem fl_X6_184 : Cond.fieldLink RX6 184 RX2 "sights" "I" ∈ WT := mWT 94 rfl rfl
set_option maxRecDepth 100000 in
theorem fl_X2_14 : Cond.fieldLink RX2 14 RX2 "place" "LHostageRound$Row;" ∈ WT := mWT 95 rfl rfl
set_option maxRecDepth 100000 in
theorem fl_X2_20 : Cond.fieldLink RX2 20 RX2 "name" "LHostageRound$Row;" ∈ WT := mWT 96 rfl rfl
set_option maxRecDepth 100000 in
theorem fl_X0_52 : Cond.fieldLink RX0 52 RX2 "name" "LHostageRound$Row;" ∈ WT := mWT 97 rfl rfl
set_option maxRecDepth 100000 in
theorem fl_X6_132 : Cond.fieldLink RX6 132 RX2 "name" "LHostageRound$Row;" ∈ WT := mWT 98 rfl rfl
set_option maxRecDepth 100000 in
theorem fl_X2_23 : Cond.fieldLink RX2 23 RX2 "bond" "LHostageRound$Row;" ∈ WT := mWT 99 rfl rfl
set_option maxRecDepth 100000 in
theorem fl_X4_67 : Cond.fieldLink RX4 67 RX2 "bond" "LHostageRound$Row;" ∈ WT := mWT 100 rfl rfl
set_option maxRecDepth 100000 in
theorem fl_X6_135 : Cond.fieldLink RX6 135 RX2 "bond" "LHostageRound$Row;" ∈ WT := mWT 101 rfl rfl
set_option maxRecDepth 100000 in
theorem fl_X2_26 : Cond.fieldLink RX2 26 RX2 "went" "LHostageRound$Row;" ∈ WT := mWT 102 rfl rfl
set_option maxRecDepth 100000 in
theorem fl_X5_15 : Cond.fieldLink RX5 15 RX2 "went" "LHostageRound$Row;" ∈ WT := mWT 103 rfl rfl
set_option maxRecDepth 100000 in
theorem fl_X6_138 : Cond.fieldLink RX6 138 RX2 "went" "LHostageRound$Row;" ∈ WT := mWT 104 rfl rfl
set_option maxRecDepth 100000 in
theorem fl_X2_29 : Cond.fieldLink RX2 29 RX2 "coughs" "LHostageRound$Row;" ∈ WT := mWT 105 rfl rfl
set_option maxRecDepth 100000 in
theorem fl_X0_59 : Cond.fieldLink RX0 59 RX2 "coughs" "LHostageRound$Row;" ∈ WT := mWT 106 rfl rfl
set_option maxRecDepth 100000 in
theorem fl_X6_86 : Cond.fieldLink RX6 86 RX2 "coughs" "LHostageRound$Row;" ∈ WT := mWT 107 rfl rfl
set_option maxRecDepth 100000 in
theorem fl_X2_32 : Cond.fieldLink RX2 32 RX2 "cold" "LHostageRound$Row;" ∈ WT := mWT 108 rfl rfl
set_option maxRecDepth 100000 in
theorem fl_X6_83 : Cond.fieldLink RX6 83 RX2 "cold" "LHostageRound$Row;" ∈ WT := mWT 109 rfl rfl
set_option maxRecDepth 100000 in
theorem fl_X2_35 : Cond.fieldLink RX2 35 RX2 "sightName" "LHostageRound$Row;" ∈ WT := mWT 110 rfl rfl
set_option maxRecDepth 100000 in
theorem fl_X0_69 : Cond.fieldLink RX0 69 RX2 "sightName" "LHostageRound$Row;" ∈ WT := mWT 111 rfl rfl
set_option maxRecDepth 100000 in
theorem fl_X6_187 : Cond.fieldLink RX6 187 RX2 "sightName" "LHostageRound$Row;" ∈ WT := mWT 112 rfl rfl
set_option maxRecDepth 100000 in
theorem fl_X2_38 : Cond.fieldLink RX2 38 RX2 "sightCoughed" "LHostageRound$Row;" ∈ WT := mWT 113 rfl rfl
set_option maxRecDepth 100000 in
theorem fl_X0_72 : Cond.fieldLink RX0 72 RX2 "sightCoughed" "LHostageRound$Row;" ∈ WT := mWT 114 rfl rfl
set_option maxRecDepth 100000 in
theorem fl_X6_190 : Cond.fieldLink RX6 190 RX2 "sightCoughed" "LHostageRound$Row;" ∈ WT := mWT 115 rfl rfl
set_option maxRecDepth 100000 in
theorem cl_X6_25 : Cond.classLink RX6 25 RX3 ∈ WT := mWT 147 rfl rfl
set_option maxRecDepth 100000 in
theorem ml_X6_27 : Cond.methodLink RX6 27 yX3_init ∈ WT := mWT 148 rfl rfl
set_option maxRecDepth 100000 in
theorem cl_X6_34 : Cond.classLink RX6 34 RX1 ∈ WT := mWT 149 rfl rfl
set_option maxRecDepth 100000 in
theorem isb_X1 : Cond.instantiable RX1 2 ∈ WT := mWT 150 rfl rfl
set_option maxRecDepth 100000 in
theorem im_X1_init : Cond.instanceMethod yX1_init ∈ WT := mWT 152 rfl rfl
set_option maxRecDepth 100000 in
theorem cd_X1_init : Cond.code yX1_init cX1_init 1 none ∈ WT := mWT 153 rfl rfl
set_option maxRecDepth 100000 in
theorem ml_X1_3 : Cond.methodLink RX1 3 objectInit ∈ WT := mWT 154 rfl rfl
set_option maxRecDepth 100000 in
theorem cl_X1_9 : Cond.classLink RX1 9 RX3 ∈ WT := mWT 155 rfl rfl
set_option maxRecDepth 100000 in
theorem ml_X1_11 : Cond.methodLink RX1 11 yX3_init ∈ WT := mWT 156 rfl rfl
set_option maxRecDepth 100000 in
theorem fl_X1_14 : Cond.fieldLink RX1 14 RX1 "text" "LHostageRound$Row;" ∈ WT := mWT 157 rfl rfl
set_option maxRecDepth 100000 in
theorem fl_X5_39 : Cond.fieldLink RX5 39 RX1 "text" "LHostageRound$Row;" ∈ WT := mWT 158 rfl rfl
set_option maxRecDepth 100000 in
theorem fl_X1_20 : Cond.fieldLink RX1 20 RX1 "signs" "I" ∈ WT := mWT 159 rfl rfl
set_option maxRecDepth 100000 in
theorem fl_X5_34 : Cond.fieldLink RX5 34 RX1 "signs" "I" ∈ WT := mWT 160 rfl rfl
set_option maxRecDepth 100000 in
theorem fl_X6_97 : Cond.fieldLink RX6 97 RX1 "signs" "I" ∈ WT := mWT 161 rfl rfl
set_option maxRecDepth 100000 in
theorem cl_X6_41 : Cond.classLink RX6 41 RX5 ∈ WT := mWT 167 rfl rfl
set_option maxRecDepth 100000 in
theorem isb_X5 : Cond.instantiable RX5 2 ∈ WT := mWT 168 rfl rfl
set_option maxRecDepth 100000 in
theorem im_X5_init : Cond.instanceMethod yX5_init ∈ WT := mWT 170 rfl rfl
set_option maxRecDepth 100000 in
theorem cd_X5_init : Cond.code yX5_init cX5_init 1 none ∈ WT := mWT 171 rfl rfl
set_option maxRecDepth 100000 in
theorem ml_X5_3 : Cond.methodLink RX5 3 objectInit ∈ WT := mWT 172 rfl rfl
set_option maxRecDepth 100000 in
theorem fl_X5_25 : Cond.fieldLink RX5 25 RX5 "acts" "I" ∈ WT := mWT 173 rfl rfl
set_option maxRecDepth 100000 in
theorem fl_X6_114 : Cond.fieldLink RX6 114 RX5 "acts" "I" ∈ WT := mWT 174 rfl rfl
set_option maxRecDepth 100000 in
theorem fl_X5_31 : Cond.fieldLink RX5 31 RX5 "why" "I" ∈ WT := mWT 175 rfl rfl
set_option maxRecDepth 100000 in
theorem fl_X6_117 : Cond.fieldLink RX6 117 RX5 "why" "I" ∈ WT := mWT 176 rfl rfl
set_option maxRecDepth 100000 in
theorem cl_X6_48 : Cond.classLink RX6 48 RX0 ∈ WT := mWT 182 rfl rfl
set_option maxRecDepth 100000 in
theorem isb_X0 : Cond.instantiable RX0 7 ∈ WT := mWT 183 rfl rfl
set_option maxRecDepth 100000 in
theorem im_X0_init : Cond.instanceMethod yX0_init ∈ WT := mWT 185 rfl rfl
set_option maxRecDepth 100000 in
theorem cd_X0_init : Cond.code yX0_init cX0_init 1 none ∈ WT := mWT 186 rfl rfl
set_option maxRecDepth 100000 in
theorem ml_X0_3 : Cond.methodLink RX0 3 objectInit ∈ WT := mWT 187 rfl rfl
set_option maxRecDepth 100000 in
theorem cl_X0_9 : Cond.classLink RX0 9 RX3 ∈ WT := mWT 188 rfl rfl
set_option maxRecDepth 100000 in
theorem ml_X0_11 : Cond.methodLink RX0 11 yX3_init ∈ WT := mWT 189 rfl rfl
set_option maxRecDepth 100000 in
theorem fl_X0_14 : Cond.fieldLink RX0 14 RX0 "wants" "LHostageRound$Row;" ∈ WT := mWT 190 rfl rfl
set_option maxRecDepth 100000 in
theorem fl_X0_20 : Cond.fieldLink RX0 20 RX0 "openNames" "I" ∈ WT := mWT 191 rfl rfl
set_option maxRecDepth 100000 in
theorem fl_X0_24 : Cond.fieldLink RX0 24 RX0 "coughing" "I" ∈ WT := mWT 192 rfl rfl
set_option maxRecDepth 100000 in
theorem fl_X0_27 : Cond.fieldLink RX0 27 RX0 "quiet" "I" ∈ WT := mWT 193 rfl rfl
set_option maxRecDepth 100000 in
theorem fl_X0_30 : Cond.fieldLink RX0 30 RX0 "wantCough" "I" ∈ WT := mWT 194 rfl rfl
set_option maxRecDepth 100000 in
theorem fl_X0_33 : Cond.fieldLink RX0 33 RX0 "wantQuiet" "I" ∈ WT := mWT 195 rfl rfl
set_option maxRecDepth 100000 in
theorem fl_X0_36 : Cond.fieldLink RX0 36 RX0 "nothingFits" "Z" ∈ WT := mWT 196 rfl rfl
set_option maxRecDepth 100000 in
theorem cl_X6_55 : Cond.classLink RX6 55 RX4 ∈ WT := mWT 212 rfl rfl
set_option maxRecDepth 100000 in
theorem isb_X4 : Cond.instantiable RX4 2 ∈ WT := mWT 213 rfl rfl
set_option maxRecDepth 100000 in
theorem im_X4_init : Cond.instanceMethod yX4_init ∈ WT := mWT 215 rfl rfl
set_option maxRecDepth 100000 in
theorem cd_X4_init : Cond.code yX4_init cX4_init 1 none ∈ WT := mWT 216 rfl rfl
set_option maxRecDepth 100000 in
theorem ml_X4_3 : Cond.methodLink RX4 3 objectInit ∈ WT := mWT 217 rfl rfl
set_option maxRecDepth 100000 in
theorem cl_X4_9 : Cond.classLink RX4 9 RX3 ∈ WT := mWT 218 rfl rfl
set_option maxRecDepth 100000 in
theorem ml_X4_11 : Cond.methodLink RX4 11 yX3_init ∈ WT := mWT 219 rfl rfl
set_option maxRecDepth 100000 in
theorem fl_X4_14 : Cond.fieldLink RX4 14 RX4 "mates" "LHostageRound$Row;" ∈ WT := mWT 220 rfl rfl
set_option maxRecDepth 100000 in
theorem fl_X4_20 : Cond.fieldLink RX4 20 RX4 "twosOf" "LHostageRound$Row;" ∈ WT := mWT 221 rfl rfl
set_option maxRecDepth 100000 in
theorem ml_X6_66 : Cond.methodLink RX6 66 yX2_startAnew ∈ WT := mWT 227 rfl rfl
set_option maxRecDepth 100000 in
theorem im_X2_startAnew : Cond.instanceMethod yX2_startAnew ∈ WT := mWT 228 rfl rfl
set_option maxRecDepth 100000 in
theorem se_X2_startAnew : Cond.selects RX2 yX2_startAnew yX2_startAnew ∈ WT := mWT 229 rfl rfl
set_option maxRecDepth 100000 in
theorem cd_X2_startAnew : Cond.code yX2_startAnew cX2_startAnew 3 none ∈ WT := mWT 230 rfl rfl
set_option maxRecDepth 100000 in
theorem ml_X2_60 : Cond.methodLink RX2 60 yX3_fill ∈ WT := mWT 231 rfl rfl
set_option maxRecDepth 100000 in
theorem im_X3_fill : Cond.instanceMethod yX3_fill ∈ WT := mWT 232 rfl rfl
set_option maxRecDepth 100000 in
theorem se_X3_fill : Cond.selects RX3 yX3_fill yX3_fill ∈ WT := mWT 233 rfl rfl
set_option maxRecDepth 100000 in
theorem cd_X3_fill : Cond.code yX3_fill cX3_fill 3 none ∈ WT := mWT 234 rfl rfl
set_option maxRecDepth 100000 in
theorem ml_X2_63 : Cond.methodLink RX2 63 yX3_put ∈ WT := mWT 235 rfl rfl
set_option maxRecDepth 100000 in
theorem im_X3_put : Cond.instanceMethod yX3_put ∈ WT := mWT 236 rfl rfl
set_option maxRecDepth 100000 in
theorem se_X3_put : Cond.selects RX3 yX3_put yX3_put ∈ WT := mWT 237 rfl rfl
set_option maxRecDepth 100000 in
theorem cd_X3_put : Cond.code yX3_put cX3_put 3 none ∈ WT := mWT 238 rfl rfl
set_option maxRecDepth 100000 in
theorem fl_X6_10 : Cond.fieldLink RX6 10 RX6 "now" "LHostageRound$Round;" ∈ WT := mWT 239 rfl rfl
set_option maxRecDepth 100000 in
theorem fl_X6_16 : Cond.fieldLink RX6 16 RX6 "tried" "LHostageRound$Round;" ∈ WT := mWT 240 rfl rfl
set_option maxRecDepth 100000 in
theorem fl_X6_19 : Cond.fieldLink RX6 19 RX6 "firstImage" "LHostageRound$Round;" ∈ WT := mWT 241 rfl rfl
set_option maxRecDepth 100000 in
theorem fl_X6_22 : Cond.fieldLink RX6 22 RX6 "secondImage" "LHostageRound$Round;" ∈ WT := mWT 242 rfl rfl
set_option maxRecDepth 100000 in
theorem fl_X6_30 : Cond.fieldLink RX6 30 RX6 "kept" "LHostageRound$Row;" ∈ WT := mWT 243 rfl rfl
set_option maxRecDepth 100000 in
theorem fl_X6_37 : Cond.fieldLink RX6 37 RX6 "pad" "LHostageRound$Pad;" ∈ WT := mWT 244 rfl rfl
set_option maxRecDepth 100000 in
theorem fl_X6_44 : Cond.fieldLink RX6 44 RX6 "years" "LHostageRound$Years;" ∈ WT := mWT 245 rfl rfl
set_option maxRecDepth 100000 in
theorem fl_X6_51 : Cond.fieldLink RX6 51 RX6 "deal" "LHostageRound$Deal;" ∈ WT := mWT 246 rfl rfl
set_option maxRecDepth 100000 in
theorem fl_X6_58 : Cond.fieldLink RX6 58 RX6 "weddings" "LHostageRound$Weddings;" ∈ WT := mWT 247 rfl rfl
set_option maxRecDepth 100000 in
theorem ml_L_13 : Cond.methodLink RL 13 yX6_lands ∈ WT := mWT 267 rfl rfl
set_option maxRecDepth 100000 in
theorem im_X6_lands : Cond.instanceMethod yX6_lands ∈ WT := mWT 268 rfl rfl
set_option maxRecDepth 100000 in
theorem se_X6_lands : Cond.selects RX6 yX6_lands yX6_lands ∈ WT := mWT 269 rfl rfl
set_option maxRecDepth 100000 in
theorem cd_X6_lands : Cond.code yX6_lands cX6_lands 3 (some .int) ∈ WT := mWT 270 rfl rfl
set_option maxRecDepth 100000 in
theorem ml_X6_69 : Cond.methodLink RX6 69 yX6_within ∈ WT := mWT 271 rfl rfl
set_option maxRecDepth 100000 in
theorem st_X6_within : Cond.static yX6_within ∈ WT := mWT 272 rfl rfl
set_option maxRecDepth 100000 in
theorem cd_X6_within : Cond.code yX6_within cX6_within 3 (some .boolean) ∈ WT := mWT 273 rfl rfl
set_option maxRecDepth 100000 in
theorem ml_L_18 : Cond.methodLink RL 18 yX6_season ∈ WT := mWT 274 rfl rfl
set_option maxRecDepth 100000 in
theorem im_X6_season : Cond.instanceMethod yX6_season ∈ WT := mWT 275 rfl rfl
set_option maxRecDepth 100000 in
theorem se_X6_season : Cond.selects RX6 yX6_season yX6_season ∈ WT := mWT 276 rfl rfl
set_option maxRecDepth 100000 in
theorem cd_X6_season : Cond.code yX6_season cX6_season 3 (some .int) ∈ WT := mWT 277 rfl rfl
set_option maxRecDepth 100000 in
theorem ml_L_22 : Cond.methodLink RL 22 yX6_set ∈ WT := mWT 278 rfl rfl
set_option maxRecDepth 100000 in
theorem im_X6_set : Cond.instanceMethod yX6_set ∈ WT := mWT 279 rfl rfl
set_option maxRecDepth 100000 in
theorem se_X6_set : Cond.selects RX6 yX6_set yX6_set ∈ WT := mWT 280 rfl rfl
set_option maxRecDepth 100000 in
theorem cd_X6_set : Cond.code yX6_set cX6_set 6 (some .int) ∈ WT := mWT 281 rfl rfl
set_option maxRecDepth 100000 in
theorem ml_X6_79 : Cond.methodLink RX6 79 yX2_has ∈ WT := mWT 282 rfl rfl
set_option maxRecDepth 100000 in
theorem im_X2_has : Cond.instanceMethod yX2_has ∈ WT := mWT 283 rfl rfl
set_option maxRecDepth 100000 in
theorem se_X2_has : Cond.selects RX2 yX2_has yX2_has ∈ WT := mWT 284 rfl rfl
set_option maxRecDepth 100000 in
theorem cd_X2_has : Cond.code yX2_has cX2_has 2 (some .boolean) ∈ WT := mWT 285 rfl rfl
set_option maxRecDepth 100000 in
theorem ml_X6_89 : Cond.methodLink RX6 89 yX3_get ∈ WT := mWT 286 rfl rfl
set_option maxRecDepth 100000 in
theorem im_X3_get : Cond.instanceMethod yX3_get ∈ WT := mWT 287 rfl rfl
set_option maxRecDepth 100000 in
theorem se_X3_get : Cond.selects RX3 yX3_get yX3_get ∈ WT := mWT 288 rfl rfl
set_option maxRecDepth 100000 in
theorem cd_X3_get : Cond.code yX3_get cX3_get 2 (some .int) ∈ WT := mWT 289 rfl rfl
set_option maxRecDepth 100000 in
theorem ml_X6_93 : Cond.methodLink RX6 93 yX3_put ∈ WT := mWT 290 rfl rfl
set_option maxRecDepth 100000 in
theorem ml_L_27 : Cond.methodLink RL 27 yX6_say ∈ WT := mWT 291 rfl rfl
set_option maxRecDepth 100000 in
theorem im_X6_say : Cond.instanceMethod yX6_say ∈ WT := mWT 292 rfl rfl
set_option maxRecDepth 100000 in
theorem se_X6_say : Cond.selects RX6 yX6_say yX6_say ∈ WT := mWT 293 rfl rfl
set_option maxRecDepth 100000 in
theorem cd_X6_say : Cond.code yX6_say cX6_say 2 (some .int) ∈ WT := mWT 294 rfl rfl
set_option maxRecDepth 100000 in
theorem ml_X6_100 : Cond.methodLink RX6 100 yX1_add ∈ WT := mWT 295 rfl rfl
set_option maxRecDepth 100000 in
theorem im_X1_add : Cond.instanceMethod yX1_add ∈ WT := mWT 296 rfl rfl
set_option maxRecDepth 100000 in
theorem se_X1_add : Cond.selects RX1 yX1_add yX1_add ∈ WT := mWT 297 rfl rfl
set_option maxRecDepth 100000 in
theorem cd_X1_add : Cond.code yX1_add cX1_add 2 (some .int) ∈ WT := mWT 298 rfl rfl
set_option maxRecDepth 100000 in
theorem ml_X1_24 : Cond.methodLink RX1 24 yX3_put ∈ WT := mWT 299 rfl rfl
set_option maxRecDepth 100000 in
theorem ml_L_31 : Cond.methodLink RL 31 yX6_wipe ∈ WT := mWT 300 rfl rfl
set_option maxRecDepth 100000 in
theorem im_X6_wipe : Cond.instanceMethod yX6_wipe ∈ WT := mWT 301 rfl rfl
set_option maxRecDepth 100000 in
theorem se_X6_wipe : Cond.selects RX6 yX6_wipe yX6_wipe ∈ WT := mWT 302 rfl rfl
set_option maxRecDepth 100000 in
theorem cd_X6_wipe : Cond.code yX6_wipe cX6_wipe 1 (some .int) ∈ WT := mWT 303 rfl rfl
set_option maxRecDepth 100000 in
theorem ml_X6_103 : Cond.methodLink RX6 103 yX1_clear ∈ WT := mWT 304 rfl rfl
set_option maxRecDepth 100000 in
theorem im_X1_clear : Cond.instanceMethod yX1_clear ∈ WT := mWT 305 rfl rfl
set_option maxRecDepth 100000 in
theorem se_X1_clear : Cond.selects RX1 yX1_clear yX1_clear ∈ WT := mWT 306 rfl rfl
set_option maxRecDepth 100000 in
theorem cd_X1_clear : Cond.code yX1_clear cX1_clear 2 (some .int) ∈ WT := mWT 307 rfl rfl
set_option maxRecDepth 100000 in
theorem ml_L_36 : Cond.methodLink RL 36 yX6_fault ∈ WT := mWT 308 rfl rfl
set_option maxRecDepth 100000 in
theorem im_X6_fault : Cond.instanceMethod yX6_fault ∈ WT := mWT 309 rfl rfl
set_option maxRecDepth 100000 in
theorem se_X6_fault : Cond.selects RX6 yX6_fault yX6_fault ∈ WT := mWT 310 rfl rfl
set_option maxRecDepth 100000 in
theorem cd_X6_fault : Cond.code yX6_fault cX6_fault 1 (some .int) ∈ WT := mWT 311 rfl rfl
set_option maxRecDepth 100000 in
theorem ml_X6_107 : Cond.methodLink RX6 107 yX1_firstFault ∈ WT := mWT 312 rfl rfl
set_option maxRecDepth 100000 in
theorem im_X1_firstFault : Cond.instanceMethod yX1_firstFault ∈ WT := mWT 313 rfl rfl
set_option maxRecDepth 100000 in
theorem se_X1_firstFault : Cond.selects RX1 yX1_firstFault yX1_firstFault ∈ WT := mWT 314 rfl rfl
set_option maxRecDepth 100000 in
theorem cd_X1_firstFault : Cond.code yX1_firstFault cX1_firstFault 4 (some .int) ∈ WT := mWT 315 rfl rfl
set_option maxRecDepth 100000 in
theorem ml_X1_28 : Cond.methodLink RX1 28 yX3_get ∈ WT := mWT 316 rfl rfl
set_option maxRecDepth 100000 in
theorem ml_X1_32 : Cond.methodLink RX1 32 yX1_isTime ∈ WT := mWT 317 rfl rfl
set_option maxRecDepth 100000 in
theorem st_X1_isTime : Cond.static yX1_isTime ∈ WT := mWT 318 rfl rfl
set_option maxRecDepth 100000 in
theorem cd_X1_isTime : Cond.code yX1_isTime cX1_isTime 1 (some .boolean) ∈ WT := mWT 319 rfl rfl
set_option maxRecDepth 100000 in
theorem ml_X1_36 : Cond.methodLink RX1 36 yX1_isChild ∈ WT := mWT 320 rfl rfl
set_option maxRecDepth 100000 in
theorem st_X1_isChild : Cond.static yX1_isChild ∈ WT := mWT 321 rfl rfl
set_option maxRecDepth 100000 in
theorem cd_X1_isChild : Cond.code yX1_isChild cX1_isChild 2 (some .boolean) ∈ WT := mWT 322 rfl rfl
set_option maxRecDepth 100000 in
theorem ml_X1_40 : Cond.methodLink RX1 40 yX1_isFate ∈ WT := mWT 323 rfl rfl
set_option maxRecDepth 100000 in
theorem st_X1_isFate : Cond.static yX1_isFate ∈ WT := mWT 324 rfl rfl
set_option maxRecDepth 100000 in
theorem cd_X1_isFate : Cond.code yX1_isFate cX1_isFate 1 (some .boolean) ∈ WT := mWT 325 rfl rfl
set_option maxRecDepth 100000 in
theorem ml_L_40 : Cond.methodLink RL 40 yX6_judge ∈ WT := mWT 326 rfl rfl
set_option maxRecDepth 100000 in
theorem im_X6_judge : Cond.instanceMethod yX6_judge ∈ WT := mWT 327 rfl rfl
set_option maxRecDepth 100000 in
theorem se_X6_judge : Cond.selects RX6 yX6_judge yX6_judge ∈ WT := mWT 328 rfl rfl
set_option maxRecDepth 100000 in
theorem cd_X6_judge : Cond.code yX6_judge cX6_judge 2 (some .int) ∈ WT := mWT 329 rfl rfl
set_option maxRecDepth 100000 in
theorem ml_X6_110 : Cond.methodLink RX6 110 yX5_canBe ∈ WT := mWT 330 rfl rfl
set_option maxRecDepth 100000 in
theorem im_X5_canBe : Cond.instanceMethod yX5_canBe ∈ WT := mWT 331 rfl rfl
set_option maxRecDepth 100000 in
theorem se_X5_canBe : Cond.selects RX5 yX5_canBe yX5_canBe ∈ WT := mWT 332 rfl rfl
set_option maxRecDepth 100000 in
theorem cd_X5_canBe : Cond.code yX5_canBe cX5_canBe 6 (some .boolean) ∈ WT := mWT 333 rfl rfl
set_option maxRecDepth 100000 in
theorem ml_X5_9 : Cond.methodLink RX5 9 yX2_takeOver ∈ WT := mWT 334 rfl rfl
set_option maxRecDepth 100000 in
theorem im_X2_takeOver : Cond.instanceMethod yX2_takeOver ∈ WT := mWT 335 rfl rfl
set_option maxRecDepth 100000 in
theorem se_X2_takeOver : Cond.selects RX2 yX2_takeOver yX2_takeOver ∈ WT := mWT 336 rfl rfl
set_option maxRecDepth 100000 in
theorem cd_X2_takeOver : Cond.code yX2_takeOver cX2_takeOver 2 none ∈ WT := mWT 337 rfl rfl
set_option maxRecDepth 100000 in
theorem ml_X2_70 : Cond.methodLink RX2 70 yX3_takeOver ∈ WT := mWT 338 rfl rfl
set_option maxRecDepth 100000 in
theorem im_X3_takeOver : Cond.instanceMethod yX3_takeOver ∈ WT := mWT 339 rfl rfl
set_option maxRecDepth 100000 in
theorem se_X3_takeOver : Cond.selects RX3 yX3_takeOver yX3_takeOver ∈ WT := mWT 340 rfl rfl
set_option maxRecDepth 100000 in
theorem cd_X3_takeOver : Cond.code yX3_takeOver cX3_takeOver 3 none ∈ WT := mWT 341 rfl rfl
set_option maxRecDepth 100000 in
theorem ml_X3_13 : Cond.methodLink RX3 13 yX3_get ∈ WT := mWT 342 rfl rfl
set_option maxRecDepth 100000 in
theorem ml_X5_19 : Cond.methodLink RX5 19 yX3_fill ∈ WT := mWT 343 rfl rfl
set_option maxRecDepth 100000 in
theorem ml_X5_42 : Cond.methodLink RX5 42 yX3_get ∈ WT := mWT 344 rfl rfl
set_option maxRecDepth 100000 in
theorem ml_X5_46 : Cond.methodLink RX5 46 yX1_isTime ∈ WT := mWT 345 rfl rfl
set_option maxRecDepth 100000 in
theorem ml_X5_50 : Cond.methodLink RX5 50 yX5_passTime ∈ WT := mWT 346 rfl rfl
set_option maxRecDepth 100000 in
theorem st_X5_passTime : Cond.static yX5_passTime ∈ WT := mWT 347 rfl rfl
set_option maxRecDepth 100000 in
theorem cd_X5_passTime : Cond.code yX5_passTime cX5_passTime 2 none ∈ WT := mWT 348 rfl rfl
set_option maxRecDepth 100000 in
theorem ml_X5_58 : Cond.methodLink RX5 58 yX2_passDays ∈ WT := mWT 349 rfl rfl
set_option maxRecDepth 100000 in
theorem im_X2_passDays : Cond.instanceMethod yX2_passDays ∈ WT := mWT 350 rfl rfl
set_option maxRecDepth 100000 in
theorem se_X2_passDays : Cond.selects RX2 yX2_passDays yX2_passDays ∈ WT := mWT 351 rfl rfl
set_option maxRecDepth 100000 in
theorem cd_X2_passDays : Cond.code yX2_passDays cX2_passDays 3 none ∈ WT := mWT 352 rfl rfl
set_option maxRecDepth 100000 in
theorem ml_X2_88 : Cond.methodLink RX2 88 yX2_passEquinox ∈ WT := mWT 353 rfl rfl
set_option maxRecDepth 100000 in
theorem im_X2_passEquinox : Cond.instanceMethod yX2_passEquinox ∈ WT := mWT 355 rfl rfl
set_option maxRecDepth 100000 in
theorem cd_X2_passEquinox : Cond.code yX2_passEquinox cX2_passEquinox 2 none ∈ WT := mWT 356 rfl rfl
set_option maxRecDepth 100000 in
theorem ml_X2_78 : Cond.methodLink RX2 78 yX3_get ∈ WT := mWT 357 rfl rfl
set_option maxRecDepth 100000 in
theorem ml_X2_82 : Cond.methodLink RX2 82 yX2_lives ∈ WT := mWT 358 rfl rfl
set_option maxRecDepth 100000 in
theorem im_X2_lives : Cond.instanceMethod yX2_lives ∈ WT := mWT 359 rfl rfl
set_option maxRecDepth 100000 in
theorem se_X2_lives : Cond.selects RX2 yX2_lives yX2_lives ∈ WT := mWT 360 rfl rfl
set_option maxRecDepth 100000 in
theorem cd_X2_lives : Cond.code yX2_lives cX2_lives 2 (some .boolean) ∈ WT := mWT 361 rfl rfl
set_option maxRecDepth 100000 in
theorem st_X6_leftOver : Cond.static yX6_leftOver ∈ WT := mWT 363 rfl rfl
set_option maxRecDepth 100000 in
theorem cd_X6_leftOver : Cond.code yX6_leftOver cX6_leftOver 3 (some .int) ∈ WT := mWT 364 rfl rfl
set_option maxRecDepth 100000 in
theorem ml_X5_61 : Cond.methodLink RX5 61 yX2_passSeason ∈ WT := mWT 365 rfl rfl
set_option maxRecDepth 100000 in
theorem im_X2_passSeason : Cond.instanceMethod yX2_passSeason ∈ WT := mWT 366 rfl rfl
set_option maxRecDepth 100000 in
theorem se_X2_passSeason : Cond.selects RX2 yX2_passSeason yX2_passSeason ∈ WT := mWT 367 rfl rfl
set_option maxRecDepth 100000 in
theorem cd_X2_passSeason : Cond.code yX2_passSeason cX2_passSeason 1 none ∈ WT := mWT 368 rfl rfl
set_option maxRecDepth 100000 in
theorem ml_X5_54 : Cond.methodLink RX5 54 yX5_befall ∈ WT := mWT 369 rfl rfl
set_option maxRecDepth 100000 in
theorem st_X5_befall : Cond.static yX5_befall ∈ WT := mWT 370 rfl rfl
set_option maxRecDepth 100000 in
theorem cd_X5_befall : Cond.code yX5_befall cX5_befall 3 (some .int) ∈ WT := mWT 371 rfl rfl
set_option maxRecDepth 100000 in
theorem ml_X5_64 : Cond.methodLink RX5 64 yX2_die ∈ WT := mWT 372 rfl rfl
set_option maxRecDepth 100000 in
theorem im_X2_die : Cond.instanceMethod yX2_die ∈ WT := mWT 373 rfl rfl
set_option maxRecDepth 100000 in
theorem se_X2_die : Cond.selects RX2 yX2_die yX2_die ∈ WT := mWT 374 rfl rfl
set_option maxRecDepth 100000 in
theorem cd_X2_die : Cond.code yX2_die cX2_die 2 (some .int) ∈ WT := mWT 375 rfl rfl
set_option maxRecDepth 100000 in
theorem ml_X5_67 : Cond.methodLink RX5 67 yX2_bind ∈ WT := mWT 376 rfl rfl
set_option maxRecDepth 100000 in
theorem im_X2_bind : Cond.instanceMethod yX2_bind ∈ WT := mWT 377 rfl rfl
set_option maxRecDepth 100000 in
theorem se_X2_bind : Cond.selects RX2 yX2_bind yX2_bind ∈ WT := mWT 378 rfl rfl
set_option maxRecDepth 100000 in
theorem cd_X2_bind : Cond.code yX2_bind cX2_bind 3 (some .int) ∈ WT := mWT 379 rfl rfl
set_option maxRecDepth 100000 in
theorem ml_X5_71 : Cond.methodLink RX5 71 yX2_changeHats ∈ WT := mWT 380 rfl rfl
set_option maxRecDepth 100000 in
theorem im_X2_changeHats : Cond.instanceMethod yX2_changeHats ∈ WT := mWT 381 rfl rfl
set_option maxRecDepth 100000 in
theorem se_X2_changeHats : Cond.selects RX2 yX2_changeHats yX2_changeHats ∈ WT := mWT 382 rfl rfl
set_option maxRecDepth 100000 in
theorem cd_X2_changeHats : Cond.code yX2_changeHats cX2_changeHats 3 (some .int) ∈ WT := mWT 383 rfl rfl
set_option maxRecDepth 100000 in
theorem ml_X2_85 : Cond.methodLink RX2 85 yX2_swapNames ∈ WT := mWT 384 rfl rfl
set_option maxRecDepth 100000 in
theorem im_X2_swapNames : Cond.instanceMethod yX2_swapNames ∈ WT := mWT 385 rfl rfl
set_option maxRecDepth 100000 in
theorem se_X2_swapNames : Cond.selects RX2 yX2_swapNames yX2_swapNames ∈ WT := mWT 386 rfl rfl
set_option maxRecDepth 100000 in
theorem cd_X2_swapNames : Cond.code yX2_swapNames cX2_swapNames 4 none ∈ WT := mWT 387 rfl rfl
set_option maxRecDepth 100000 in
theorem ml_L_44 : Cond.methodLink RL 44 yX6_done ∈ WT := mWT 388 rfl rfl
set_option maxRecDepth 100000 in
theorem im_X6_done : Cond.instanceMethod yX6_done ∈ WT := mWT 389 rfl rfl
set_option maxRecDepth 100000 in
theorem se_X6_done : Cond.selects RX6 yX6_done yX6_done ∈ WT := mWT 390 rfl rfl
set_option maxRecDepth 100000 in
theorem cd_X6_done : Cond.code yX6_done cX6_done 1 (some .int) ∈ WT := mWT 391 rfl rfl
set_option maxRecDepth 100000 in
theorem ml_X6_120 : Cond.methodLink RX6 120 yX6_yearsCanBe ∈ WT := mWT 392 rfl rfl
set_option maxRecDepth 100000 in
theorem im_X6_yearsCanBe : Cond.instanceMethod yX6_yearsCanBe ∈ WT := mWT 394 rfl rfl
set_option maxRecDepth 100000 in
theorem cd_X6_yearsCanBe : Cond.code yX6_yearsCanBe cX6_yearsCanBe 1 (some .boolean) ∈ WT := mWT 395 rfl rfl
set_option maxRecDepth 100000 in
theorem ml_X6_124 : Cond.methodLink RX6 124 yX2_takeOver ∈ WT := mWT 396 rfl rfl
set_option maxRecDepth 100000 in
theorem ml_L_48 : Cond.methodLink RL 48 yX6_state ∈ WT := mWT 397 rfl rfl
set_option maxRecDepth 100000 in
theorem im_X6_state : Cond.instanceMethod yX6_state ∈ WT := mWT 398 rfl rfl
set_option maxRecDepth 100000 in
theorem se_X6_state : Cond.selects RX6 yX6_state yX6_state ∈ WT := mWT 399 rfl rfl
set_option maxRecDepth 100000 in
theorem cd_X6_state : Cond.code yX6_state cX6_state 3 (some .int) ∈ WT := mWT 400 rfl rfl
set_option maxRecDepth 100000 in
theorem ml_X6_128 : Cond.methodLink RX6 128 yX2_landAfter ∈ WT := mWT 401 rfl rfl
set_option maxRecDepth 100000 in
theorem im_X2_landAfter : Cond.instanceMethod yX2_landAfter ∈ WT := mWT 402 rfl rfl
set_option maxRecDepth 100000 in
theorem se_X2_landAfter : Cond.selects RX2 yX2_landAfter yX2_landAfter ∈ WT := mWT 403 rfl rfl
set_option maxRecDepth 100000 in
theorem cd_X2_landAfter : Cond.code yX2_landAfter cX2_landAfter 4 (some .int) ∈ WT := mWT 404 rfl rfl
set_option maxRecDepth 100000 in
theorem ml_X2_95 : Cond.methodLink RX2 95 yJ9_max_7cf53 ∈ WT := mWT 405 rfl rfl
set_option maxRecDepth 100000 in
theorem st_J9_max_7cf53 : Cond.static yJ9_max_7cf53 ∈ WT := mWT 406 rfl rfl
set_option maxRecDepth 100000 in
theorem cd_J9_max_7cf53 : Cond.code yJ9_max_7cf53 cJ9_max_7cf53 2 (some .int) ∈ WT := mWT 407 rfl rfl
set_option maxRecDepth 100000 in
theorem ml_L_53 : Cond.methodLink RL 53 yX6_behind ∈ WT := mWT 408 rfl rfl
set_option maxRecDepth 100000 in
theorem im_X6_behind : Cond.instanceMethod yX6_behind ∈ WT := mWT 409 rfl rfl
set_option maxRecDepth 100000 in
theorem se_X6_behind : Cond.selects RX6 yX6_behind yX6_behind ∈ WT := mWT 410 rfl rfl
set_option maxRecDepth 100000 in
theorem cd_X6_behind : Cond.code yX6_behind cX6_behind 3 (some .int) ∈ WT := mWT 411 rfl rfl
set_option maxRecDepth 100000 in
theorem ml_L_57 : Cond.methodLink RL 57 yX6_day ∈ WT := mWT 412 rfl rfl
set_option maxRecDepth 100000 in
theorem im_X6_day : Cond.instanceMethod yX6_day ∈ WT := mWT 413 rfl rfl
set_option maxRecDepth 100000 in
theorem se_X6_day : Cond.selects RX6 yX6_day yX6_day ∈ WT := mWT 414 rfl rfl
set_option maxRecDepth 100000 in
theorem cd_X6_day : Cond.code yX6_day cX6_day 1 (some .int) ∈ WT := mWT 415 rfl rfl
set_option maxRecDepth 100000 in
theorem ml_L_61 : Cond.methodLink RL 61 yX6_where ∈ WT := mWT 416 rfl rfl
set_option maxRecDepth 100000 in
theorem im_X6_where : Cond.instanceMethod yX6_where ∈ WT := mWT 417 rfl rfl
set_option maxRecDepth 100000 in
theorem se_X6_where : Cond.selects RX6 yX6_where yX6_where ∈ WT := mWT 418 rfl rfl
set_option maxRecDepth 100000 in
theorem cd_X6_where : Cond.code yX6_where cX6_where 3 (some .int) ∈ WT := mWT 419 rfl rfl
set_option maxRecDepth 100000 in
theorem ml_X6_144 : Cond.methodLink RX6 144 yX2_equinoxesTill ∈ WT := mWT 420 rfl rfl
set_option maxRecDepth 100000 in
theorem im_X2_equinoxesTill : Cond.instanceMethod yX2_equinoxesTill ∈ WT := mWT 421 rfl rfl
set_option maxRecDepth 100000 in
theorem se_X2_equinoxesTill : Cond.selects RX2 yX2_equinoxesTill yX2_equinoxesTill ∈ WT := mWT 422 rfl rfl
set_option maxRecDepth 100000 in
theorem cd_X2_equinoxesTill : Cond.code yX2_equinoxesTill cX2_equinoxesTill 2 (some .int) ∈ WT := mWT 423 rfl rfl
set_option maxRecDepth 100000 in
theorem st_X6_cut : Cond.static yX6_cut ∈ WT := mWT 425 rfl rfl
set_option maxRecDepth 100000 in
theorem cd_X6_cut : Cond.code yX6_cut cX6_cut 2 (some .int) ∈ WT := mWT 426 rfl rfl
set_option maxRecDepth 100000 in
theorem ml_L_65 : Cond.methodLink RL 65 yX6_who ∈ WT := mWT 427 rfl rfl
set_option maxRecDepth 100000 in
theorem im_X6_who : Cond.instanceMethod yX6_who ∈ WT := mWT 428 rfl rfl
set_option maxRecDepth 100000 in
theorem se_X6_who : Cond.selects RX6 yX6_who yX6_who ∈ WT := mWT 429 rfl rfl
set_option maxRecDepth 100000 in
theorem cd_X6_who : Cond.code yX6_who cX6_who 3 (some .int) ∈ WT := mWT 430 rfl rfl
set_option maxRecDepth 100000 in
theorem ml_X6_147 : Cond.methodLink RX6 147 yX2_guestsAfter ∈ WT := mWT 431 rfl rfl
set_option maxRecDepth 100000 in
theorem im_X2_guestsAfter : Cond.instanceMethod yX2_guestsAfter ∈ WT := mWT 432 rfl rfl
set_option maxRecDepth 100000 in
theorem se_X2_guestsAfter : Cond.selects RX2 yX2_guestsAfter yX2_guestsAfter ∈ WT := mWT 433 rfl rfl
set_option maxRecDepth 100000 in
theorem cd_X2_guestsAfter : Cond.code yX2_guestsAfter cX2_guestsAfter 5 (some .int) ∈ WT := mWT 434 rfl rfl
set_option maxRecDepth 100000 in
theorem ml_X2_100 : Cond.methodLink RX2 100 yX2_landAfter ∈ WT := mWT 435 rfl rfl
set_option maxRecDepth 100000 in
theorem ml_L_69 : Cond.methodLink RL 69 yX6_meet ∈ WT := mWT 436 rfl rfl
set_option maxRecDepth 100000 in
theorem im_X6_meet : Cond.instanceMethod yX6_meet ∈ WT := mWT 437 rfl rfl
set_option maxRecDepth 100000 in
theorem se_X6_meet : Cond.selects RX6 yX6_meet yX6_meet ∈ WT := mWT 438 rfl rfl
set_option maxRecDepth 100000 in
theorem cd_X6_meet : Cond.code yX6_meet cX6_meet 4 (some .int) ∈ WT := mWT 439 rfl rfl
set_option maxRecDepth 100000 in
theorem ml_X6_150 : Cond.methodLink RX6 150 yX2_hasBoth ∈ WT := mWT 440 rfl rfl
set_option maxRecDepth 100000 in
theorem im_X2_hasBoth : Cond.instanceMethod yX2_hasBoth ∈ WT := mWT 441 rfl rfl
set_option maxRecDepth 100000 in
theorem se_X2_hasBoth : Cond.selects RX2 yX2_hasBoth yX2_hasBoth ∈ WT := mWT 442 rfl rfl
set_option maxRecDepth 100000 in
theorem cd_X2_hasBoth : Cond.code yX2_hasBoth cX2_hasBoth 3 (some .boolean) ∈ WT := mWT 443 rfl rfl
set_option maxRecDepth 100000 in
theorem ml_X2_74 : Cond.methodLink RX2 74 yX2_has ∈ WT := mWT 444 rfl rfl
set_option maxRecDepth 100000 in
theorem ml_X6_154 : Cond.methodLink RX6 154 yX2_shareALand ∈ WT := mWT 445 rfl rfl
set_option maxRecDepth 100000 in
theorem im_X2_shareALand : Cond.instanceMethod yX2_shareALand ∈ WT := mWT 446 rfl rfl
set_option maxRecDepth 100000 in
theorem se_X2_shareALand : Cond.selects RX2 yX2_shareALand yX2_shareALand ∈ WT := mWT 447 rfl rfl
set_option maxRecDepth 100000 in
theorem cd_X2_shareALand : Cond.code yX2_shareALand cX2_shareALand 5 (some .boolean) ∈ WT := mWT 448 rfl rfl
set_option maxRecDepth 100000 in
theorem ml_X6_157 : Cond.methodLink RX6 157 yX2_firstDayAfter ∈ WT := mWT 449 rfl rfl
set_option maxRecDepth 100000 in
theorem im_X2_firstDayAfter : Cond.instanceMethod yX2_firstDayAfter ∈ WT := mWT 450 rfl rfl
set_option maxRecDepth 100000 in
theorem se_X2_firstDayAfter : Cond.selects RX2 yX2_firstDayAfter yX2_firstDayAfter ∈ WT := mWT 451 rfl rfl
set_option maxRecDepth 100000 in
theorem cd_X2_firstDayAfter : Cond.code yX2_firstDayAfter cX2_firstDayAfter 2 (some .int) ∈ WT := mWT 452 rfl rfl
set_option maxRecDepth 100000 in
theorem ml_L_73 : Cond.methodLink RL 73 yX6_together ∈ WT := mWT 453 rfl rfl
set_option maxRecDepth 100000 in
theorem im_X6_together : Cond.instanceMethod yX6_together ∈ WT := mWT 454 rfl rfl
set_option maxRecDepth 100000 in
theorem se_X6_together : Cond.selects RX6 yX6_together yX6_together ∈ WT := mWT 455 rfl rfl
set_option maxRecDepth 100000 in
theorem cd_X6_together : Cond.code yX6_together cX6_together 6 (some .int) ∈ WT := mWT 456 rfl rfl
set_option maxRecDepth 100000 in
theorem ml_X6_160 : Cond.methodLink RX6 160 yJ9_min_7cf53 ∈ WT := mWT 457 rfl rfl
set_option maxRecDepth 100000 in
theorem st_J9_min_7cf53 : Cond.static yJ9_min_7cf53 ∈ WT := mWT 458 rfl rfl
set_option maxRecDepth 100000 in
theorem cd_J9_min_7cf53 : Cond.code yJ9_min_7cf53 cJ9_min_7cf53 2 (some .int) ∈ WT := mWT 459 rfl rfl
set_option maxRecDepth 100000 in
theorem ml_X6_165 : Cond.methodLink RX6 165 yX2_daysLikeSeason ∈ WT := mWT 460 rfl rfl
set_option maxRecDepth 100000 in
theorem im_X2_daysLikeSeason : Cond.instanceMethod yX2_daysLikeSeason ∈ WT := mWT 461 rfl rfl
set_option maxRecDepth 100000 in
theorem se_X2_daysLikeSeason : Cond.selects RX2 yX2_daysLikeSeason yX2_daysLikeSeason ∈ WT := mWT 462 rfl rfl
set_option maxRecDepth 100000 in
theorem cd_X2_daysLikeSeason : Cond.code yX2_daysLikeSeason cX2_daysLikeSeason 6 (some .int) ∈ WT := mWT 463 rfl rfl
set_option maxRecDepth 100000 in
theorem ml_X2_106 : Cond.methodLink RX2 106 yX2_firstDayAfter ∈ WT := mWT 464 rfl rfl
set_option maxRecDepth 100000 in
theorem ml_X2_109 : Cond.methodLink RX2 109 yJ9_min_7cf53 ∈ WT := mWT 465 rfl rfl
set_option maxRecDepth 100000 in
theorem ml_L_77 : Cond.methodLink RL 77 yX6_begin ∈ WT := mWT 466 rfl rfl
set_option maxRecDepth 100000 in
theorem im_X6_begin : Cond.instanceMethod yX6_begin ∈ WT := mWT 467 rfl rfl
set_option maxRecDepth 100000 in
theorem se_X6_begin : Cond.selects RX6 yX6_begin yX6_begin ∈ WT := mWT 468 rfl rfl
set_option maxRecDepth 100000 in
theorem cd_X6_begin : Cond.code yX6_begin cX6_begin 4 (some .int) ∈ WT := mWT 469 rfl rfl
set_option maxRecDepth 100000 in
theorem ml_X6_168 : Cond.methodLink RX6 168 yX2_firstWar ∈ WT := mWT 470 rfl rfl
set_option maxRecDepth 100000 in
theorem im_X2_firstWar : Cond.instanceMethod yX2_firstWar ∈ WT := mWT 471 rfl rfl
set_option maxRecDepth 100000 in
theorem se_X2_firstWar : Cond.selects RX2 yX2_firstWar yX2_firstWar ∈ WT := mWT 472 rfl rfl
set_option maxRecDepth 100000 in
theorem cd_X2_firstWar : Cond.code yX2_firstWar cX2_firstWar 6 (some .int) ∈ WT := mWT 473 rfl rfl
set_option maxRecDepth 100000 in
theorem ml_X2_115 : Cond.methodLink RX2 115 yX2_daysAway ∈ WT := mWT 474 rfl rfl
set_option maxRecDepth 100000 in
theorem im_X2_daysAway : Cond.instanceMethod yX2_daysAway ∈ WT := mWT 475 rfl rfl
set_option maxRecDepth 100000 in
theorem se_X2_daysAway : Cond.selects RX2 yX2_daysAway yX2_daysAway ∈ WT := mWT 476 rfl rfl
set_option maxRecDepth 100000 in
theorem cd_X2_daysAway : Cond.code yX2_daysAway cX2_daysAway 6 (some .int) ∈ WT := mWT 477 rfl rfl
set_option maxRecDepth 100000 in
theorem ml_X2_112 : Cond.methodLink RX2 112 yX2_equinoxesTill ∈ WT := mWT 478 rfl rfl
set_option maxRecDepth 100000 in
theorem ml_L_81 : Cond.methodLink RL 81 yX6_longest ∈ WT := mWT 479 rfl rfl
set_option maxRecDepth 100000 in
theorem im_X6_longest : Cond.instanceMethod yX6_longest ∈ WT := mWT 480 rfl rfl
set_option maxRecDepth 100000 in
theorem se_X6_longest : Cond.selects RX6 yX6_longest yX6_longest ∈ WT := mWT 481 rfl rfl
set_option maxRecDepth 100000 in
theorem cd_X6_longest : Cond.code yX6_longest cX6_longest 4 (some .int) ∈ WT := mWT 482 rfl rfl
set_option maxRecDepth 100000 in
theorem ml_X6_172 : Cond.methodLink RX6 172 yX2_daysAway ∈ WT := mWT 483 rfl rfl
set_option maxRecDepth 100000 in
theorem ml_L_85 : Cond.methodLink RL 85 yX6_struck ∈ WT := mWT 484 rfl rfl
set_option maxRecDepth 100000 in
theorem im_X6_struck : Cond.instanceMethod yX6_struck ∈ WT := mWT 485 rfl rfl
set_option maxRecDepth 100000 in
theorem se_X6_struck : Cond.selects RX6 yX6_struck yX6_struck ∈ WT := mWT 486 rfl rfl
set_option maxRecDepth 100000 in
theorem cd_X6_struck : Cond.code yX6_struck cX6_struck 6 (some .int) ∈ WT := mWT 487 rfl rfl
set_option maxRecDepth 100000 in
theorem ml_L_89 : Cond.methodLink RL 89 yX6_sure ∈ WT := mWT 488 rfl rfl
set_option maxRecDepth 100000 in
theorem im_X6_sure : Cond.instanceMethod yX6_sure ∈ WT := mWT 489 rfl rfl
set_option maxRecDepth 100000 in
theorem se_X6_sure : Cond.selects RX6 yX6_sure yX6_sure ∈ WT := mWT 490 rfl rfl
set_option maxRecDepth 100000 in
theorem cd_X6_sure : Cond.code yX6_sure cX6_sure 6 (some .int) ∈ WT := mWT 491 rfl rfl
set_option maxRecDepth 100000 in
theorem ml_L_93 : Cond.methodLink RL 93 yX6_fooled ∈ WT := mWT 492 rfl rfl
set_option maxRecDepth 100000 in
theorem im_X6_fooled : Cond.instanceMethod yX6_fooled ∈ WT := mWT 493 rfl rfl
set_option maxRecDepth 100000 in
theorem se_X6_fooled : Cond.selects RX6 yX6_fooled yX6_fooled ∈ WT := mWT 494 rfl rfl
set_option maxRecDepth 100000 in
theorem cd_X6_fooled : Cond.code yX6_fooled cX6_fooled 8 (some .int) ∈ WT := mWT 495 rfl rfl
set_option maxRecDepth 100000 in
theorem ml_X6_175 : Cond.methodLink RX6 175 yX2_bearerOf ∈ WT := mWT 496 rfl rfl
set_option maxRecDepth 100000 in
theorem im_X2_bearerOf : Cond.instanceMethod yX2_bearerOf ∈ WT := mWT 497 rfl rfl
set_option maxRecDepth 100000 in
theorem se_X2_bearerOf : Cond.selects RX2 yX2_bearerOf yX2_bearerOf ∈ WT := mWT 498 rfl rfl
set_option maxRecDepth 100000 in
theorem cd_X2_bearerOf : Cond.code yX2_bearerOf cX2_bearerOf 3 (some .int) ∈ WT := mWT 499 rfl rfl
set_option maxRecDepth 100000 in
theorem ml_L_97 : Cond.methodLink RL 97 yX6_letter ∈ WT := mWT 500 rfl rfl
set_option maxRecDepth 100000 in
theorem im_X6_letter : Cond.instanceMethod yX6_letter ∈ WT := mWT 501 rfl rfl
set_option maxRecDepth 100000 in
theorem se_X6_letter : Cond.selects RX6 yX6_letter yX6_letter ∈ WT := mWT 502 rfl rfl
set_option maxRecDepth 100000 in
theorem cd_X6_letter : Cond.code yX6_letter cX6_letter 3 (some .int) ∈ WT := mWT 503 rfl rfl
set_option maxRecDepth 100000 in
theorem ml_X6_178 : Cond.methodLink RX6 178 yX6_leftOver ∈ WT := mWT 504 rfl rfl
set_option maxRecDepth 100000 in
theorem ml_L_101 : Cond.methodLink RL 101 yX6_copy ∈ WT := mWT 505 rfl rfl
set_option maxRecDepth 100000 in
theorem im_X6_copy : Cond.instanceMethod yX6_copy ∈ WT := mWT 506 rfl rfl
set_option maxRecDepth 100000 in
theorem se_X6_copy : Cond.selects RX6 yX6_copy yX6_copy ∈ WT := mWT 507 rfl rfl
set_option maxRecDepth 100000 in
theorem cd_X6_copy : Cond.code yX6_copy cX6_copy 5 (some .int) ∈ WT := mWT 508 rfl rfl
set_option maxRecDepth 100000 in
theorem ml_L_105 : Cond.methodLink RL 105 yX6_furs ∈ WT := mWT 509 rfl rfl
set_option maxRecDepth 100000 in
theorem im_X6_furs : Cond.instanceMethod yX6_furs ∈ WT := mWT 510 rfl rfl
set_option maxRecDepth 100000 in
theorem se_X6_furs : Cond.selects RX6 yX6_furs yX6_furs ∈ WT := mWT 511 rfl rfl
set_option maxRecDepth 100000 in
theorem cd_X6_furs : Cond.code yX6_furs cX6_furs 7 (some .int) ∈ WT := mWT 512 rfl rfl
set_option maxRecDepth 100000 in
theorem ml_X6_181 : Cond.methodLink RX6 181 yX2_fursAfter ∈ WT := mWT 513 rfl rfl
set_option maxRecDepth 100000 in
theorem im_X2_fursAfter : Cond.instanceMethod yX2_fursAfter ∈ WT := mWT 514 rfl rfl
set_option maxRecDepth 100000 in
theorem se_X2_fursAfter : Cond.selects RX2 yX2_fursAfter yX2_fursAfter ∈ WT := mWT 515 rfl rfl
set_option maxRecDepth 100000 in
theorem cd_X2_fursAfter : Cond.code yX2_fursAfter cX2_fursAfter 4 (some .int) ∈ WT := mWT 516 rfl rfl
set_option maxRecDepth 100000 in
theorem ml_L_109 : Cond.methodLink RL 109 yX6_seen ∈ WT := mWT 517 rfl rfl
set_option maxRecDepth 100000 in
theorem im_X6_seen : Cond.instanceMethod yX6_seen ∈ WT := mWT 518 rfl rfl
set_option maxRecDepth 100000 in
theorem se_X6_seen : Cond.selects RX6 yX6_seen yX6_seen ∈ WT := mWT 519 rfl rfl
set_option maxRecDepth 100000 in
theorem cd_X6_seen : Cond.code yX6_seen cX6_seen 3 (some .int) ∈ WT := mWT 520 rfl rfl
set_option maxRecDepth 100000 in
theorem ml_L_114 : Cond.methodLink RL 114 yX6_forget ∈ WT := mWT 521 rfl rfl
set_option maxRecDepth 100000 in
theorem im_X6_forget : Cond.instanceMethod yX6_forget ∈ WT := mWT 522 rfl rfl
set_option maxRecDepth 100000 in
theorem se_X6_forget : Cond.selects RX6 yX6_forget yX6_forget ∈ WT := mWT 523 rfl rfl
set_option maxRecDepth 100000 in
theorem cd_X6_forget : Cond.code yX6_forget cX6_forget 2 (some .int) ∈ WT := mWT 524 rfl rfl
set_option maxRecDepth 100000 in
theorem ml_L_118 : Cond.methodLink RL 118 yX6_changed ∈ WT := mWT 525 rfl rfl
set_option maxRecDepth 100000 in
theorem im_X6_changed : Cond.instanceMethod yX6_changed ∈ WT := mWT 526 rfl rfl
set_option maxRecDepth 100000 in
theorem se_X6_changed : Cond.selects RX6 yX6_changed yX6_changed ∈ WT := mWT 527 rfl rfl
set_option maxRecDepth 100000 in
theorem cd_X6_changed : Cond.code yX6_changed cX6_changed 2 (some .int) ∈ WT := mWT 528 rfl rfl
set_option maxRecDepth 100000 in
theorem ml_X6_193 : Cond.methodLink RX6 193 yX0_prepare ∈ WT := mWT 529 rfl rfl
set_option maxRecDepth 100000 in
theorem im_X0_prepare : Cond.instanceMethod yX0_prepare ∈ WT := mWT 530 rfl rfl
set_option maxRecDepth 100000 in
theorem se_X0_prepare : Cond.selects RX0 yX0_prepare yX0_prepare ∈ WT := mWT 531 rfl rfl
set_option maxRecDepth 100000 in
theorem cd_X0_prepare : Cond.code yX0_prepare cX0_prepare 3 none ∈ WT := mWT 532 rfl rfl
set_option maxRecDepth 100000 in
theorem ml_X0_40 : Cond.methodLink RX0 40 yX3_fill ∈ WT := mWT 533 rfl rfl
set_option maxRecDepth 100000 in
theorem ml_X0_48 : Cond.methodLink RX0 48 yX2_lives ∈ WT := mWT 534 rfl rfl
set_option maxRecDepth 100000 in
theorem ml_X0_55 : Cond.methodLink RX0 55 yX3_get ∈ WT := mWT 535 rfl rfl
set_option maxRecDepth 100000 in
theorem ml_X0_62 : Cond.methodLink RX0 62 yX0_takeBack ∈ WT := mWT 536 rfl rfl
set_option maxRecDepth 100000 in
theorem im_X0_takeBack : Cond.instanceMethod yX0_takeBack ∈ WT := mWT 538 rfl rfl
set_option maxRecDepth 100000 in
theorem cd_X0_takeBack : Cond.code yX0_takeBack cX0_takeBack 3 none ∈ WT := mWT 539 rfl rfl
set_option maxRecDepth 100000 in
theorem ml_X0_85 : Cond.methodLink RX0 85 yX0_countWant ∈ WT := mWT 540 rfl rfl
set_option maxRecDepth 100000 in
theorem im_X0_countWant : Cond.instanceMethod yX0_countWant ∈ WT := mWT 542 rfl rfl
set_option maxRecDepth 100000 in
theorem cd_X0_countWant : Cond.code yX0_countWant cX0_countWant 3 none ∈ WT := mWT 543 rfl rfl
set_option maxRecDepth 100000 in
theorem ml_X0_88 : Cond.methodLink RX0 88 yX0_countBearer ∈ WT := mWT 544 rfl rfl
set_option maxRecDepth 100000 in
theorem im_X0_countBearer : Cond.instanceMethod yX0_countBearer ∈ WT := mWT 546 rfl rfl
set_option maxRecDepth 100000 in
theorem cd_X0_countBearer : Cond.code yX0_countBearer cX0_countBearer 3 none ∈ WT := mWT 547 rfl rfl
set_option maxRecDepth 100000 in
theorem ml_X0_75 : Cond.methodLink RX0 75 yX0_heed ∈ WT := mWT 548 rfl rfl
set_option maxRecDepth 100000 in
theorem im_X0_heed : Cond.instanceMethod yX0_heed ∈ WT := mWT 550 rfl rfl
set_option maxRecDepth 100000 in
theorem cd_X0_heed : Cond.code yX0_heed cX0_heed 4 none ∈ WT := mWT 551 rfl rfl
set_option maxRecDepth 100000 in
theorem ml_X0_78 : Cond.methodLink RX0 78 yX0_isOpen ∈ WT := mWT 552 rfl rfl
set_option maxRecDepth 100000 in
theorem im_X0_isOpen : Cond.instanceMethod yX0_isOpen ∈ WT := mWT 554 rfl rfl
set_option maxRecDepth 100000 in
theorem cd_X0_isOpen : Cond.code yX0_isOpen cX0_isOpen 2 (some .boolean) ∈ WT := mWT 555 rfl rfl
set_option maxRecDepth 100000 in
theorem ml_X0_81 : Cond.methodLink RX0 81 yX3_put ∈ WT := mWT 556 rfl rfl
set_option maxRecDepth 100000 in
theorem ml_X6_196 : Cond.methodLink RX6 196 yX0_ways ∈ WT := mWT 557 rfl rfl
set_option maxRecDepth 100000 in
theorem im_X0_ways : Cond.instanceMethod yX0_ways ∈ WT := mWT 558 rfl rfl
set_option maxRecDepth 100000 in
theorem se_X0_ways : Cond.selects RX0 yX0_ways yX0_ways ∈ WT := mWT 559 rfl rfl
set_option maxRecDepth 100000 in
theorem cd_X0_ways : Cond.code yX0_ways cX0_ways 1 (some .int) ∈ WT := mWT 560 rfl rfl
set_option maxRecDepth 100000 in
theorem ml_X0_92 : Cond.methodLink RX0 92 yX0_waysIf ∈ WT := mWT 561 rfl rfl
set_option maxRecDepth 100000 in
theorem im_X0_waysIf : Cond.instanceMethod yX0_waysIf ∈ WT := mWT 563 rfl rfl
set_option maxRecDepth 100000 in
theorem cd_X0_waysIf : Cond.code yX0_waysIf cX0_waysIf 4 (some .int) ∈ WT := mWT 564 rfl rfl
set_option maxRecDepth 100000 in
theorem ml_X0_96 : Cond.methodLink RX0 96 yX0_picks ∈ WT := mWT 565 rfl rfl
set_option maxRecDepth 100000 in
theorem st_X0_picks : Cond.static yX0_picks ∈ WT := mWT 566 rfl rfl
set_option maxRecDepth 100000 in
theorem cd_X0_picks : Cond.code yX0_picks cX0_picks 4 (some .int) ∈ WT := mWT 567 rfl rfl
set_option maxRecDepth 100000 in
theorem ml_X6_199 : Cond.methodLink RX6 199 yX0_rowAt ∈ WT := mWT 568 rfl rfl
set_option maxRecDepth 100000 in
theorem im_X0_rowAt : Cond.instanceMethod yX0_rowAt ∈ WT := mWT 569 rfl rfl
set_option maxRecDepth 100000 in
theorem se_X0_rowAt : Cond.selects RX0 yX0_rowAt yX0_rowAt ∈ WT := mWT 570 rfl rfl
set_option maxRecDepth 100000 in
theorem cd_X0_rowAt : Cond.code yX0_rowAt cX0_rowAt 9 (some .int) ∈ WT := mWT 571 rfl rfl
set_option maxRecDepth 100000 in
theorem ml_X0_99 : Cond.methodLink RX0 99 yX0_waysWith ∈ WT := mWT 572 rfl rfl
set_option maxRecDepth 100000 in
theorem im_X0_waysWith : Cond.instanceMethod yX0_waysWith ∈ WT := mWT 574 rfl rfl
set_option maxRecDepth 100000 in
theorem cd_X0_waysWith : Cond.code yX0_waysWith cX0_waysWith 4 (some .int) ∈ WT := mWT 575 rfl rfl
set_option maxRecDepth 100000 in
theorem ml_X0_106 : Cond.methodLink RX0 106 yX0_suits ∈ WT := mWT 576 rfl rfl
set_option maxRecDepth 100000 in
theorem im_X0_suits : Cond.instanceMethod yX0_suits ∈ WT := mWT 578 rfl rfl
set_option maxRecDepth 100000 in
theorem cd_X0_suits : Cond.code yX0_suits cX0_suits 3 (some .boolean) ∈ WT := mWT 579 rfl rfl
set_option maxRecDepth 100000 in
theorem ml_X0_103 : Cond.methodLink RX0 103 yX0_give ∈ WT := mWT 580 rfl rfl
set_option maxRecDepth 100000 in
theorem im_X0_give : Cond.instanceMethod yX0_give ∈ WT := mWT 582 rfl rfl
set_option maxRecDepth 100000 in
theorem cd_X0_give : Cond.code yX0_give cX0_give 3 none ∈ WT := mWT 583 rfl rfl
set_option maxRecDepth 100000 in
theorem ml_X0_110 : Cond.methodLink RX0 110 yX0_ways ∈ WT := mWT 584 rfl rfl
set_option maxRecDepth 100000 in
theorem ml_L_122 : Cond.methodLink RL 122 yX6_names ∈ WT := mWT 585 rfl rfl
set_option maxRecDepth 100000 in
theorem im_X6_names : Cond.instanceMethod yX6_names ∈ WT := mWT 586 rfl rfl
set_option maxRecDepth 100000 in
theorem se_X6_names : Cond.selects RX6 yX6_names yX6_names ∈ WT := mWT 587 rfl rfl
set_option maxRecDepth 100000 in
theorem cd_X6_names : Cond.code yX6_names cX6_names 2 (some .int) ∈ WT := mWT 588 rfl rfl
set_option maxRecDepth 100000 in
theorem ml_X6_203 : Cond.methodLink RX6 203 yX2_lives ∈ WT := mWT 589 rfl rfl
set_option maxRecDepth 100000 in
theorem ml_X6_206 : Cond.methodLink RX6 206 yX0_namesFor ∈ WT := mWT 590 rfl rfl
set_option maxRecDepth 100000 in
theorem im_X0_namesFor : Cond.instanceMethod yX0_namesFor ∈ WT := mWT 591 rfl rfl
set_option maxRecDepth 100000 in
theorem se_X0_namesFor : Cond.selects RX0 yX0_namesFor yX0_namesFor ∈ WT := mWT 592 rfl rfl
set_option maxRecDepth 100000 in
theorem cd_X0_namesFor : Cond.code yX0_namesFor cX0_namesFor 5 (some .int) ∈ WT := mWT 593 rfl rfl
set_option maxRecDepth 100000 in
theorem ml_L_126 : Cond.methodLink RL 126 yX6_hear ∈ WT := mWT 594 rfl rfl
set_option maxRecDepth 100000 in
theorem im_X6_hear : Cond.instanceMethod yX6_hear ∈ WT := mWT 595 rfl rfl
set_option maxRecDepth 100000 in
theorem se_X6_hear : Cond.selects RX6 yX6_hear yX6_hear ∈ WT := mWT 596 rfl rfl
set_option maxRecDepth 100000 in
theorem cd_X6_hear : Cond.code yX6_hear cX6_hear 3 (some .int) ∈ WT := mWT 597 rfl rfl
set_option maxRecDepth 100000 in
theorem ml_X6_209 : Cond.methodLink RX6 209 yX0_nameToHear ∈ WT := mWT 598 rfl rfl
set_option maxRecDepth 100000 in
theorem im_X0_nameToHear : Cond.instanceMethod yX0_nameToHear ∈ WT := mWT 599 rfl rfl
set_option maxRecDepth 100000 in
theorem se_X0_nameToHear : Cond.selects RX0 yX0_nameToHear yX0_nameToHear ∈ WT := mWT 600 rfl rfl
set_option maxRecDepth 100000 in
theorem cd_X0_nameToHear : Cond.code yX0_nameToHear cX0_nameToHear 5 (some .int) ∈ WT := mWT 601 rfl rfl
set_option maxRecDepth 100000 in
theorem ml_X0_114 : Cond.methodLink RX0 114 yX0_mostLeftBy ∈ WT := mWT 602 rfl rfl
set_option maxRecDepth 100000 in
theorem im_X0_mostLeftBy : Cond.instanceMethod yX0_mostLeftBy ∈ WT := mWT 603 rfl rfl
set_option maxRecDepth 100000 in
theorem se_X0_mostLeftBy : Cond.selects RX0 yX0_mostLeftBy yX0_mostLeftBy ∈ WT := mWT 604 rfl rfl
set_option maxRecDepth 100000 in
theorem cd_X0_mostLeftBy : Cond.code yX0_mostLeftBy cX0_mostLeftBy 4 (some .int) ∈ WT := mWT 605 rfl rfl
set_option maxRecDepth 100000 in
theorem ml_X0_117 : Cond.methodLink RX0 117 yJ9_max_7cf53 ∈ WT := mWT 606 rfl rfl
set_option maxRecDepth 100000 in
theorem ml_X6_212 : Cond.methodLink RX6 212 yX0_mostLeftBy ∈ WT := mWT 607 rfl rfl
set_option maxRecDepth 100000 in
theorem ml_L_130 : Cond.methodLink RL 130 yX6_undo ∈ WT := mWT 608 rfl rfl
set_option maxRecDepth 100000 in
theorem im_X6_undo : Cond.instanceMethod yX6_undo ∈ WT := mWT 609 rfl rfl
set_option maxRecDepth 100000 in
theorem se_X6_undo : Cond.selects RX6 yX6_undo yX6_undo ∈ WT := mWT 610 rfl rfl
set_option maxRecDepth 100000 in
theorem cd_X6_undo : Cond.code yX6_undo cX6_undo 3 (some .int) ∈ WT := mWT 611 rfl rfl
set_option maxRecDepth 100000 in
theorem ml_X6_215 : Cond.methodLink RX6 215 yX2_swapNames ∈ WT := mWT 612 rfl rfl
set_option maxRecDepth 100000 in
theorem ml_L_134 : Cond.methodLink RL 134 yX6_marriages ∈ WT := mWT 613 rfl rfl
set_option maxRecDepth 100000 in
theorem im_X6_marriages : Cond.instanceMethod yX6_marriages ∈ WT := mWT 614 rfl rfl
set_option maxRecDepth 100000 in
theorem se_X6_marriages : Cond.selects RX6 yX6_marriages yX6_marriages ∈ WT := mWT 615 rfl rfl
set_option maxRecDepth 100000 in
theorem cd_X6_marriages : Cond.code yX6_marriages cX6_marriages 2 (some .int) ∈ WT := mWT 616 rfl rfl
set_option maxRecDepth 100000 in
theorem ml_X6_218 : Cond.methodLink RX6 218 yX4_mostTwos ∈ WT := mWT 617 rfl rfl
set_option maxRecDepth 100000 in
theorem im_X4_mostTwos : Cond.instanceMethod yX4_mostTwos ∈ WT := mWT 618 rfl rfl
set_option maxRecDepth 100000 in
theorem se_X4_mostTwos : Cond.selects RX4 yX4_mostTwos yX4_mostTwos ∈ WT := mWT 619 rfl rfl
set_option maxRecDepth 100000 in
theorem cd_X4_mostTwos : Cond.code yX4_mostTwos cX4_mostTwos 5 (some .int) ∈ WT := mWT 620 rfl rfl
set_option maxRecDepth 100000 in
theorem ml_X4_29 : Cond.methodLink RX4 29 yX4_matesOf ∈ WT := mWT 621 rfl rfl
set_option maxRecDepth 100000 in
theorem st_X4_matesOf : Cond.static yX4_matesOf ∈ WT := mWT 622 rfl rfl
set_option maxRecDepth 100000 in
theorem cd_X4_matesOf : Cond.code yX4_matesOf cX4_matesOf 5 (some .int) ∈ WT := mWT 623 rfl rfl
set_option maxRecDepth 100000 in
theorem ml_X4_55 : Cond.methodLink RX4 55 yX4_isFree ∈ WT := mWT 624 rfl rfl
set_option maxRecDepth 100000 in
theorem st_X4_isFree : Cond.static yX4_isFree ∈ WT := mWT 625 rfl rfl
set_option maxRecDepth 100000 in
theorem cd_X4_isFree : Cond.code yX4_isFree cX4_isFree 2 (some .boolean) ∈ WT := mWT 626 rfl rfl
set_option maxRecDepth 100000 in
theorem ml_X4_63 : Cond.methodLink RX4 63 yX2_lives ∈ WT := mWT 627 rfl rfl
set_option maxRecDepth 100000 in
theorem ml_X4_41 : Cond.methodLink RX4 41 yX3_get ∈ WT := mWT 628 rfl rfl
set_option maxRecDepth 100000 in
theorem ml_X4_59 : Cond.methodLink RX4 59 yX4_areApart ∈ WT := mWT 629 rfl rfl
set_option maxRecDepth 100000 in
theorem st_X4_areApart : Cond.static yX4_areApart ∈ WT := mWT 630 rfl rfl
set_option maxRecDepth 100000 in
theorem cd_X4_areApart : Cond.code yX4_areApart cX4_areApart 5 (some .boolean) ∈ WT := mWT 631 rfl rfl
set_option maxRecDepth 100000 in
theorem ml_X4_70 : Cond.methodLink RX4 70 yX2_shareALand ∈ WT := mWT 632 rfl rfl
set_option maxRecDepth 100000 in
theorem ml_X4_33 : Cond.methodLink RX4 33 yX3_put ∈ WT := mWT 633 rfl rfl
set_option maxRecDepth 100000 in
theorem ml_X4_37 : Cond.methodLink RX4 37 yX4_bestOf ∈ WT := mWT 634 rfl rfl
set_option maxRecDepth 100000 in
theorem im_X4_bestOf : Cond.instanceMethod yX4_bestOf ∈ WT := mWT 636 rfl rfl
set_option maxRecDepth 100000 in
theorem cd_X4_bestOf : Cond.code yX4_bestOf cX4_bestOf 6 (some .int) ∈ WT := mWT 637 rfl rfl
set_option maxRecDepth 100000 in
theorem ml_X4_44 : Cond.methodLink RX4 44 yJ6_numberOfTrailingZeros_0f7a4 ∈ WT := mWT 638 rfl rfl
set_option maxRecDepth 100000 in
theorem st_J6_numberOfTrailingZeros_0f7a4 : Cond.static yJ6_numberOfTrailingZeros_0f7a4 ∈ WT := mWT 639 rfl rfl
set_option maxRecDepth 100000 in
theorem cd_J6_numberOfTrailingZeros_0f7a4 : Cond.code yJ6_numberOfTrailingZeros_0f7a4 cJ6_numberOfTrailingZeros_0f7a4 2 (some .int) ∈ WT := mWT 640 rfl rfl
set_option maxRecDepth 100000 in
theorem kc_J6_264 : Cond.constant RJ6 264 (65536) ∈ WT := mWT 641 rfl rfl
set_option maxRecDepth 100000 in
theorem ml_X4_49 : Cond.methodLink RX4 49 yJ9_max_7cf53 ∈ WT := mWT 642 rfl rfl
set_option maxRecDepth 100000 in
theorem ml_L_138 : Cond.methodLink RL 138 yX6_deaths ∈ WT := mWT 643 rfl rfl
set_option maxRecDepth 100000 in
theorem im_X6_deaths : Cond.instanceMethod yX6_deaths ∈ WT := mWT 644 rfl rfl
set_option maxRecDepth 100000 in
theorem se_X6_deaths : Cond.selects RX6 yX6_deaths yX6_deaths ∈ WT := mWT 645 rfl rfl
set_option maxRecDepth 100000 in
theorem cd_X6_deaths : Cond.code yX6_deaths cX6_deaths 13 (some .long) ∈ WT := mWT 646 rfl rfl
set_option maxRecDepth 100000 in
theorem kc_X6_221 : Cond.constantLong RX6 221 (-1000000000000000002) ∈ WT := mWT 647 rfl rfl
set_option maxRecDepth 100000 in
theorem ml_X6_226 : Cond.methodLink RX6 226 yJ6_bitCount_0f7a4 ∈ WT := mWT 648 rfl rfl
set_option maxRecDepth 100000 in
theorem st_J6_bitCount_0f7a4 : Cond.static yJ6_bitCount_0f7a4 ∈ WT := mWT 649 rfl rfl
set_option maxRecDepth 100000 in
theorem cd_J6_bitCount_0f7a4 : Cond.code yJ6_bitCount_0f7a4 cJ6_bitCount_0f7a4 1 (some .int) ∈ WT := mWT 650 rfl rfl
set_option maxRecDepth 100000 in
theorem kc_J6_265 : Cond.constant RJ6 265 (1431655765) ∈ WT := mWT 651 rfl rfl
set_option maxRecDepth 100000 in
theorem kc_J6_266 : Cond.constant RJ6 266 (858993459) ∈ WT := mWT 652 rfl rfl
set_option maxRecDepth 100000 in
theorem kc_J6_267 : Cond.constant RJ6 267 (252645135) ∈ WT := mWT 653 rfl rfl
set_option maxRecDepth 100000 in
theorem kc_X6_231 : Cond.constantLong RX6 231 (10) ∈ WT := mWT 654 rfl rfl
set_option maxRecDepth 100000 in
theorem ml_X6_233 : Cond.methodLink RX6 233 yX6_commonDivisor ∈ WT := mWT 655 rfl rfl
set_option maxRecDepth 100000 in
theorem st_X6_commonDivisor : Cond.static yX6_commonDivisor ∈ WT := mWT 656 rfl rfl
set_option maxRecDepth 100000 in
theorem cd_X6_commonDivisor : Cond.code yX6_commonDivisor cX6_commonDivisor 11 (some .long) ∈ WT := mWT 657 rfl rfl
set_option maxRecDepth 100000 in
theorem ml_X6_237 : Cond.methodLink RX6 237 yX6_cut_ ∈ WT := mWT 658 rfl rfl
set_option maxRecDepth 100000 in
theorem st_X6_cut_ : Cond.static yX6_cut_ ∈ WT := mWT 659 rfl rfl
set_option maxRecDepth 100000 in
theorem cd_X6_cut_ : Cond.code yX6_cut_ cX6_cut_ 4 (some .long) ∈ WT := mWT 660 rfl rfl
set_option maxRecDepth 100000 in
theorem ml_X6_240 : Cond.methodLink RX6 240 yX6_power ∈ WT := mWT 661 rfl rfl
set_option maxRecDepth 100000 in
theorem st_X6_power : Cond.static yX6_power ∈ WT := mWT 662 rfl rfl
set_option maxRecDepth 100000 in
theorem cd_X6_power : Cond.code yX6_power cX6_power 6 (some .long) ∈ WT := mWT 663 rfl rfl
set_option maxRecDepth 100000 in
theorem ml_L_143 : Cond.methodLink RL 143 yX6_year ∈ WT := mWT 664 rfl rfl
set_option maxRecDepth 100000 in
theorem im_X6_year : Cond.instanceMethod yX6_year ∈ WT := mWT 665 rfl rfl
set_option maxRecDepth 100000 in
theorem se_X6_year : Cond.selects RX6 yX6_year yX6_year ∈ WT := mWT 666 rfl rfl
set_option maxRecDepth 100000 in
theorem cd_X6_year : Cond.code yX6_year cX6_year 4 (some .int) ∈ WT := mWT 667 rfl rfl
set_option maxRecDepth 100000 in
theorem ml_X6_244 : Cond.methodLink RX6 244 yX6_drawYear ∈ WT := mWT 668 rfl rfl
set_option maxRecDepth 100000 in
theorem im_X6_drawYear : Cond.instanceMethod yX6_drawYear ∈ WT := mWT 670 rfl rfl
set_option maxRecDepth 100000 in
theorem cd_X6_drawYear : Cond.code yX6_drawYear cX6_drawYear 5 none ∈ WT := mWT 671 rfl rfl
set_option maxRecDepth 100000 in
theorem kc_X6_263 : Cond.constant RX6 263 (65537) ∈ WT := mWT 672 rfl rfl
set_option maxRecDepth 100000 in
theorem ml_X6_264 : Cond.methodLink RX6 264 yX6_drawAct ∈ WT := mWT 673 rfl rfl
set_option maxRecDepth 100000 in
theorem im_X6_drawAct : Cond.instanceMethod yX6_drawAct ∈ WT := mWT 675 rfl rfl
set_option maxRecDepth 100000 in
theorem cd_X6_drawAct : Cond.code yX6_drawAct cX6_drawAct 4 none ∈ WT := mWT 676 rfl rfl
set_option maxRecDepth 100000 in
theorem ml_X6_267 : Cond.methodLink RX6 267 yX2_bind ∈ WT := mWT 677 rfl rfl
set_option maxRecDepth 100000 in
theorem ml_X6_270 : Cond.methodLink RX6 270 yX2_changeHats ∈ WT := mWT 678 rfl rfl
set_option maxRecDepth 100000 in
theorem ml_X6_273 : Cond.methodLink RX6 273 yX2_passDays ∈ WT := mWT 679 rfl rfl
set_option maxRecDepth 100000 in
theorem ml_X6_276 : Cond.methodLink RX6 276 yX2_passSeason ∈ WT := mWT 680 rfl rfl
set_option maxRecDepth 100000 in
theorem ml_X6_247 : Cond.methodLink RX6 247 yX2_ownNames ∈ WT := mWT 681 rfl rfl
set_option maxRecDepth 100000 in
theorem im_X2_ownNames : Cond.instanceMethod yX2_ownNames ∈ WT := mWT 682 rfl rfl
set_option maxRecDepth 100000 in
theorem se_X2_ownNames : Cond.selects RX2 yX2_ownNames yX2_ownNames ∈ WT := mWT 683 rfl rfl
set_option maxRecDepth 100000 in
theorem cd_X2_ownNames : Cond.code yX2_ownNames cX2_ownNames 3 (some .int) ∈ WT := mWT 684 rfl rfl
set_option maxRecDepth 100000 in
theorem ml_X6_250 : Cond.methodLink RX6 250 yX2_emptyLands ∈ WT := mWT 685 rfl rfl
set_option maxRecDepth 100000 in
theorem im_X2_emptyLands : Cond.instanceMethod yX2_emptyLands ∈ WT := mWT 686 rfl rfl
set_option maxRecDepth 100000 in
theorem se_X2_emptyLands : Cond.selects RX2 yX2_emptyLands yX2_emptyLands ∈ WT := mWT 687 rfl rfl
set_option maxRecDepth 100000 in
theorem cd_X2_emptyLands : Cond.code yX2_emptyLands cX2_emptyLands 3 (some .int) ∈ WT := mWT 688 rfl rfl
set_option maxRecDepth 100000 in
theorem ml_X2_119 : Cond.methodLink RX2 119 yX2_guestsAfter ∈ WT := mWT 689 rfl rfl
set_option maxRecDepth 100000 in
theorem ml_L_147 : Cond.methodLink RL 147 yX6_image ∈ WT := mWT 690 rfl rfl
set_option maxRecDepth 100000 in
theorem im_X6_image : Cond.instanceMethod yX6_image ∈ WT := mWT 691 rfl rfl
set_option maxRecDepth 100000 in
theorem se_X6_image : Cond.selects RX6 yX6_image yX6_image ∈ WT := mWT 692 rfl rfl
set_option maxRecDepth 100000 in
theorem cd_X6_image : Cond.code yX6_image cX6_image 2 (some .int) ∈ WT := mWT 693 rfl rfl
set_option maxRecDepth 100000 in
theorem ml_X6_253 : Cond.methodLink RX6 253 yX6_imageAt ∈ WT := mWT 694 rfl rfl
set_option maxRecDepth 100000 in
theorem im_X6_imageAt : Cond.instanceMethod yX6_imageAt ∈ WT := mWT 696 rfl rfl
set_option maxRecDepth 100000 in
theorem cd_X6_imageAt : Cond.code yX6_imageAt cX6_imageAt 2 (some (.object "HostageRound$Round")) ∈ WT := mWT 697 rfl rfl
set_option maxRecDepth 100000 in
theorem ml_L_151 : Cond.methodLink RL 151 yX6_restore ∈ WT := mWT 698 rfl rfl
set_option maxRecDepth 100000 in
theorem im_X6_restore : Cond.instanceMethod yX6_restore ∈ WT := mWT 699 rfl rfl
set_option maxRecDepth 100000 in
theorem se_X6_restore : Cond.selects RX6 yX6_restore yX6_restore ∈ WT := mWT 700 rfl rfl
set_option maxRecDepth 100000 in
theorem cd_X6_restore : Cond.code yX6_restore cX6_restore 2 (some .int) ∈ WT := mWT 701 rfl rfl
set_option maxRecDepth 100000 in
theorem ml_L_155 : Cond.methodLink RL 155 yX6_told ∈ WT := mWT 702 rfl rfl
set_option maxRecDepth 100000 in
theorem im_X6_told : Cond.instanceMethod yX6_told ∈ WT := mWT 703 rfl rfl
set_option maxRecDepth 100000 in
theorem se_X6_told : Cond.selects RX6 yX6_told yX6_told ∈ WT := mWT 704 rfl rfl
set_option maxRecDepth 100000 in
theorem cd_X6_told : Cond.code yX6_told cX6_told 2 (some .int) ∈ WT := mWT 705 rfl rfl
set_option maxRecDepth 100000 in
theorem ml_X6_260 : Cond.methodLink RX6 260 yX6_toldOfOne ∈ WT := mWT 706 rfl rfl
set_option maxRecDepth 100000 in
theorem im_X6_toldOfOne : Cond.instanceMethod yX6_toldOfOne ∈ WT := mWT 708 rfl rfl
set_option maxRecDepth 100000 in
theorem cd_X6_toldOfOne : Cond.code yX6_toldOfOne cX6_toldOfOne 2 (some .int) ∈ WT := mWT 709 rfl rfl
set_option maxRecDepth 100000 in
theorem cl_L_10 : Cond.classLink RL 10 RX7 ∈ WT := mWT 710 rfl rfl
set_option maxRecDepth 100000 in
theorem isb_X7 : Cond.instantiable RX7 27 ∈ WT := mWT 711 rfl rfl
set_option maxRecDepth 100000 in
theorem ml_L_12 : Cond.methodLink RL 12 yX7_init ∈ WT := mWT 712 rfl rfl
set_option maxRecDepth 100000 in
theorem im_X7_init : Cond.instanceMethod yX7_init ∈ WT := mWT 713 rfl rfl
set_option maxRecDepth 100000 in
theorem cd_X7_init : Cond.code yX7_init cX7_init 1 none ∈ WT := mWT 714 rfl rfl
set_option maxRecDepth 100000 in
theorem ml_X7_1 : Cond.methodLink RX7 1 objectInit ∈ WT := mWT 715 rfl rfl
set_option maxRecDepth 100000 in
theorem ml_X7_63 : Cond.methodLink RX7 63 yX7_clear ∈ WT := mWT 716 rfl rfl
set_option maxRecDepth 100000 in
theorem im_X7_clear : Cond.instanceMethod yX7_clear ∈ WT := mWT 718 rfl rfl
set_option maxRecDepth 100000 in
theorem cd_X7_clear : Cond.code yX7_clear cX7_clear 2 none ∈ WT := mWT 719 rfl rfl
set_option maxRecDepth 100000 in
theorem fl_X7_7 : Cond.fieldLink RX7 7 RX7 "n" "I" ∈ WT := mWT 720 rfl rfl
set_option maxRecDepth 100000 in
theorem fl_X7_13 : Cond.fieldLink RX7 13 RX7 "length" "I" ∈ WT := mWT 721 rfl rfl
set_option maxRecDepth 100000 in
theorem fl_X7_66 : Cond.fieldLink RX7 66 RX7 "day" "I" ∈ WT := mWT 722 rfl rfl
set_option maxRecDepth 100000 in
theorem fl_X7_69 : Cond.fieldLink RX7 69 RX7 "season" "I" ∈ WT := mWT 723 rfl rfl
set_option maxRecDepth 100000 in
theorem fl_X7_72 : Cond.fieldLink RX7 72 RX7 "within" "I" ∈ WT := mWT 724 rfl rfl
set_option maxRecDepth 100000 in
theorem fl_X7_16 : Cond.fieldLink RX7 16 RX7 "land" "[I" ∈ WT := mWT 725 rfl rfl
set_option maxRecDepth 100000 in
theorem fl_X7_20 : Cond.fieldLink RX7 20 RX7 "name" "[I" ∈ WT := mWT 726 rfl rfl
set_option maxRecDepth 100000 in
theorem fl_X7_23 : Cond.fieldLink RX7 23 RX7 "stays" "[I" ∈ WT := mWT 727 rfl rfl
set_option maxRecDepth 100000 in
theorem fl_X7_26 : Cond.fieldLink RX7 26 RX7 "cold" "[I" ∈ WT := mWT 728 rfl rfl
set_option maxRecDepth 100000 in
theorem fl_X7_29 : Cond.fieldLink RX7 29 RX7 "coughs" "[I" ∈ WT := mWT 729 rfl rfl
set_option maxRecDepth 100000 in
theorem fl_X7_75 : Cond.fieldLink RX7 75 RX7 "sights" "I" ∈ WT := mWT 730 rfl rfl
set_option maxRecDepth 100000 in
theorem fl_X7_32 : Cond.fieldLink RX7 32 RX7 "sight" "[I" ∈ WT := mWT 731 rfl rfl
set_option maxRecDepth 100000 in
theorem fl_X7_86 : Cond.fieldLink RX7 86 RX7 "signs" "I" ∈ WT := mWT 732 rfl rfl
set_option maxRecDepth 100000 in
theorem fl_X7_35 : Cond.fieldLink RX7 35 RX7 "pad" "[I" ∈ WT := mWT 733 rfl rfl
set_option maxRecDepth 100000 in
theorem fl_X7_96 : Cond.fieldLink RX7 96 RX7 "dayNow" "I" ∈ WT := mWT 734 rfl rfl
set_option maxRecDepth 100000 in
theorem fl_X7_99 : Cond.fieldLink RX7 99 RX7 "seasonNow" "I" ∈ WT := mWT 735 rfl rfl
set_option maxRecDepth 100000 in
theorem fl_X7_102 : Cond.fieldLink RX7 102 RX7 "withinNow" "I" ∈ WT := mWT 736 rfl rfl
set_option maxRecDepth 100000 in
theorem fl_X7_38 : Cond.fieldLink RX7 38 RX7 "at" "[I" ∈ WT := mWT 737 rfl rfl
set_option maxRecDepth 100000 in
theorem fl_X7_41 : Cond.fieldLink RX7 41 RX7 "called" "[I" ∈ WT := mWT 738 rfl rfl
set_option maxRecDepth 100000 in
theorem fl_X7_44 : Cond.fieldLink RX7 44 RX7 "still" "[I" ∈ WT := mWT 739 rfl rfl
set_option maxRecDepth 100000 in
theorem fl_X7_47 : Cond.fieldLink RX7 47 RX7 "went" "[I" ∈ WT := mWT 740 rfl rfl
set_option maxRecDepth 100000 in
theorem fl_X7_114 : Cond.fieldLink RX7 114 RX7 "reason" "I" ∈ WT := mWT 741 rfl rfl
set_option maxRecDepth 100000 in
theorem fl_X7_111 : Cond.fieldLink RX7 111 RX7 "acts" "I" ∈ WT := mWT 742 rfl rfl
set_option maxRecDepth 100000 in
theorem fl_X7_50 : Cond.fieldLink RX7 50 RX7 "row" "[I" ∈ WT := mWT 743 rfl rfl
set_option maxRecDepth 100000 in
theorem fl_X7_53 : Cond.fieldLink RX7 53 RX7 "coughing" "[I" ∈ WT := mWT 744 rfl rfl
set_option maxRecDepth 100000 in
theorem fl_X7_56 : Cond.fieldLink RX7 56 RX7 "image" "[I" ∈ WT := mWT 745 rfl rfl
set_option maxRecDepth 100000 in
theorem fl_X7_59 : Cond.fieldLink RX7 59 RX7 "isKept" "[Z" ∈ WT := mWT 746 rfl rfl
set_option maxRecDepth 100000 in
theorem ac_boolean : Cond.arrayClass .boolean ∈ WT := mWT 802 rfl rfl
set_option maxRecDepth 100000 in
theorem ml_L_17 : Cond.methodLink RL 17 yX7_lands ∈ WT := mWT 803 rfl rfl
set_option maxRecDepth 100000 in
theorem im_X7_lands : Cond.instanceMethod yX7_lands ∈ WT := mWT 804 rfl rfl
set_option maxRecDepth 100000 in
theorem se_X7_lands : Cond.selects RX7 yX7_lands yX7_lands ∈ WT := mWT 805 rfl rfl
set_option maxRecDepth 100000 in
theorem cd_X7_lands : Cond.code yX7_lands cX7_lands 3 (some .int) ∈ WT := mWT 806 rfl rfl
set_option maxRecDepth 100000 in
theorem ml_X7_78 : Cond.methodLink RX7 78 yX7_in ∈ WT := mWT 807 rfl rfl
set_option maxRecDepth 100000 in
theorem st_X7_in : Cond.static yX7_in ∈ WT := mWT 808 rfl rfl
set_option maxRecDepth 100000 in
theorem cd_X7_in : Cond.code yX7_in cX7_in 3 (some .boolean) ∈ WT := mWT 809 rfl rfl
set_option maxRecDepth 100000 in
theorem ml_L_21 : Cond.methodLink RL 21 yX7_season ∈ WT := mWT 810 rfl rfl
set_option maxRecDepth 100000 in
theorem im_X7_season : Cond.instanceMethod yX7_season ∈ WT := mWT 811 rfl rfl
set_option maxRecDepth 100000 in
theorem se_X7_season : Cond.selects RX7 yX7_season yX7_season ∈ WT := mWT 812 rfl rfl
set_option maxRecDepth 100000 in
theorem cd_X7_season : Cond.code yX7_season cX7_season 3 (some .int) ∈ WT := mWT 813 rfl rfl
set_option maxRecDepth 100000 in
theorem ml_L_26 : Cond.methodLink RL 26 yX7_set ∈ WT := mWT 814 rfl rfl
set_option maxRecDepth 100000 in
theorem im_X7_set : Cond.instanceMethod yX7_set ∈ WT := mWT 815 rfl rfl
set_option maxRecDepth 100000 in
theorem se_X7_set : Cond.selects RX7 yX7_set yX7_set ∈ WT := mWT 816 rfl rfl
set_option maxRecDepth 100000 in
theorem cd_X7_set : Cond.code yX7_set cX7_set 5 (some .int) ∈ WT := mWT 817 rfl rfl
set_option maxRecDepth 100000 in
theorem ml_X7_82 : Cond.methodLink RX7 82 yX7_isOne ∈ WT := mWT 818 rfl rfl
set_option maxRecDepth 100000 in
theorem im_X7_isOne : Cond.instanceMethod yX7_isOne ∈ WT := mWT 820 rfl rfl
set_option maxRecDepth 100000 in
theorem cd_X7_isOne : Cond.code yX7_isOne cX7_isOne 2 (some .boolean) ∈ WT := mWT 821 rfl rfl
set_option maxRecDepth 100000 in
theorem ml_L_30 : Cond.methodLink RL 30 yX7_say ∈ WT := mWT 822 rfl rfl
set_option maxRecDepth 100000 in
theorem im_X7_say : Cond.instanceMethod yX7_say ∈ WT := mWT 823 rfl rfl
set_option maxRecDepth 100000 in
theorem se_X7_say : Cond.selects RX7 yX7_say yX7_say ∈ WT := mWT 824 rfl rfl
set_option maxRecDepth 100000 in
theorem cd_X7_say : Cond.code yX7_say cX7_say 2 (some .int) ∈ WT := mWT 825 rfl rfl
set_option maxRecDepth 100000 in
theorem ml_L_35 : Cond.methodLink RL 35 yX7_wipe ∈ WT := mWT 826 rfl rfl
set_option maxRecDepth 100000 in
theorem im_X7_wipe : Cond.instanceMethod yX7_wipe ∈ WT := mWT 827 rfl rfl
set_option maxRecDepth 100000 in
theorem se_X7_wipe : Cond.selects RX7 yX7_wipe yX7_wipe ∈ WT := mWT 828 rfl rfl
set_option maxRecDepth 100000 in
theorem cd_X7_wipe : Cond.code yX7_wipe cX7_wipe 2 (some .int) ∈ WT := mWT 829 rfl rfl
set_option maxRecDepth 100000 in
theorem ml_L_39 : Cond.methodLink RL 39 yX7_fault ∈ WT := mWT 830 rfl rfl
set_option maxRecDepth 100000 in
theorem im_X7_fault : Cond.instanceMethod yX7_fault ∈ WT := mWT 831 rfl rfl
set_option maxRecDepth 100000 in
theorem se_X7_fault : Cond.selects RX7 yX7_fault yX7_fault ∈ WT := mWT 832 rfl rfl
set_option maxRecDepth 100000 in
theorem cd_X7_fault : Cond.code yX7_fault cX7_fault 1 (some .int) ∈ WT := mWT 833 rfl rfl
set_option maxRecDepth 100000 in
theorem ml_X7_92 : Cond.methodLink RX7 92 yX7_faultOf ∈ WT := mWT 834 rfl rfl
set_option maxRecDepth 100000 in
theorem im_X7_faultOf : Cond.instanceMethod yX7_faultOf ∈ WT := mWT 836 rfl rfl
set_option maxRecDepth 100000 in
theorem cd_X7_faultOf : Cond.code yX7_faultOf cX7_faultOf 5 (some .int) ∈ WT := mWT 837 rfl rfl
set_option maxRecDepth 100000 in
theorem ml_X7_89 : Cond.methodLink RX7 89 yX7_isChild ∈ WT := mWT 838 rfl rfl
set_option maxRecDepth 100000 in
theorem im_X7_isChild : Cond.instanceMethod yX7_isChild ∈ WT := mWT 840 rfl rfl
set_option maxRecDepth 100000 in
theorem cd_X7_isChild : Cond.code yX7_isChild cX7_isChild 2 (some .boolean) ∈ WT := mWT 841 rfl rfl
set_option maxRecDepth 100000 in
theorem ml_L_43 : Cond.methodLink RL 43 yX7_judge ∈ WT := mWT 842 rfl rfl
set_option maxRecDepth 100000 in
theorem im_X7_judge : Cond.instanceMethod yX7_judge ∈ WT := mWT 843 rfl rfl
set_option maxRecDepth 100000 in
theorem se_X7_judge : Cond.selects RX7 yX7_judge yX7_judge ∈ WT := mWT 844 rfl rfl
set_option maxRecDepth 100000 in
theorem cd_X7_judge : Cond.code yX7_judge cX7_judge 3 (some .int) ∈ WT := mWT 845 rfl rfl
set_option maxRecDepth 100000 in
theorem ml_X7_132 : Cond.methodLink RX7 132 yX7_goYears ∈ WT := mWT 846 rfl rfl
set_option maxRecDepth 100000 in
theorem im_X7_goYears : Cond.instanceMethod yX7_goYears ∈ WT := mWT 848 rfl rfl
set_option maxRecDepth 100000 in
theorem cd_X7_goYears : Cond.code yX7_goYears cX7_goYears 5 (some .int) ∈ WT := mWT 849 rfl rfl
set_option maxRecDepth 100000 in
theorem ml_X7_108 : Cond.methodLink RX7 108 yX7_asNow ∈ WT := mWT 850 rfl rfl
set_option maxRecDepth 100000 in
theorem im_X7_asNow : Cond.instanceMethod yX7_asNow ∈ WT := mWT 852 rfl rfl
set_option maxRecDepth 100000 in
theorem cd_X7_asNow : Cond.code yX7_asNow cX7_asNow 2 none ∈ WT := mWT 853 rfl rfl
set_option maxRecDepth 100000 in
theorem ml_X7_117 : Cond.methodLink RX7 117 yX7_days ∈ WT := mWT 854 rfl rfl
set_option maxRecDepth 100000 in
theorem im_X7_days : Cond.instanceMethod yX7_days ∈ WT := mWT 856 rfl rfl
set_option maxRecDepth 100000 in
theorem cd_X7_days : Cond.code yX7_days cX7_days 3 none ∈ WT := mWT 857 rfl rfl
set_option maxRecDepth 100000 in
theorem ml_X7_105 : Cond.methodLink RX7 105 yX7_equinox ∈ WT := mWT 858 rfl rfl
set_option maxRecDepth 100000 in
theorem im_X7_equinox : Cond.instanceMethod yX7_equinox ∈ WT := mWT 860 rfl rfl
set_option maxRecDepth 100000 in
theorem cd_X7_equinox : Cond.code yX7_equinox cX7_equinox 2 none ∈ WT := mWT 861 rfl rfl
set_option maxRecDepth 100000 in
theorem ml_X7_121 : Cond.methodLink RX7 121 yX7_whyNoHats ∈ WT := mWT 862 rfl rfl
set_option maxRecDepth 100000 in
theorem im_X7_whyNoHats : Cond.instanceMethod yX7_whyNoHats ∈ WT := mWT 864 rfl rfl
set_option maxRecDepth 100000 in
theorem cd_X7_whyNoHats : Cond.code yX7_whyNoHats cX7_whyNoHats 3 (some .int) ∈ WT := mWT 865 rfl rfl
set_option maxRecDepth 100000 in
theorem ml_X7_125 : Cond.methodLink RX7 125 yX7_hats ∈ WT := mWT 866 rfl rfl
set_option maxRecDepth 100000 in
theorem im_X7_hats : Cond.instanceMethod yX7_hats ∈ WT := mWT 868 rfl rfl
set_option maxRecDepth 100000 in
theorem cd_X7_hats : Cond.code yX7_hats cX7_hats 4 none ∈ WT := mWT 869 rfl rfl
set_option maxRecDepth 100000 in
theorem ml_X7_129 : Cond.methodLink RX7 129 yX7_whyNot ∈ WT := mWT 870 rfl rfl
set_option maxRecDepth 100000 in
theorem im_X7_whyNot : Cond.instanceMethod yX7_whyNot ∈ WT := mWT 872 rfl rfl
set_option maxRecDepth 100000 in
theorem cd_X7_whyNot : Cond.code yX7_whyNot cX7_whyNot 3 (some .int) ∈ WT := mWT 873 rfl rfl
set_option maxRecDepth 100000 in
theorem ml_L_47 : Cond.methodLink RL 47 yX7_done ∈ WT := mWT 874 rfl rfl
set_option maxRecDepth 100000 in
theorem im_X7_done : Cond.instanceMethod yX7_done ∈ WT := mWT 875 rfl rfl
set_option maxRecDepth 100000 in
theorem se_X7_done : Cond.selects RX7 yX7_done yX7_done ∈ WT := mWT 876 rfl rfl
set_option maxRecDepth 100000 in
theorem cd_X7_done : Cond.code yX7_done cX7_done 2 (some .int) ∈ WT := mWT 877 rfl rfl
set_option maxRecDepth 100000 in
theorem ml_X7_135 : Cond.methodLink RX7 135 yX7_barOfYears ∈ WT := mWT 878 rfl rfl
set_option maxRecDepth 100000 in
theorem im_X7_barOfYears : Cond.instanceMethod yX7_barOfYears ∈ WT := mWT 880 rfl rfl
set_option maxRecDepth 100000 in
theorem cd_X7_barOfYears : Cond.code yX7_barOfYears cX7_barOfYears 1 (some .int) ∈ WT := mWT 881 rfl rfl
set_option maxRecDepth 100000 in
theorem ml_L_52 : Cond.methodLink RL 52 yX7_state ∈ WT := mWT 882 rfl rfl
set_option maxRecDepth 100000 in
theorem im_X7_state : Cond.instanceMethod yX7_state ∈ WT := mWT 883 rfl rfl
set_option maxRecDepth 100000 in
theorem se_X7_state : Cond.selects RX7 yX7_state yX7_state ∈ WT := mWT 884 rfl rfl
set_option maxRecDepth 100000 in
theorem cd_X7_state : Cond.code yX7_state cX7_state 3 (some .int) ∈ WT := mWT 885 rfl rfl
set_option maxRecDepth 100000 in
theorem ml_L_56 : Cond.methodLink RL 56 yX7_behind ∈ WT := mWT 886 rfl rfl
set_option maxRecDepth 100000 in
theorem im_X7_behind : Cond.instanceMethod yX7_behind ∈ WT := mWT 887 rfl rfl
set_option maxRecDepth 100000 in
theorem se_X7_behind : Cond.selects RX7 yX7_behind yX7_behind ∈ WT := mWT 888 rfl rfl
set_option maxRecDepth 100000 in
theorem cd_X7_behind : Cond.code yX7_behind cX7_behind 3 (some .int) ∈ WT := mWT 889 rfl rfl
set_option maxRecDepth 100000 in
theorem ml_L_60 : Cond.methodLink RL 60 yX7_day ∈ WT := mWT 890 rfl rfl
set_option maxRecDepth 100000 in
theorem im_X7_day : Cond.instanceMethod yX7_day ∈ WT := mWT 891 rfl rfl
set_option maxRecDepth 100000 in
theorem se_X7_day : Cond.selects RX7 yX7_day yX7_day ∈ WT := mWT 892 rfl rfl
set_option maxRecDepth 100000 in
theorem cd_X7_day : Cond.code yX7_day cX7_day 1 (some .int) ∈ WT := mWT 893 rfl rfl
set_option maxRecDepth 100000 in
theorem ml_L_64 : Cond.methodLink RL 64 yX7_where ∈ WT := mWT 894 rfl rfl
set_option maxRecDepth 100000 in
theorem im_X7_where : Cond.instanceMethod yX7_where ∈ WT := mWT 895 rfl rfl
set_option maxRecDepth 100000 in
theorem se_X7_where : Cond.selects RX7 yX7_where yX7_where ∈ WT := mWT 896 rfl rfl
set_option maxRecDepth 100000 in
theorem cd_X7_where : Cond.code yX7_where cX7_where 3 (some .int) ∈ WT := mWT 897 rfl rfl
set_option maxRecDepth 100000 in
theorem ml_X7_138 : Cond.methodLink RX7 138 yX7_equinoxes ∈ WT := mWT 898 rfl rfl
set_option maxRecDepth 100000 in
theorem im_X7_equinoxes : Cond.instanceMethod yX7_equinoxes ∈ WT := mWT 900 rfl rfl
set_option maxRecDepth 100000 in
theorem cd_X7_equinoxes : Cond.code yX7_equinoxes cX7_equinoxes 2 (some .int) ∈ WT := mWT 901 rfl rfl
set_option maxRecDepth 100000 in
theorem ml_X7_142 : Cond.methodLink RX7 142 yX7_whereBehind ∈ WT := mWT 902 rfl rfl
set_option maxRecDepth 100000 in
theorem im_X7_whereBehind : Cond.instanceMethod yX7_whereBehind ∈ WT := mWT 904 rfl rfl
set_option maxRecDepth 100000 in
theorem cd_X7_whereBehind : Cond.code yX7_whereBehind cX7_whereBehind 5 (some .int) ∈ WT := mWT 905 rfl rfl
set_option maxRecDepth 100000 in
theorem ml_L_68 : Cond.methodLink RL 68 yX7_who ∈ WT := mWT 906 rfl rfl
set_option maxRecDepth 100000 in
theorem im_X7_who : Cond.instanceMethod yX7_who ∈ WT := mWT 907 rfl rfl
set_option maxRecDepth 100000 in
theorem se_X7_who : Cond.selects RX7 yX7_who yX7_who ∈ WT := mWT 908 rfl rfl
set_option maxRecDepth 100000 in
theorem cd_X7_who : Cond.code yX7_who cX7_who 5 (some .int) ∈ WT := mWT 909 rfl rfl
set_option maxRecDepth 100000 in
theorem ml_L_72 : Cond.methodLink RL 72 yX7_meet ∈ WT := mWT 910 rfl rfl
set_option maxRecDepth 100000 in
theorem im_X7_meet : Cond.instanceMethod yX7_meet ∈ WT := mWT 911 rfl rfl
set_option maxRecDepth 100000 in
theorem se_X7_meet : Cond.selects RX7 yX7_meet yX7_meet ∈ WT := mWT 912 rfl rfl
set_option maxRecDepth 100000 in
theorem cd_X7_meet : Cond.code yX7_meet cX7_meet 4 (some .int) ∈ WT := mWT 913 rfl rfl
set_option maxRecDepth 100000 in
theorem ml_X7_145 : Cond.methodLink RX7 145 yX7_areTwo ∈ WT := mWT 914 rfl rfl
set_option maxRecDepth 100000 in
theorem im_X7_areTwo : Cond.instanceMethod yX7_areTwo ∈ WT := mWT 916 rfl rfl
set_option maxRecDepth 100000 in
theorem cd_X7_areTwo : Cond.code yX7_areTwo cX7_areTwo 3 (some .boolean) ∈ WT := mWT 917 rfl rfl
set_option maxRecDepth 100000 in
theorem ml_X7_149 : Cond.methodLink RX7 149 yX7_areIn ∈ WT := mWT 918 rfl rfl
set_option maxRecDepth 100000 in
theorem im_X7_areIn : Cond.instanceMethod yX7_areIn ∈ WT := mWT 920 rfl rfl
set_option maxRecDepth 100000 in
theorem cd_X7_areIn : Cond.code yX7_areIn cX7_areIn 4 (some .boolean) ∈ WT := mWT 921 rfl rfl
set_option maxRecDepth 100000 in
theorem ml_X7_152 : Cond.methodLink RX7 152 yX7_firstDay ∈ WT := mWT 922 rfl rfl
set_option maxRecDepth 100000 in
theorem im_X7_firstDay : Cond.instanceMethod yX7_firstDay ∈ WT := mWT 924 rfl rfl
set_option maxRecDepth 100000 in
theorem cd_X7_firstDay : Cond.code yX7_firstDay cX7_firstDay 2 (some .int) ∈ WT := mWT 925 rfl rfl
set_option maxRecDepth 100000 in
theorem ml_L_76 : Cond.methodLink RL 76 yX7_together ∈ WT := mWT 926 rfl rfl
set_option maxRecDepth 100000 in
theorem im_X7_together : Cond.instanceMethod yX7_together ∈ WT := mWT 927 rfl rfl
set_option maxRecDepth 100000 in
theorem se_X7_together : Cond.selects RX7 yX7_together yX7_together ∈ WT := mWT 928 rfl rfl
set_option maxRecDepth 100000 in
theorem cd_X7_together : Cond.code yX7_together cX7_together 6 (some .int) ∈ WT := mWT 929 rfl rfl
set_option maxRecDepth 100000 in
theorem ml_L_80 : Cond.methodLink RL 80 yX7_begin ∈ WT := mWT 930 rfl rfl
set_option maxRecDepth 100000 in
theorem im_X7_begin : Cond.instanceMethod yX7_begin ∈ WT := mWT 931 rfl rfl
set_option maxRecDepth 100000 in
theorem se_X7_begin : Cond.selects RX7 yX7_begin yX7_begin ∈ WT := mWT 932 rfl rfl
set_option maxRecDepth 100000 in
theorem cd_X7_begin : Cond.code yX7_begin cX7_begin 5 (some .int) ∈ WT := mWT 933 rfl rfl
set_option maxRecDepth 100000 in
theorem ml_X7_155 : Cond.methodLink RX7 155 yX7_isThere ∈ WT := mWT 934 rfl rfl
set_option maxRecDepth 100000 in
theorem im_X7_isThere : Cond.instanceMethod yX7_isThere ∈ WT := mWT 936 rfl rfl
set_option maxRecDepth 100000 in
theorem cd_X7_isThere : Cond.code yX7_isThere cX7_isThere 7 (some .boolean) ∈ WT := mWT 937 rfl rfl
set_option maxRecDepth 100000 in
theorem ml_L_84 : Cond.methodLink RL 84 yX7_longest ∈ WT := mWT 938 rfl rfl
set_option maxRecDepth 100000 in
theorem im_X7_longest : Cond.instanceMethod yX7_longest ∈ WT := mWT 939 rfl rfl
set_option maxRecDepth 100000 in
theorem se_X7_longest : Cond.selects RX7 yX7_longest yX7_longest ∈ WT := mWT 940 rfl rfl
set_option maxRecDepth 100000 in
theorem cd_X7_longest : Cond.code yX7_longest cX7_longest 5 (some .int) ∈ WT := mWT 941 rfl rfl
set_option maxRecDepth 100000 in
theorem ml_L_88 : Cond.methodLink RL 88 yX7_struck ∈ WT := mWT 942 rfl rfl
set_option maxRecDepth 100000 in
theorem im_X7_struck : Cond.instanceMethod yX7_struck ∈ WT := mWT 943 rfl rfl
set_option maxRecDepth 100000 in
theorem se_X7_struck : Cond.selects RX7 yX7_struck yX7_struck ∈ WT := mWT 944 rfl rfl
set_option maxRecDepth 100000 in
theorem cd_X7_struck : Cond.code yX7_struck cX7_struck 6 (some .int) ∈ WT := mWT 945 rfl rfl
set_option maxRecDepth 100000 in
theorem ml_X7_159 : Cond.methodLink RX7 159 yX7_isWar ∈ WT := mWT 946 rfl rfl
set_option maxRecDepth 100000 in
theorem im_X7_isWar : Cond.instanceMethod yX7_isWar ∈ WT := mWT 948 rfl rfl
set_option maxRecDepth 100000 in
theorem cd_X7_isWar : Cond.code yX7_isWar cX7_isWar 3 (some .boolean) ∈ WT := mWT 949 rfl rfl
set_option maxRecDepth 100000 in
theorem ml_L_92 : Cond.methodLink RL 92 yX7_sure ∈ WT := mWT 950 rfl rfl
set_option maxRecDepth 100000 in
theorem im_X7_sure : Cond.instanceMethod yX7_sure ∈ WT := mWT 951 rfl rfl
set_option maxRecDepth 100000 in
theorem se_X7_sure : Cond.selects RX7 yX7_sure yX7_sure ∈ WT := mWT 952 rfl rfl
set_option maxRecDepth 100000 in
theorem cd_X7_sure : Cond.code yX7_sure cX7_sure 6 (some .int) ∈ WT := mWT 953 rfl rfl
set_option maxRecDepth 100000 in
theorem ml_X7_162 : Cond.methodLink RX7 162 yX7_begin ∈ WT := mWT 954 rfl rfl
set_option maxRecDepth 100000 in
theorem ml_L_96 : Cond.methodLink RL 96 yX7_fooled ∈ WT := mWT 955 rfl rfl
set_option maxRecDepth 100000 in
theorem im_X7_fooled : Cond.instanceMethod yX7_fooled ∈ WT := mWT 956 rfl rfl
set_option maxRecDepth 100000 in
theorem se_X7_fooled : Cond.selects RX7 yX7_fooled yX7_fooled ∈ WT := mWT 957 rfl rfl
set_option maxRecDepth 100000 in
theorem cd_X7_fooled : Cond.code yX7_fooled cX7_fooled 8 (some .int) ∈ WT := mWT 958 rfl rfl
set_option maxRecDepth 100000 in
theorem ml_L_100 : Cond.methodLink RL 100 yX7_letter ∈ WT := mWT 959 rfl rfl
set_option maxRecDepth 100000 in
theorem im_X7_letter : Cond.instanceMethod yX7_letter ∈ WT := mWT 960 rfl rfl
set_option maxRecDepth 100000 in
theorem se_X7_letter : Cond.selects RX7 yX7_letter yX7_letter ∈ WT := mWT 961 rfl rfl
set_option maxRecDepth 100000 in
theorem cd_X7_letter : Cond.code yX7_letter cX7_letter 3 (some .int) ∈ WT := mWT 962 rfl rfl
set_option maxRecDepth 100000 in
theorem ml_L_104 : Cond.methodLink RL 104 yX7_copy ∈ WT := mWT 963 rfl rfl
set_option maxRecDepth 100000 in
theorem im_X7_copy : Cond.instanceMethod yX7_copy ∈ WT := mWT 964 rfl rfl
set_option maxRecDepth 100000 in
theorem se_X7_copy : Cond.selects RX7 yX7_copy yX7_copy ∈ WT := mWT 965 rfl rfl
set_option maxRecDepth 100000 in
theorem cd_X7_copy : Cond.code yX7_copy cX7_copy 3 (some .int) ∈ WT := mWT 966 rfl rfl
set_option maxRecDepth 100000 in
theorem ml_L_108 : Cond.methodLink RL 108 yX7_furs ∈ WT := mWT 967 rfl rfl
set_option maxRecDepth 100000 in
theorem im_X7_furs : Cond.instanceMethod yX7_furs ∈ WT := mWT 968 rfl rfl
set_option maxRecDepth 100000 in
theorem se_X7_furs : Cond.selects RX7 yX7_furs yX7_furs ∈ WT := mWT 969 rfl rfl
set_option maxRecDepth 100000 in
theorem cd_X7_furs : Cond.code yX7_furs cX7_furs 8 (some .int) ∈ WT := mWT 970 rfl rfl
set_option maxRecDepth 100000 in
theorem ml_L_113 : Cond.methodLink RL 113 yX7_seen ∈ WT := mWT 971 rfl rfl
set_option maxRecDepth 100000 in
theorem im_X7_seen : Cond.instanceMethod yX7_seen ∈ WT := mWT 972 rfl rfl
set_option maxRecDepth 100000 in
theorem se_X7_seen : Cond.selects RX7 yX7_seen yX7_seen ∈ WT := mWT 973 rfl rfl
set_option maxRecDepth 100000 in
theorem cd_X7_seen : Cond.code yX7_seen cX7_seen 3 (some .int) ∈ WT := mWT 974 rfl rfl
set_option maxRecDepth 100000 in
theorem ml_L_117 : Cond.methodLink RL 117 yX7_forget ∈ WT := mWT 975 rfl rfl
set_option maxRecDepth 100000 in
theorem im_X7_forget : Cond.instanceMethod yX7_forget ∈ WT := mWT 976 rfl rfl
set_option maxRecDepth 100000 in
theorem se_X7_forget : Cond.selects RX7 yX7_forget yX7_forget ∈ WT := mWT 977 rfl rfl
set_option maxRecDepth 100000 in
theorem cd_X7_forget : Cond.code yX7_forget cX7_forget 2 (some .int) ∈ WT := mWT 978 rfl rfl
set_option maxRecDepth 100000 in
theorem ml_L_121 : Cond.methodLink RL 121 yX7_changed ∈ WT := mWT 979 rfl rfl
set_option maxRecDepth 100000 in
theorem im_X7_changed : Cond.instanceMethod yX7_changed ∈ WT := mWT 980 rfl rfl
set_option maxRecDepth 100000 in
theorem se_X7_changed : Cond.selects RX7 yX7_changed yX7_changed ∈ WT := mWT 981 rfl rfl
set_option maxRecDepth 100000 in
theorem cd_X7_changed : Cond.code yX7_changed cX7_changed 7 (some .int) ∈ WT := mWT 982 rfl rfl
set_option maxRecDepth 100000 in
theorem ml_X7_178 : Cond.methodLink RX7 178 yX7_codes ∈ WT := mWT 983 rfl rfl
set_option maxRecDepth 100000 in
theorem im_X7_codes : Cond.instanceMethod yX7_codes ∈ WT := mWT 985 rfl rfl
set_option maxRecDepth 100000 in
theorem cd_X7_codes : Cond.code yX7_codes cX7_codes 3 (some .int) ∈ WT := mWT 986 rfl rfl
set_option maxRecDepth 100000 in
theorem ml_X7_181 : Cond.methodLink RX7 181 yX7_isRow ∈ WT := mWT 987 rfl rfl
set_option maxRecDepth 100000 in
theorem im_X7_isRow : Cond.instanceMethod yX7_isRow ∈ WT := mWT 989 rfl rfl
set_option maxRecDepth 100000 in
theorem cd_X7_isRow : Cond.code yX7_isRow cX7_isRow 4 (some .boolean) ∈ WT := mWT 990 rfl rfl
set_option maxRecDepth 100000 in
theorem ml_X7_172 : Cond.methodLink RX7 172 yX7_deals ∈ WT := mWT 991 rfl rfl
set_option maxRecDepth 100000 in
theorem im_X7_deals : Cond.instanceMethod yX7_deals ∈ WT := mWT 993 rfl rfl
set_option maxRecDepth 100000 in
theorem cd_X7_deals : Cond.code yX7_deals cX7_deals 6 (some .boolean) ∈ WT := mWT 994 rfl rfl
set_option maxRecDepth 100000 in
theorem ml_X7_166 : Cond.methodLink RX7 166 yX7_living ∈ WT := mWT 995 rfl rfl
set_option maxRecDepth 100000 in
theorem im_X7_living : Cond.instanceMethod yX7_living ∈ WT := mWT 997 rfl rfl
set_option maxRecDepth 100000 in
theorem cd_X7_living : Cond.code yX7_living cX7_living 3 (some .int) ∈ WT := mWT 998 rfl rfl
set_option maxRecDepth 100000 in
theorem ml_X7_169 : Cond.methodLink RX7 169 yX7_has ∈ WT := mWT 999 rfl rfl
set_option maxRecDepth 100000 in
theorem st_X7_has : Cond.static yX7_has ∈ WT := mWT 1000 rfl rfl
set_option maxRecDepth 100000 in
theorem cd_X7_has : Cond.code yX7_has cX7_has 2 (some .boolean) ∈ WT := mWT 1001 rfl rfl
set_option maxRecDepth 100000 in
theorem ml_X7_175 : Cond.methodLink RX7 175 yX7_coughOf ∈ WT := mWT 1002 rfl rfl
set_option maxRecDepth 100000 in
theorem im_X7_coughOf : Cond.instanceMethod yX7_coughOf ∈ WT := mWT 1004 rfl rfl
set_option maxRecDepth 100000 in
theorem cd_X7_coughOf : Cond.code yX7_coughOf cX7_coughOf 4 (some .int) ∈ WT := mWT 1005 rfl rfl
set_option maxRecDepth 100000 in
theorem ml_L_125 : Cond.methodLink RL 125 yX7_names ∈ WT := mWT 1006 rfl rfl
set_option maxRecDepth 100000 in
theorem im_X7_names : Cond.instanceMethod yX7_names ∈ WT := mWT 1007 rfl rfl
set_option maxRecDepth 100000 in
theorem se_X7_names : Cond.selects RX7 yX7_names yX7_names ∈ WT := mWT 1008 rfl rfl
set_option maxRecDepth 100000 in
theorem cd_X7_names : Cond.code yX7_names cX7_names 5 (some .int) ∈ WT := mWT 1009 rfl rfl
set_option maxRecDepth 100000 in
theorem ml_L_129 : Cond.methodLink RL 129 yX7_hear ∈ WT := mWT 1010 rfl rfl
set_option maxRecDepth 100000 in
theorem im_X7_hear : Cond.instanceMethod yX7_hear ∈ WT := mWT 1011 rfl rfl
set_option maxRecDepth 100000 in
theorem se_X7_hear : Cond.selects RX7 yX7_hear yX7_hear ∈ WT := mWT 1012 rfl rfl
set_option maxRecDepth 100000 in
theorem cd_X7_hear : Cond.code yX7_hear cX7_hear 9 (some .int) ∈ WT := mWT 1013 rfl rfl
set_option maxRecDepth 100000 in
theorem kc_X7_184 : Cond.constant RX7 184 (1000000) ∈ WT := mWT 1014 rfl rfl
set_option maxRecDepth 100000 in
theorem ml_L_133 : Cond.methodLink RL 133 yX7_undo ∈ WT := mWT 1015 rfl rfl
set_option maxRecDepth 100000 in
theorem im_X7_undo : Cond.instanceMethod yX7_undo ∈ WT := mWT 1016 rfl rfl
set_option maxRecDepth 100000 in
theorem se_X7_undo : Cond.selects RX7 yX7_undo yX7_undo ∈ WT := mWT 1017 rfl rfl
set_option maxRecDepth 100000 in
theorem cd_X7_undo : Cond.code yX7_undo cX7_undo 5 (some .int) ∈ WT := mWT 1018 rfl rfl
set_option maxRecDepth 100000 in
theorem ml_L_137 : Cond.methodLink RL 137 yX7_marriages ∈ WT := mWT 1019 rfl rfl
set_option maxRecDepth 100000 in
theorem im_X7_marriages : Cond.instanceMethod yX7_marriages ∈ WT := mWT 1020 rfl rfl
set_option maxRecDepth 100000 in
theorem se_X7_marriages : Cond.selects RX7 yX7_marriages yX7_marriages ∈ WT := mWT 1021 rfl rfl
set_option maxRecDepth 100000 in
theorem cd_X7_marriages : Cond.code yX7_marriages cX7_marriages 12 (some .int) ∈ WT := mWT 1022 rfl rfl
set_option maxRecDepth 100000 in
theorem kc_X7_185 : Cond.constant RX7 185 (46656) ∈ WT := mWT 1023 rfl rfl
set_option maxRecDepth 100000 in
theorem ml_X7_186 : Cond.methodLink RX7 186 yX7_doMeet ∈ WT := mWT 1024 rfl rfl
set_option maxRecDepth 100000 in
theorem im_X7_doMeet : Cond.instanceMethod yX7_doMeet ∈ WT := mWT 1026 rfl rfl
set_option maxRecDepth 100000 in
theorem cd_X7_doMeet : Cond.code yX7_doMeet cX7_doMeet 6 (some .boolean) ∈ WT := mWT 1027 rfl rfl
set_option maxRecDepth 100000 in
theorem ml_L_142 : Cond.methodLink RL 142 yX7_deaths ∈ WT := mWT 1028 rfl rfl
set_option maxRecDepth 100000 in
theorem im_X7_deaths : Cond.instanceMethod yX7_deaths ∈ WT := mWT 1029 rfl rfl
set_option maxRecDepth 100000 in
theorem se_X7_deaths : Cond.selects RX7 yX7_deaths yX7_deaths ∈ WT := mWT 1030 rfl rfl
set_option maxRecDepth 100000 in
theorem cd_X7_deaths : Cond.code yX7_deaths cX7_deaths 16 (some .long) ∈ WT := mWT 1031 rfl rfl
set_option maxRecDepth 100000 in
theorem kc_X7_189 : Cond.constantLong RX7 189 (-1000000000000000002) ∈ WT := mWT 1032 rfl rfl
set_option maxRecDepth 100000 in
theorem ml_X7_191 : Cond.methodLink RX7 191 yX7_alive ∈ WT := mWT 1033 rfl rfl
set_option maxRecDepth 100000 in
theorem im_X7_alive : Cond.instanceMethod yX7_alive ∈ WT := mWT 1035 rfl rfl
set_option maxRecDepth 100000 in
theorem cd_X7_alive : Cond.code yX7_alive cX7_alive 3 (some .int) ∈ WT := mWT 1036 rfl rfl
set_option maxRecDepth 100000 in
theorem kc_X7_194 : Cond.constantLong RX7 194 (10) ∈ WT := mWT 1037 rfl rfl
set_option maxRecDepth 100000 in
theorem ml_L_146 : Cond.methodLink RL 146 yX7_year ∈ WT := mWT 1038 rfl rfl
set_option maxRecDepth 100000 in
theorem im_X7_year : Cond.instanceMethod yX7_year ∈ WT := mWT 1039 rfl rfl
set_option maxRecDepth 100000 in
theorem se_X7_year : Cond.selects RX7 yX7_year yX7_year ∈ WT := mWT 1040 rfl rfl
set_option maxRecDepth 100000 in
theorem cd_X7_year : Cond.code yX7_year cX7_year 9 (some .int) ∈ WT := mWT 1041 rfl rfl
set_option maxRecDepth 100000 in
theorem kc_X7_196 : Cond.constant RX7 196 (65537) ∈ WT := mWT 1042 rfl rfl
set_option maxRecDepth 100000 in
theorem ml_L_150 : Cond.methodLink RL 150 yX7_image ∈ WT := mWT 1043 rfl rfl
set_option maxRecDepth 100000 in
theorem im_X7_image : Cond.instanceMethod yX7_image ∈ WT := mWT 1044 rfl rfl
set_option maxRecDepth 100000 in
theorem se_X7_image : Cond.selects RX7 yX7_image yX7_image ∈ WT := mWT 1045 rfl rfl
set_option maxRecDepth 100000 in
theorem cd_X7_image : Cond.code yX7_image cX7_image 4 (some .int) ∈ WT := mWT 1046 rfl rfl
set_option maxRecDepth 100000 in
theorem ml_L_154 : Cond.methodLink RL 154 yX7_restore ∈ WT := mWT 1047 rfl rfl
set_option maxRecDepth 100000 in
theorem im_X7_restore : Cond.instanceMethod yX7_restore ∈ WT := mWT 1048 rfl rfl
set_option maxRecDepth 100000 in
theorem se_X7_restore : Cond.selects RX7 yX7_restore yX7_restore ∈ WT := mWT 1049 rfl rfl
set_option maxRecDepth 100000 in
theorem cd_X7_restore : Cond.code yX7_restore cX7_restore 4 (some .int) ∈ WT := mWT 1050 rfl rfl
set_option maxRecDepth 100000 in
theorem ml_L_158 : Cond.methodLink RL 158 yX7_told ∈ WT := mWT 1051 rfl rfl
set_option maxRecDepth 100000 in
theorem im_X7_told : Cond.instanceMethod yX7_told ∈ WT := mWT 1052 rfl rfl
set_option maxRecDepth 100000 in
theorem se_X7_told : Cond.selects RX7 yX7_told yX7_told ∈ WT := mWT 1053 rfl rfl
set_option maxRecDepth 100000 in
theorem cd_X7_told : Cond.code yX7_told cX7_told 4 (some .int) ∈ WT := mWT 1054 rfl rfl
set_option maxRecDepth 100000 in
theorem inW_X0 : ∀ w ∈ wsX00, w ∈ WT := by decide +kernel
set_option maxRecDepth 100000 in
theorem inW_X1 : ∀ w ∈ wsX10, w ∈ WT := by decide +kernel
set_option maxRecDepth 100000 in
theorem inW_X2 : ∀ w ∈ wsX20, w ∈ WT := by decide +kernel
set_option maxRecDepth 100000 in
theorem inW_X3 : ∀ w ∈ wsX30, w ∈ WT := by decide +kernel
set_option maxRecDepth 100000 in
theorem inW_X4 : ∀ w ∈ wsX40, w ∈ WT := by decide +kernel
set_option maxRecDepth 100000 in
theorem inW_X5 : ∀ w ∈ wsX50, w ∈ WT := by decide +kernel
set_option maxRecDepth 100000 in
theorem inW_X6 : ∀ w ∈ wsX60, w ∈ WT := by decide +kernel
set_option maxRecDepth 100000 in
theorem inW_X7 : ∀ w ∈ wsX70, w ∈ WT := by decide +kernel
theorem mI_X6_init : MI yX6_init cX6_init 1 0 := ⟨im_X6_init, ini_X6, cd_X6_init, rfl, by decide +kernel, by decide +kernel, by decide +kernel⟩
theorem mI_X2_init : MI yX2_init cX2_init 1 0 := ⟨im_X2_init, ini_X2, cd_X2_init, rfl, by decide +kernel, by decide +kernel, by decide +kernel⟩
theorem mI_X3_init : MI yX3_init cX3_init 2 1 := ⟨im_X3_init, ini_X3, cd_X3_init, rfl, by decide +kernel, by decide +kernel, by decide +kernel⟩
theorem mI_X1_init : MI yX1_init cX1_init 1 0 := ⟨im_X1_init, ini_X1, cd_X1_init, rfl, by decide +kernel, by decide +kernel, by decide +kernel⟩
theorem mI_X5_init : MI yX5_init cX5_init 1 0 := ⟨im_X5_init, ini_X5, cd_X5_init, rfl, by decide +kernel, by decide +kernel, by decide +kernel⟩
theorem mI_X0_init : MI yX0_init cX0_init 1 0 := ⟨im_X0_init, ini_X0, cd_X0_init, rfl, by decide +kernel, by decide +kernel, by decide +kernel⟩
theorem mI_X4_init : MI yX4_init cX4_init 1 0 := ⟨im_X4_init, ini_X4, cd_X4_init, rfl, by decide +kernel, by decide +kernel, by decide +kernel⟩
theorem mV_X2_startAnew : MV RX2 yX2_startAnew cX2_startAnew 3 none 1 := ⟨im_X2_startAnew, se_X2_startAnew, ini_X2, cd_X2_startAnew, rfl, by decide +kernel, by decide +kernel, by decide +kernel⟩
theorem mV_X3_fill : MV RX3 yX3_fill cX3_fill 3 none 1 := ⟨im_X3_fill, se_X3_fill, ini_X3, cd_X3_fill, rfl, by decide +kernel, by decide +kernel, by decide +kernel⟩
theorem mV_X3_put : MV RX3 yX3_put cX3_put 3 none 2 := ⟨im_X3_put, se_X3_put, ini_X3, cd_X3_put, rfl, by decide +kernel, by decide +kernel, by decide +kernel⟩
theorem mV_X6_lands : MV RX6 yX6_lands cX6_lands 3 (some .int) 1 := ⟨im_X6_lands, se_X6_lands, ini_X6, cd_X6_lands, rfl, by decide +kernel, by decide +kernel, by decide +kernel⟩
theorem mS_X6_within : MS yX6_within cX6_within 3 (some .boolean) 3 := ⟨st_X6_within, ini_X6, cd_X6_within, by decide +kernel, by decide +kernel, by decide +kernel⟩
theorem mV_X6_season : MV RX6 yX6_season cX6_season 3 (some .int) 1 := ⟨im_X6_season, se_X6_season, ini_X6, cd_X6_season, rfl, by decide +kernel, by decide +kernel, by decide +kernel⟩
theorem mV_X6_set : MV RX6 yX6_set cX6_set 6 (some .int) 3 := ⟨im_X6_set, se_X6_set, ini_X6, cd_X6_set, rfl, by decide +kernel, by decide +kernel, by decide +kernel⟩
theorem mV_X2_has : MV RX2 yX2_has cX2_has 2 (some .boolean) 1 := ⟨im_X2_has, se_X2_has, ini_X2, cd_X2_has, rfl, by decide +kernel, by decide +kernel, by decide +kernel⟩
theorem mV_X3_get : MV RX3 yX3_get cX3_get 2 (some .int) 1 := ⟨im_X3_get, se_X3_get, ini_X3, cd_X3_get, rfl, by decide +kernel, by decide +kernel, by decide +kernel⟩
theorem mV_X6_say : MV RX6 yX6_say cX6_say 2 (some .int) 1 := ⟨im_X6_say, se_X6_say, ini_X6, cd_X6_say, rfl, by decide +kernel, by decide +kernel, by decide +kernel⟩
theorem mV_X1_add : MV RX1 yX1_add cX1_add 2 (some .int) 1 := ⟨im_X1_add, se_X1_add, ini_X1, cd_X1_add, rfl, by decide +kernel, by decide +kernel, by decide +kernel⟩
theorem mV_X6_wipe : MV RX6 yX6_wipe cX6_wipe 1 (some .int) 0 := ⟨im_X6_wipe, se_X6_wipe, ini_X6, cd_X6_wipe, rfl, by decide +kernel, by decide +kernel, by decide +kernel⟩
theorem mV_X1_clear : MV RX1 yX1_clear cX1_clear 2 (some .int) 0 := ⟨im_X1_clear, se_X1_clear, ini_X1, cd_X1_clear, rfl, by decide +kernel, by decide +kernel, by decide +kernel⟩
theorem mV_X6_fault : MV RX6 yX6_fault cX6_fault 1 (some .int) 0 := ⟨im_X6_fault, se_X6_fault, ini_X6, cd_X6_fault, rfl, by decide +kernel, by decide +kernel, by decide +kernel⟩
theorem mV_X1_firstFault : MV RX1 yX1_firstFault cX1_firstFault 4 (some .int) 1 := ⟨im_X1_firstFault, se_X1_firstFault, ini_X1, cd_X1_firstFault, rfl, by decide +kernel, by decide +kernel, by decide +kernel⟩
theorem mS_X1_isTime : MS yX1_isTime cX1_isTime 1 (some .boolean) 1 := ⟨st_X1_isTime, ini_X1, cd_X1_isTime, by decide +kernel, by decide +kernel, by decide +kernel⟩
theorem mS_X1_isChild : MS yX1_isChild cX1_isChild 2 (some .boolean) 2 := ⟨st_X1_isChild, ini_X1, cd_X1_isChild, by decide +kernel, by decide +kernel, by decide +kernel⟩
theorem mS_X1_isFate : MS yX1_isFate cX1_isFate 1 (some .boolean) 1 := ⟨st_X1_isFate, ini_X1, cd_X1_isFate, by decide +kernel, by decide +kernel, by decide +kernel⟩
theorem mV_X6_judge : MV RX6 yX6_judge cX6_judge 2 (some .int) 1 := ⟨im_X6_judge, se_X6_judge, ini_X6, cd_X6_judge, rfl, by decide +kernel, by decide +kernel, by decide +kernel⟩
theorem mV_X5_canBe : MV RX5 yX5_canBe cX5_canBe 6 (some .boolean) 3 := ⟨im_X5_canBe, se_X5_canBe, ini_X5, cd_X5_canBe, rfl, by decide +kernel, by decide +kernel, by decide +kernel⟩
theorem mV_X2_takeOver : MV RX2 yX2_takeOver cX2_takeOver 2 none 1 := ⟨im_X2_takeOver, se_X2_takeOver, ini_X2, cd_X2_takeOver, rfl, by decide +kernel, by decide +kernel, by decide +kernel⟩
theorem mV_X3_takeOver : MV RX3 yX3_takeOver cX3_takeOver 3 none 1 := ⟨im_X3_takeOver, se_X3_takeOver, ini_X3, cd_X3_takeOver, rfl, by decide +kernel, by decide +kernel, by decide +kernel⟩
theorem mS_X5_passTime : MS yX5_passTime cX5_passTime 2 none 2 := ⟨st_X5_passTime, ini_X5, cd_X5_passTime, by decide +kernel, by decide +kernel, by decide +kernel⟩
theorem mV_X2_passDays : MV RX2 yX2_passDays cX2_passDays 3 none 1 := ⟨im_X2_passDays, se_X2_passDays, ini_X2, cd_X2_passDays, rfl, by decide +kernel, by decide +kernel, by decide +kernel⟩
theorem mV_X2_passEquinox : MV RX2 yX2_passEquinox cX2_passEquinox 2 none 0 := ⟨im_X2_passEquinox, se_X2_passEquinox, ini_X2, cd_X2_passEquinox, rfl, by decide +kernel, by decide +kernel, by decide +kernel⟩
theorem mV_X2_lives : MV RX2 yX2_lives cX2_lives 2 (some .boolean) 1 := ⟨im_X2_lives, se_X2_lives, ini_X2, cd_X2_lives, rfl, by decide +kernel, by decide +kernel, by decide +kernel⟩
theorem mS_X6_leftOver : MS yX6_leftOver cX6_leftOver 3 (some .int) 2 := ⟨st_X6_leftOver, ini_X6, cd_X6_leftOver, by decide +kernel, by decide +kernel, by decide +kernel⟩
theorem mV_X2_passSeason : MV RX2 yX2_passSeason cX2_passSeason 1 none 0 := ⟨im_X2_passSeason, se_X2_passSeason, ini_X2, cd_X2_passSeason, rfl, by decide +kernel, by decide +kernel, by decide +kernel⟩
theorem mS_X5_befall : MS yX5_befall cX5_befall 3 (some .int) 3 := ⟨st_X5_befall, ini_X5, cd_X5_befall, by decide +kernel, by decide +kernel, by decide +kernel⟩
theorem mV_X2_die : MV RX2 yX2_die cX2_die 2 (some .int) 1 := ⟨im_X2_die, se_X2_die, ini_X2, cd_X2_die, rfl, by decide +kernel, by decide +kernel, by decide +kernel⟩
theorem mV_X2_bind : MV RX2 yX2_bind cX2_bind 3 (some .int) 2 := ⟨im_X2_bind, se_X2_bind, ini_X2, cd_X2_bind, rfl, by decide +kernel, by decide +kernel, by decide +kernel⟩
theorem mV_X2_changeHats : MV RX2 yX2_changeHats cX2_changeHats 3 (some .int) 2 := ⟨im_X2_changeHats, se_X2_changeHats, ini_X2, cd_X2_changeHats, rfl, by decide +kernel, by decide +kernel, by decide +kernel⟩
theorem mV_X2_swapNames : MV RX2 yX2_swapNames cX2_swapNames 4 none 2 := ⟨im_X2_swapNames, se_X2_swapNames, ini_X2, cd_X2_swapNames, rfl, by decide +kernel, by decide +kernel, by decide +kernel⟩
theorem mV_X6_done : MV RX6 yX6_done cX6_done 1 (some .int) 0 := ⟨im_X6_done, se_X6_done, ini_X6, cd_X6_done, rfl, by decide +kernel, by decide +kernel, by decide +kernel⟩
theorem mV_X6_yearsCanBe : MV RX6 yX6_yearsCanBe cX6_yearsCanBe 1 (some .boolean) 0 := ⟨im_X6_yearsCanBe, se_X6_yearsCanBe, ini_X6, cd_X6_yearsCanBe, rfl, by decide +kernel, by decide +kernel, by decide +kernel⟩
theorem mV_X6_state : MV RX6 yX6_state cX6_state 3 (some .int) 2 := ⟨im_X6_state, se_X6_state, ini_X6, cd_X6_state, rfl, by decide +kernel, by decide +kernel, by decide +kernel⟩
theorem mV_X2_landAfter : MV RX2 yX2_landAfter cX2_landAfter 4 (some .int) 2 := ⟨im_X2_landAfter, se_X2_landAfter, ini_X2, cd_X2_landAfter, rfl, by decide +kernel, by decide +kernel, by decide +kernel⟩
theorem mS_J9_max_7cf53 : MS yJ9_max_7cf53 cJ9_max_7cf53 2 (some .int) 2 := ⟨st_J9_max_7cf53, ini_J9, cd_J9_max_7cf53, by decide +kernel, by decide +kernel, by decide +kernel⟩
theorem mV_X6_behind : MV RX6 yX6_behind cX6_behind 3 (some .int) 2 := ⟨im_X6_behind, se_X6_behind, ini_X6, cd_X6_behind, rfl, by decide +kernel, by decide +kernel, by decide +kernel⟩
theorem mV_X6_day : MV RX6 yX6_day cX6_day 1 (some .int) 0 := ⟨im_X6_day, se_X6_day, ini_X6, cd_X6_day, rfl, by decide +kernel, by decide +kernel, by decide +kernel⟩
theorem mV_X6_where : MV RX6 yX6_where cX6_where 3 (some .int) 2 := ⟨im_X6_where, se_X6_where, ini_X6, cd_X6_where, rfl, by decide +kernel, by decide +kernel, by decide +kernel⟩
theorem mV_X2_equinoxesTill : MV RX2 yX2_equinoxesTill cX2_equinoxesTill 2 (some .int) 1 := ⟨im_X2_equinoxesTill, se_X2_equinoxesTill, ini_X2, cd_X2_equinoxesTill, rfl, by decide +kernel, by decide +kernel, by decide +kernel⟩
theorem mS_X6_cut : MS yX6_cut cX6_cut 2 (some .int) 2 := ⟨st_X6_cut, ini_X6, cd_X6_cut, by decide +kernel, by decide +kernel, by decide +kernel⟩
theorem mV_X6_who : MV RX6 yX6_who cX6_who 3 (some .int) 2 := ⟨im_X6_who, se_X6_who, ini_X6, cd_X6_who, rfl, by decide +kernel, by decide +kernel, by decide +kernel⟩
theorem mV_X2_guestsAfter : MV RX2 yX2_guestsAfter cX2_guestsAfter 5 (some .int) 2 := ⟨im_X2_guestsAfter, se_X2_guestsAfter, ini_X2, cd_X2_guestsAfter, rfl, by decide +kernel, by decide +kernel, by decide +kernel⟩
theorem mV_X6_meet : MV RX6 yX6_meet cX6_meet 4 (some .int) 2 := ⟨im_X6_meet, se_X6_meet, ini_X6, cd_X6_meet, rfl, by decide +kernel, by decide +kernel, by decide +kernel⟩
theorem mV_X2_hasBoth : MV RX2 yX2_hasBoth cX2_hasBoth 3 (some .boolean) 2 := ⟨im_X2_hasBoth, se_X2_hasBoth, ini_X2, cd_X2_hasBoth, rfl, by decide +kernel, by decide +kernel, by decide +kernel⟩
theorem mV_X2_shareALand : MV RX2 yX2_shareALand cX2_shareALand 5 (some .boolean) 3 := ⟨im_X2_shareALand, se_X2_shareALand, ini_X2, cd_X2_shareALand, rfl, by decide +kernel, by decide +kernel, by decide +kernel⟩
theorem mV_X2_firstDayAfter : MV RX2 yX2_firstDayAfter cX2_firstDayAfter 2 (some .int) 1 := ⟨im_X2_firstDayAfter, se_X2_firstDayAfter, ini_X2, cd_X2_firstDayAfter, rfl, by decide +kernel, by decide +kernel, by decide +kernel⟩
theorem mV_X6_together : MV RX6 yX6_together cX6_together 6 (some .int) 3 := ⟨im_X6_together, se_X6_together, ini_X6, cd_X6_together, rfl, by decide +kernel, by decide +kernel, by decide +kernel⟩
theorem mS_J9_min_7cf53 : MS yJ9_min_7cf53 cJ9_min_7cf53 2 (some .int) 2 := ⟨st_J9_min_7cf53, ini_J9, cd_J9_min_7cf53, by decide +kernel, by decide +kernel, by decide +kernel⟩
theorem mV_X2_daysLikeSeason : MV RX2 yX2_daysLikeSeason cX2_daysLikeSeason 6 (some .int) 2 := ⟨im_X2_daysLikeSeason, se_X2_daysLikeSeason, ini_X2, cd_X2_daysLikeSeason, rfl, by decide +kernel, by decide +kernel, by decide +kernel⟩
theorem mV_X6_begin : MV RX6 yX6_begin cX6_begin 4 (some .int) 3 := ⟨im_X6_begin, se_X6_begin, ini_X6, cd_X6_begin, rfl, by decide +kernel, by decide +kernel, by decide +kernel⟩
theorem mV_X2_firstWar : MV RX2 yX2_firstWar cX2_firstWar 6 (some .int) 3 := ⟨im_X2_firstWar, se_X2_firstWar, ini_X2, cd_X2_firstWar, rfl, by decide +kernel, by decide +kernel, by decide +kernel⟩
theorem mV_X2_daysAway : MV RX2 yX2_daysAway cX2_daysAway 6 (some .int) 3 := ⟨im_X2_daysAway, se_X2_daysAway, ini_X2, cd_X2_daysAway, rfl, by decide +kernel, by decide +kernel, by decide +kernel⟩
theorem mV_X6_longest : MV RX6 yX6_longest cX6_longest 4 (some .int) 3 := ⟨im_X6_longest, se_X6_longest, ini_X6, cd_X6_longest, rfl, by decide +kernel, by decide +kernel, by decide +kernel⟩
theorem mV_X6_struck : MV RX6 yX6_struck cX6_struck 6 (some .int) 3 := ⟨im_X6_struck, se_X6_struck, ini_X6, cd_X6_struck, rfl, by decide +kernel, by decide +kernel, by decide +kernel⟩
theorem mV_X6_sure : MV RX6 yX6_sure cX6_sure 6 (some .int) 1 := ⟨im_X6_sure, se_X6_sure, ini_X6, cd_X6_sure, rfl, by decide +kernel, by decide +kernel, by decide +kernel⟩
theorem mV_X6_fooled : MV RX6 yX6_fooled cX6_fooled 8 (some .int) 3 := ⟨im_X6_fooled, se_X6_fooled, ini_X6, cd_X6_fooled, rfl, by decide +kernel, by decide +kernel, by decide +kernel⟩
theorem mV_X2_bearerOf : MV RX2 yX2_bearerOf cX2_bearerOf 3 (some .int) 1 := ⟨im_X2_bearerOf, se_X2_bearerOf, ini_X2, cd_X2_bearerOf, rfl, by decide +kernel, by decide +kernel, by decide +kernel⟩
theorem mV_X6_letter : MV RX6 yX6_letter cX6_letter 3 (some .int) 2 := ⟨im_X6_letter, se_X6_letter, ini_X6, cd_X6_letter, rfl, by decide +kernel, by decide +kernel, by decide +kernel⟩
theorem mV_X6_copy : MV RX6 yX6_copy cX6_copy 5 (some .int) 1 := ⟨im_X6_copy, se_X6_copy, ini_X6, cd_X6_copy, rfl, by decide +kernel, by decide +kernel, by decide +kernel⟩
theorem mV_X6_furs : MV RX6 yX6_furs cX6_furs 7 (some .int) 2 := ⟨im_X6_furs, se_X6_furs, ini_X6, cd_X6_furs, rfl, by decide +kernel, by decide +kernel, by decide +kernel⟩
theorem mV_X2_fursAfter : MV RX2 yX2_fursAfter cX2_fursAfter 4 (some .int) 1 := ⟨im_X2_fursAfter, se_X2_fursAfter, ini_X2, cd_X2_fursAfter, rfl, by decide +kernel, by decide +kernel, by decide +kernel⟩
theorem mV_X6_seen : MV RX6 yX6_seen cX6_seen 3 (some .int) 2 := ⟨im_X6_seen, se_X6_seen, ini_X6, cd_X6_seen, rfl, by decide +kernel, by decide +kernel, by decide +kernel⟩
theorem mV_X6_forget : MV RX6 yX6_forget cX6_forget 2 (some .int) 0 := ⟨im_X6_forget, se_X6_forget, ini_X6, cd_X6_forget, rfl, by decide +kernel, by decide +kernel, by decide +kernel⟩
theorem mV_X6_changed : MV RX6 yX6_changed cX6_changed 2 (some .int) 1 := ⟨im_X6_changed, se_X6_changed, ini_X6, cd_X6_changed, rfl, by decide +kernel, by decide +kernel, by decide +kernel⟩
theorem mV_X0_prepare : MV RX0 yX0_prepare cX0_prepare 3 none 1 := ⟨im_X0_prepare, se_X0_prepare, ini_X0, cd_X0_prepare, rfl, by decide +kernel, by decide +kernel, by decide +kernel⟩
theorem mV_X0_takeBack : MV RX0 yX0_takeBack cX0_takeBack 3 none 2 := ⟨im_X0_takeBack, se_X0_takeBack, ini_X0, cd_X0_takeBack, rfl, by decide +kernel, by decide +kernel, by decide +kernel⟩
theorem mV_X0_countWant : MV RX0 yX0_countWant cX0_countWant 3 none 2 := ⟨im_X0_countWant, se_X0_countWant, ini_X0, cd_X0_countWant, rfl, by decide +kernel, by decide +kernel, by decide +kernel⟩
theorem mV_X0_countBearer : MV RX0 yX0_countBearer cX0_countBearer 3 none 2 := ⟨im_X0_countBearer, se_X0_countBearer, ini_X0, cd_X0_countBearer, rfl, by decide +kernel, by decide +kernel, by decide +kernel⟩
theorem mV_X0_heed : MV RX0 yX0_heed cX0_heed 4 none 2 := ⟨im_X0_heed, se_X0_heed, ini_X0, cd_X0_heed, rfl, by decide +kernel, by decide +kernel, by decide +kernel⟩
theorem mV_X0_isOpen : MV RX0 yX0_isOpen cX0_isOpen 2 (some .boolean) 1 := ⟨im_X0_isOpen, se_X0_isOpen, ini_X0, cd_X0_isOpen, rfl, by decide +kernel, by decide +kernel, by decide +kernel⟩
theorem mV_X0_ways : MV RX0 yX0_ways cX0_ways 1 (some .int) 0 := ⟨im_X0_ways, se_X0_ways, ini_X0, cd_X0_ways, rfl, by decide +kernel, by decide +kernel, by decide +kernel⟩
theorem mV_X0_waysIf : MV RX0 yX0_waysIf cX0_waysIf 4 (some .int) 2 := ⟨im_X0_waysIf, se_X0_waysIf, ini_X0, cd_X0_waysIf, rfl, by decide +kernel, by decide +kernel, by decide +kernel⟩
theorem mS_X0_picks : MS yX0_picks cX0_picks 4 (some .int) 2 := ⟨st_X0_picks, ini_X0, cd_X0_picks, by decide +kernel, by decide +kernel, by decide +kernel⟩
theorem mV_X0_rowAt : MV RX0 yX0_rowAt cX0_rowAt 9 (some .int) 2 := ⟨im_X0_rowAt, se_X0_rowAt, ini_X0, cd_X0_rowAt, rfl, by decide +kernel, by decide +kernel, by decide +kernel⟩
theorem mV_X0_waysWith : MV RX0 yX0_waysWith cX0_waysWith 4 (some .int) 2 := ⟨im_X0_waysWith, se_X0_waysWith, ini_X0, cd_X0_waysWith, rfl, by decide +kernel, by decide +kernel, by decide +kernel⟩
theorem mV_X0_suits : MV RX0 yX0_suits cX0_suits 3 (some .boolean) 2 := ⟨im_X0_suits, se_X0_suits, ini_X0, cd_X0_suits, rfl, by decide +kernel, by decide +kernel, by decide +kernel⟩
theorem mV_X0_give : MV RX0 yX0_give cX0_give 3 none 2 := ⟨im_X0_give, se_X0_give, ini_X0, cd_X0_give, rfl, by decide +kernel, by decide +kernel, by decide +kernel⟩
theorem mV_X6_names : MV RX6 yX6_names cX6_names 2 (some .int) 1 := ⟨im_X6_names, se_X6_names, ini_X6, cd_X6_names, rfl, by decide +kernel, by decide +kernel, by decide +kernel⟩
theorem mV_X0_namesFor : MV RX0 yX0_namesFor cX0_namesFor 5 (some .int) 2 := ⟨im_X0_namesFor, se_X0_namesFor, ini_X0, cd_X0_namesFor, rfl, by decide +kernel, by decide +kernel, by decide +kernel⟩
theorem mV_X6_hear : MV RX6 yX6_hear cX6_hear 3 (some .int) 1 := ⟨im_X6_hear, se_X6_hear, ini_X6, cd_X6_hear, rfl, by decide +kernel, by decide +kernel, by decide +kernel⟩
theorem mV_X0_nameToHear : MV RX0 yX0_nameToHear cX0_nameToHear 5 (some .int) 1 := ⟨im_X0_nameToHear, se_X0_nameToHear, ini_X0, cd_X0_nameToHear, rfl, by decide +kernel, by decide +kernel, by decide +kernel⟩
theorem mV_X0_mostLeftBy : MV RX0 yX0_mostLeftBy cX0_mostLeftBy 4 (some .int) 1 := ⟨im_X0_mostLeftBy, se_X0_mostLeftBy, ini_X0, cd_X0_mostLeftBy, rfl, by decide +kernel, by decide +kernel, by decide +kernel⟩
theorem mV_X6_undo : MV RX6 yX6_undo cX6_undo 3 (some .int) 0 := ⟨im_X6_undo, se_X6_undo, ini_X6, cd_X6_undo, rfl, by decide +kernel, by decide +kernel, by decide +kernel⟩
theorem mV_X6_marriages : MV RX6 yX6_marriages cX6_marriages 2 (some .int) 1 := ⟨im_X6_marriages, se_X6_marriages, ini_X6, cd_X6_marriages, rfl, by decide +kernel, by decide +kernel, by decide +kernel⟩
theorem mV_X4_mostTwos : MV RX4 yX4_mostTwos cX4_mostTwos 5 (some .int) 2 := ⟨im_X4_mostTwos, se_X4_mostTwos, ini_X4, cd_X4_mostTwos, rfl, by decide +kernel, by decide +kernel, by decide +kernel⟩
theorem mS_X4_matesOf : MS yX4_matesOf cX4_matesOf 5 (some .int) 3 := ⟨st_X4_matesOf, ini_X4, cd_X4_matesOf, by decide +kernel, by decide +kernel, by decide +kernel⟩
theorem mS_X4_isFree : MS yX4_isFree cX4_isFree 2 (some .boolean) 2 := ⟨st_X4_isFree, ini_X4, cd_X4_isFree, by decide +kernel, by decide +kernel, by decide +kernel⟩
theorem mS_X4_areApart : MS yX4_areApart cX4_areApart 5 (some .boolean) 4 := ⟨st_X4_areApart, ini_X4, cd_X4_areApart, by decide +kernel, by decide +kernel, by decide +kernel⟩
theorem mV_X4_bestOf : MV RX4 yX4_bestOf cX4_bestOf 6 (some .int) 1 := ⟨im_X4_bestOf, se_X4_bestOf, ini_X4, cd_X4_bestOf, rfl, by decide +kernel, by decide +kernel, by decide +kernel⟩
theorem mS_J6_numberOfTrailingZeros_0f7a4 : MS yJ6_numberOfTrailingZeros_0f7a4 cJ6_numberOfTrailingZeros_0f7a4 2 (some .int) 1 := ⟨st_J6_numberOfTrailingZeros_0f7a4, ini_J6, cd_J6_numberOfTrailingZeros_0f7a4, by decide +kernel, by decide +kernel, by decide +kernel⟩
theorem mV_X6_deaths : MV RX6 yX6_deaths cX6_deaths 13 (some .long) 4 := ⟨im_X6_deaths, se_X6_deaths, ini_X6, cd_X6_deaths, rfl, by decide +kernel, by decide +kernel, by decide +kernel⟩
theorem mS_J6_bitCount_0f7a4 : MS yJ6_bitCount_0f7a4 cJ6_bitCount_0f7a4 1 (some .int) 1 := ⟨st_J6_bitCount_0f7a4, ini_J6, cd_J6_bitCount_0f7a4, by decide +kernel, by decide +kernel, by decide +kernel⟩
theorem mS_X6_commonDivisor : MS yX6_commonDivisor cX6_commonDivisor 11 (some .long) 2 := ⟨st_X6_commonDivisor, ini_X6, cd_X6_commonDivisor, by decide +kernel, by decide +kernel, by decide +kernel⟩
theorem mS_X6_cut_ : MS yX6_cut_ cX6_cut_ 4 (some .long) 2 := ⟨st_X6_cut_, ini_X6, cd_X6_cut_, by decide +kernel, by decide +kernel, by decide +kernel⟩
theorem mS_X6_power : MS yX6_power cX6_power 6 (some .long) 2 := ⟨st_X6_power, ini_X6, cd_X6_power, by decide +kernel, by decide +kernel, by decide +kernel⟩
theorem mV_X6_year : MV RX6 yX6_year cX6_year 4 (some .int) 3 := ⟨im_X6_year, se_X6_year, ini_X6, cd_X6_year, rfl, by decide +kernel, by decide +kernel, by decide +kernel⟩
theorem mV_X6_drawYear : MV RX6 yX6_drawYear cX6_drawYear 5 none 2 := ⟨im_X6_drawYear, se_X6_drawYear, ini_X6, cd_X6_drawYear, rfl, by decide +kernel, by decide +kernel, by decide +kernel⟩
theorem mV_X6_drawAct : MV RX6 yX6_drawAct cX6_drawAct 4 none 1 := ⟨im_X6_drawAct, se_X6_drawAct, ini_X6, cd_X6_drawAct, rfl, by decide +kernel, by decide +kernel, by decide +kernel⟩
theorem mV_X2_ownNames : MV RX2 yX2_ownNames cX2_ownNames 3 (some .int) 0 := ⟨im_X2_ownNames, se_X2_ownNames, ini_X2, cd_X2_ownNames, rfl, by decide +kernel, by decide +kernel, by decide +kernel⟩
theorem mV_X2_emptyLands : MV RX2 yX2_emptyLands cX2_emptyLands 3 (some .int) 0 := ⟨im_X2_emptyLands, se_X2_emptyLands, ini_X2, cd_X2_emptyLands, rfl, by decide +kernel, by decide +kernel, by decide +kernel⟩
theorem mV_X6_image : MV RX6 yX6_image cX6_image 2 (some .int) 1 := ⟨im_X6_image, se_X6_image, ini_X6, cd_X6_image, rfl, by decide +kernel, by decide +kernel, by decide +kernel⟩
theorem mV_X6_imageAt : MV RX6 yX6_imageAt cX6_imageAt 2 (some (.object "HostageRound$Round")) 1 := ⟨im_X6_imageAt, se_X6_imageAt, ini_X6, cd_X6_imageAt, rfl, by decide +kernel, by decide +kernel, by decide +kernel⟩
theorem mV_X6_restore : MV RX6 yX6_restore cX6_restore 2 (some .int) 1 := ⟨im_X6_restore, se_X6_restore, ini_X6, cd_X6_restore, rfl, by decide +kernel, by decide +kernel, by decide +kernel⟩
theorem mV_X6_told : MV RX6 yX6_told cX6_told 2 (some .int) 1 := ⟨im_X6_told, se_X6_told, ini_X6, cd_X6_told, rfl, by decide +kernel, by decide +kernel, by decide +kernel⟩
theorem mV_X6_toldOfOne : MV RX6 yX6_toldOfOne cX6_toldOfOne 2 (some .int) 1 := ⟨im_X6_toldOfOne, se_X6_toldOfOne, ini_X6, cd_X6_toldOfOne, rfl, by decide +kernel, by decide +kernel, by decide +kernel⟩
theorem mI_X7_init : MI yX7_init cX7_init 1 0 := ⟨im_X7_init, ini_X7, cd_X7_init, rfl, by decide +kernel, by decide +kernel, by decide +kernel⟩
theorem mV_X7_clear : MV RX7 yX7_clear cX7_clear 2 none 0 := ⟨im_X7_clear, se_X7_clear, ini_X7, cd_X7_clear, rfl, by decide +kernel, by decide +kernel, by decide +kernel⟩
theorem mV_X7_lands : MV RX7 yX7_lands cX7_lands 3 (some .int) 1 := ⟨im_X7_lands, se_X7_lands, ini_X7, cd_X7_lands, rfl, by decide +kernel, by decide +kernel, by decide +kernel⟩
theorem mS_X7_in : MS yX7_in cX7_in 3 (some .boolean) 3 := ⟨st_X7_in, ini_X7, cd_X7_in, by decide +kernel, by decide +kernel, by decide +kernel⟩
theorem mV_X7_season : MV RX7 yX7_season cX7_season 3 (some .int) 1 := ⟨im_X7_season, se_X7_season, ini_X7, cd_X7_season, rfl, by decide +kernel, by decide +kernel, by decide +kernel⟩
theorem mV_X7_set : MV RX7 yX7_set cX7_set 5 (some .int) 3 := ⟨im_X7_set, se_X7_set, ini_X7, cd_X7_set, rfl, by decide +kernel, by decide +kernel, by decide +kernel⟩
theorem mV_X7_isOne : MV RX7 yX7_isOne cX7_isOne 2 (some .boolean) 1 := ⟨im_X7_isOne, se_X7_isOne, ini_X7, cd_X7_isOne, rfl, by decide +kernel, by decide +kernel, by decide +kernel⟩
theorem mV_X7_say : MV RX7 yX7_say cX7_say 2 (some .int) 1 := ⟨im_X7_say, se_X7_say, ini_X7, cd_X7_say, rfl, by decide +kernel, by decide +kernel, by decide +kernel⟩
theorem mV_X7_wipe : MV RX7 yX7_wipe cX7_wipe 2 (some .int) 0 := ⟨im_X7_wipe, se_X7_wipe, ini_X7, cd_X7_wipe, rfl, by decide +kernel, by decide +kernel, by decide +kernel⟩
theorem mV_X7_fault : MV RX7 yX7_fault cX7_fault 1 (some .int) 0 := ⟨im_X7_fault, se_X7_fault, ini_X7, cd_X7_fault, rfl, by decide +kernel, by decide +kernel, by decide +kernel⟩
theorem mV_X7_faultOf : MV RX7 yX7_faultOf cX7_faultOf 5 (some .int) 0 := ⟨im_X7_faultOf, se_X7_faultOf, ini_X7, cd_X7_faultOf, rfl, by decide +kernel, by decide +kernel, by decide +kernel⟩
theorem mV_X7_isChild : MV RX7 yX7_isChild cX7_isChild 2 (some .boolean) 1 := ⟨im_X7_isChild, se_X7_isChild, ini_X7, cd_X7_isChild, rfl, by decide +kernel, by decide +kernel, by decide +kernel⟩
theorem mV_X7_judge : MV RX7 yX7_judge cX7_judge 3 (some .int) 1 := ⟨im_X7_judge, se_X7_judge, ini_X7, cd_X7_judge, rfl, by decide +kernel, by decide +kernel, by decide +kernel⟩
theorem mV_X7_goYears : MV RX7 yX7_goYears cX7_goYears 5 (some .int) 0 := ⟨im_X7_goYears, se_X7_goYears, ini_X7, cd_X7_goYears, rfl, by decide +kernel, by decide +kernel, by decide +kernel⟩
theorem mV_X7_asNow : MV RX7 yX7_asNow cX7_asNow 2 none 0 := ⟨im_X7_asNow, se_X7_asNow, ini_X7, cd_X7_asNow, rfl, by decide +kernel, by decide +kernel, by decide +kernel⟩
theorem mV_X7_days : MV RX7 yX7_days cX7_days 3 none 1 := ⟨im_X7_days, se_X7_days, ini_X7, cd_X7_days, rfl, by decide +kernel, by decide +kernel, by decide +kernel⟩
theorem mV_X7_equinox : MV RX7 yX7_equinox cX7_equinox 2 none 0 := ⟨im_X7_equinox, se_X7_equinox, ini_X7, cd_X7_equinox, rfl, by decide +kernel, by decide +kernel, by decide +kernel⟩
theorem mV_X7_whyNoHats : MV RX7 yX7_whyNoHats cX7_whyNoHats 3 (some .int) 2 := ⟨im_X7_whyNoHats, se_X7_whyNoHats, ini_X7, cd_X7_whyNoHats, rfl, by decide +kernel, by decide +kernel, by decide +kernel⟩
theorem mV_X7_hats : MV RX7 yX7_hats cX7_hats 4 none 2 := ⟨im_X7_hats, se_X7_hats, ini_X7, cd_X7_hats, rfl, by decide +kernel, by decide +kernel, by decide +kernel⟩
theorem mV_X7_whyNot : MV RX7 yX7_whyNot cX7_whyNot 3 (some .int) 2 := ⟨im_X7_whyNot, se_X7_whyNot, ini_X7, cd_X7_whyNot, rfl, by decide +kernel, by decide +kernel, by decide +kernel⟩
theorem mV_X7_done : MV RX7 yX7_done cX7_done 2 (some .int) 0 := ⟨im_X7_done, se_X7_done, ini_X7, cd_X7_done, rfl, by decide +kernel, by decide +kernel, by decide +kernel⟩
theorem mV_X7_barOfYears : MV RX7 yX7_barOfYears cX7_barOfYears 1 (some .int) 0 := ⟨im_X7_barOfYears, se_X7_barOfYears, ini_X7, cd_X7_barOfYears, rfl, by decide +kernel, by decide +kernel, by decide +kernel⟩
theorem mV_X7_state : MV RX7 yX7_state cX7_state 3 (some .int) 2 := ⟨im_X7_state, se_X7_state, ini_X7, cd_X7_state, rfl, by decide +kernel, by decide +kernel, by decide +kernel⟩
theorem mV_X7_behind : MV RX7 yX7_behind cX7_behind 3 (some .int) 2 := ⟨im_X7_behind, se_X7_behind, ini_X7, cd_X7_behind, rfl, by decide +kernel, by decide +kernel, by decide +kernel⟩
theorem mV_X7_day : MV RX7 yX7_day cX7_day 1 (some .int) 0 := ⟨im_X7_day, se_X7_day, ini_X7, cd_X7_day, rfl, by decide +kernel, by decide +kernel, by decide +kernel⟩
theorem mV_X7_where : MV RX7 yX7_where cX7_where 3 (some .int) 2 := ⟨im_X7_where, se_X7_where, ini_X7, cd_X7_where, rfl, by decide +kernel, by decide +kernel, by decide +kernel⟩
theorem mV_X7_equinoxes : MV RX7 yX7_equinoxes cX7_equinoxes 2 (some .int) 1 := ⟨im_X7_equinoxes, se_X7_equinoxes, ini_X7, cd_X7_equinoxes, rfl, by decide +kernel, by decide +kernel, by decide +kernel⟩
theorem mV_X7_whereBehind : MV RX7 yX7_whereBehind cX7_whereBehind 5 (some .int) 2 := ⟨im_X7_whereBehind, se_X7_whereBehind, ini_X7, cd_X7_whereBehind, rfl, by decide +kernel, by decide +kernel, by decide +kernel⟩
theorem mV_X7_who : MV RX7 yX7_who cX7_who 5 (some .int) 2 := ⟨im_X7_who, se_X7_who, ini_X7, cd_X7_who, rfl, by decide +kernel, by decide +kernel, by decide +kernel⟩
theorem mV_X7_meet : MV RX7 yX7_meet cX7_meet 4 (some .int) 2 := ⟨im_X7_meet, se_X7_meet, ini_X7, cd_X7_meet, rfl, by decide +kernel, by decide +kernel, by decide +kernel⟩
theorem mV_X7_areTwo : MV RX7 yX7_areTwo cX7_areTwo 3 (some .boolean) 2 := ⟨im_X7_areTwo, se_X7_areTwo, ini_X7, cd_X7_areTwo, rfl, by decide +kernel, by decide +kernel, by decide +kernel⟩
theorem mV_X7_areIn : MV RX7 yX7_areIn cX7_areIn 4 (some .boolean) 3 := ⟨im_X7_areIn, se_X7_areIn, ini_X7, cd_X7_areIn, rfl, by decide +kernel, by decide +kernel, by decide +kernel⟩
theorem mV_X7_firstDay : MV RX7 yX7_firstDay cX7_firstDay 2 (some .int) 1 := ⟨im_X7_firstDay, se_X7_firstDay, ini_X7, cd_X7_firstDay, rfl, by decide +kernel, by decide +kernel, by decide +kernel⟩
theorem mV_X7_together : MV RX7 yX7_together cX7_together 6 (some .int) 3 := ⟨im_X7_together, se_X7_together, ini_X7, cd_X7_together, rfl, by decide +kernel, by decide +kernel, by decide +kernel⟩
theorem mV_X7_begin : MV RX7 yX7_begin cX7_begin 5 (some .int) 3 := ⟨im_X7_begin, se_X7_begin, ini_X7, cd_X7_begin, rfl, by decide +kernel, by decide +kernel, by decide +kernel⟩
theorem mV_X7_isThere : MV RX7 yX7_isThere cX7_isThere 7 (some .boolean) 4 := ⟨im_X7_isThere, se_X7_isThere, ini_X7, cd_X7_isThere, rfl, by decide +kernel, by decide +kernel, by decide +kernel⟩
theorem mV_X7_longest : MV RX7 yX7_longest cX7_longest 5 (some .int) 3 := ⟨im_X7_longest, se_X7_longest, ini_X7, cd_X7_longest, rfl, by decide +kernel, by decide +kernel, by decide +kernel⟩
theorem mV_X7_struck : MV RX7 yX7_struck cX7_struck 6 (some .int) 3 := ⟨im_X7_struck, se_X7_struck, ini_X7, cd_X7_struck, rfl, by decide +kernel, by decide +kernel, by decide +kernel⟩
theorem mV_X7_isWar : MV RX7 yX7_isWar cX7_isWar 3 (some .boolean) 2 := ⟨im_X7_isWar, se_X7_isWar, ini_X7, cd_X7_isWar, rfl, by decide +kernel, by decide +kernel, by decide +kernel⟩
theorem mV_X7_sure : MV RX7 yX7_sure cX7_sure 6 (some .int) 1 := ⟨im_X7_sure, se_X7_sure, ini_X7, cd_X7_sure, rfl, by decide +kernel, by decide +kernel, by decide +kernel⟩
theorem mV_X7_fooled : MV RX7 yX7_fooled cX7_fooled 8 (some .int) 3 := ⟨im_X7_fooled, se_X7_fooled, ini_X7, cd_X7_fooled, rfl, by decide +kernel, by decide +kernel, by decide +kernel⟩
theorem mV_X7_letter : MV RX7 yX7_letter cX7_letter 3 (some .int) 2 := ⟨im_X7_letter, se_X7_letter, ini_X7, cd_X7_letter, rfl, by decide +kernel, by decide +kernel, by decide +kernel⟩
theorem mV_X7_copy : MV RX7 yX7_copy cX7_copy 3 (some .int) 1 := ⟨im_X7_copy, se_X7_copy, ini_X7, cd_X7_copy, rfl, by decide +kernel, by decide +kernel, by decide +kernel⟩
theorem mV_X7_furs : MV RX7 yX7_furs cX7_furs 8 (some .int) 2 := ⟨im_X7_furs, se_X7_furs, ini_X7, cd_X7_furs, rfl, by decide +kernel, by decide +kernel, by decide +kernel⟩
theorem mV_X7_seen : MV RX7 yX7_seen cX7_seen 3 (some .int) 2 := ⟨im_X7_seen, se_X7_seen, ini_X7, cd_X7_seen, rfl, by decide +kernel, by decide +kernel, by decide +kernel⟩
theorem mV_X7_forget : MV RX7 yX7_forget cX7_forget 2 (some .int) 0 := ⟨im_X7_forget, se_X7_forget, ini_X7, cd_X7_forget, rfl, by decide +kernel, by decide +kernel, by decide +kernel⟩
theorem mV_X7_changed : MV RX7 yX7_changed cX7_changed 7 (some .int) 1 := ⟨im_X7_changed, se_X7_changed, ini_X7, cd_X7_changed, rfl, by decide +kernel, by decide +kernel, by decide +kernel⟩
theorem mV_X7_codes : MV RX7 yX7_codes cX7_codes 3 (some .int) 0 := ⟨im_X7_codes, se_X7_codes, ini_X7, cd_X7_codes, rfl, by decide +kernel, by decide +kernel, by decide +kernel⟩
theorem mV_X7_isRow : MV RX7 yX7_isRow cX7_isRow 4 (some .boolean) 1 := ⟨im_X7_isRow, se_X7_isRow, ini_X7, cd_X7_isRow, rfl, by decide +kernel, by decide +kernel, by decide +kernel⟩
theorem mV_X7_deals : MV RX7 yX7_deals cX7_deals 6 (some .boolean) 1 := ⟨im_X7_deals, se_X7_deals, ini_X7, cd_X7_deals, rfl, by decide +kernel, by decide +kernel, by decide +kernel⟩
theorem mV_X7_living : MV RX7 yX7_living cX7_living 3 (some .int) 0 := ⟨im_X7_living, se_X7_living, ini_X7, cd_X7_living, rfl, by decide +kernel, by decide +kernel, by decide +kernel⟩
theorem mS_X7_has : MS yX7_has cX7_has 2 (some .boolean) 2 := ⟨st_X7_has, ini_X7, cd_X7_has, by decide +kernel, by decide +kernel, by decide +kernel⟩
theorem mV_X7_coughOf : MV RX7 yX7_coughOf cX7_coughOf 4 (some .int) 1 := ⟨im_X7_coughOf, se_X7_coughOf, ini_X7, cd_X7_coughOf, rfl, by decide +kernel, by decide +kernel, by decide +kernel⟩
theorem mV_X7_names : MV RX7 yX7_names cX7_names 5 (some .int) 1 := ⟨im_X7_names, se_X7_names, ini_X7, cd_X7_names, rfl, by decide +kernel, by decide +kernel, by decide +kernel⟩
theorem mV_X7_hear : MV RX7 yX7_hear cX7_hear 9 (some .int) 1 := ⟨im_X7_hear, se_X7_hear, ini_X7, cd_X7_hear, rfl, by decide +kernel, by decide +kernel, by decide +kernel⟩
theorem mV_X7_undo : MV RX7 yX7_undo cX7_undo 5 (some .int) 0 := ⟨im_X7_undo, se_X7_undo, ini_X7, cd_X7_undo, rfl, by decide +kernel, by decide +kernel, by decide +kernel⟩
theorem mV_X7_marriages : MV RX7 yX7_marriages cX7_marriages 12 (some .int) 1 := ⟨im_X7_marriages, se_X7_marriages, ini_X7, cd_X7_marriages, rfl, by decide +kernel, by decide +kernel, by decide +kernel⟩
theorem mV_X7_doMeet : MV RX7 yX7_doMeet cX7_doMeet 6 (some .boolean) 3 := ⟨im_X7_doMeet, se_X7_doMeet, ini_X7, cd_X7_doMeet, rfl, by decide +kernel, by decide +kernel, by decide +kernel⟩
theorem mV_X7_deaths : MV RX7 yX7_deaths cX7_deaths 16 (some .long) 4 := ⟨im_X7_deaths, se_X7_deaths, ini_X7, cd_X7_deaths, rfl, by decide +kernel, by decide +kernel, by decide +kernel⟩
theorem mV_X7_alive : MV RX7 yX7_alive cX7_alive 3 (some .int) 0 := ⟨im_X7_alive, se_X7_alive, ini_X7, cd_X7_alive, rfl, by decide +kernel, by decide +kernel, by decide +kernel⟩
theorem mV_X7_year : MV RX7 yX7_year cX7_year 9 (some .int) 3 := ⟨im_X7_year, se_X7_year, ini_X7, cd_X7_year, rfl, by decide +kernel, by decide +kernel, by decide +kernel⟩
theorem mV_X7_image : MV RX7 yX7_image cX7_image 4 (some .int) 1 := ⟨im_X7_image, se_X7_image, ini_X7, cd_X7_image, rfl, by decide +kernel, by decide +kernel, by decide +kernel⟩
theorem mV_X7_restore : MV RX7 yX7_restore cX7_restore 4 (some .int) 1 := ⟨im_X7_restore, se_X7_restore, ini_X7, cd_X7_restore, rfl, by decide +kernel, by decide +kernel, by decide +kernel⟩
theorem mV_X7_told : MV RX7 yX7_told cX7_told 4 (some .int) 1 := ⟨im_X7_told, se_X7_told, ini_X7, cd_X7_told, rfl, by decide +kernel, by decide +kernel, by decide +kernel⟩
def nestW : List Cond := [.methodLinkNest RX6 9 yX2_init RX6, .methodLinkNest RX6 36 yX1_init RX6, .methodLinkNest RX6 43 yX5_init RX6, .methodLinkNest RX6 50 yX0_init RX6, .methodLinkNest RX6 57 yX4_init RX6, .methodLinkNest RX2 91 yX6_leftOver RX6, .methodLinkNest RX2 103 yX6_cut RX6]
set_option maxRecDepth 100000 in
theorem nestW_tbl : ∀ w ∈ nestW, w ∈ lw_tbl := by
  intro w hw
  simp only [nestW, List.mem_cons, List.not_mem_nil, or_false] at hw
  rcases hw with rfl | rfl | rfl | rfl | rfl | rfl | rfl
  · exact List.mem_of_getElem? (i := 63) rfl
  · exact List.mem_of_getElem? (i := 151) rfl
  · exact List.mem_of_getElem? (i := 169) rfl
  · exact List.mem_of_getElem? (i := 184) rfl
  · exact List.mem_of_getElem? (i := 214) rfl
  · exact List.mem_of_getElem? (i := 362) rfl
  · exact List.mem_of_getElem? (i := 424) rfl
theorem nl_X6_9 : Cond.methodLinkNest RX6 9 yX2_init RX6 ∈ nestW := List.mem_of_getElem? (i := 0) rfl
theorem nl_X6_36 : Cond.methodLinkNest RX6 36 yX1_init RX6 ∈ nestW := List.mem_of_getElem? (i := 1) rfl
theorem nl_X6_43 : Cond.methodLinkNest RX6 43 yX5_init RX6 ∈ nestW := List.mem_of_getElem? (i := 2) rfl
theorem nl_X6_50 : Cond.methodLinkNest RX6 50 yX0_init RX6 ∈ nestW := List.mem_of_getElem? (i := 3) rfl
theorem nl_X6_57 : Cond.methodLinkNest RX6 57 yX4_init RX6 ∈ nestW := List.mem_of_getElem? (i := 4) rfl
theorem nl_X2_91 : Cond.methodLinkNest RX2 91 yX6_leftOver RX6 ∈ nestW := List.mem_of_getElem? (i := 5) rfl
theorem nl_X2_103 : Cond.methodLinkNest RX2 103 yX6_cut RX6 ∈ nestW := List.mem_of_getElem? (i := 6) rfl
end
section
-- the classes of the worlds, the standard start and ends of a method that makes nothing, and its calls
abbrev classes : List vw_C := [(RX0, TX0, 7), (RX1, TX1, 2), (RX2, TX2, 15), (RX3, TX3, 1), (RX4, TX4, 2), (RX5, TX5, 2), (RX6, TX6, 9), (RX7, TX7, 27)]
abbrev tysOf (cI cZ : ClassId) : List (ClassId × FieldType) := [(cI, .int), (cZ, .boolean)]
def NW (U : State) : Prop := ∀ w ∈ nestW, va_Nw w U
theorem nestW_form : ∀ w ∈ nestW, ∃ a i x h, w = Cond.methodLinkNest a i x h := by
  intro w hw
  simp only [nestW, List.mem_cons, List.not_mem_nil, or_false] at hw
  rcases hw with rfl | rfl | rfl | rfl | rfl | rfl | rfl <;> exact ⟨_, _, _, _, rfl⟩
theorem NW.warm {s U : State} (hW : s.WarmedH U.vm) (h : NW s) : NW U := by
  intro w hw
  obtain ⟨a, i, x, hh, rfl⟩ := nestW_form w hw
  exact va_Nw.warmM hW (h _ hw)
theorem NW.same {s U : State} (hv : s.vm = U.vm) (h : NW s) : NW U := by
  intro w hw
  obtain ⟨a, i, x, hh, rfl⟩ := nestW_form w hw
  exact va_Nw.same rfl hv (h _ hw)
def PreW (D : va_G) (cI cZ : ClassId) (av : List Value) (ws : va_W) : Array Value → State → Prop :=
  va_Pc av (fun U => va_P D classes ws U.heap ∧ va_K D classes (tysOf cI cZ) U ∧ va_D (fun _ => True) ws ∧ NW U)
theorem PreW.blind {D : va_G} {cI cZ : ClassId} {av : List Value} {ws : va_W} : FrameBlind (PreW D cI cZ av ws) := by
  intro a U g mk q
  obtain ⟨q0, qP, qK, qD, qN⟩ := q
  exact ⟨q0, qP, va_K.moved (u := U) (U := U.calling g mk a) (Vm.Alike.refl U.vm) qK, qD, NW.same (s := U) (U := U.calling g mk a) rfl qN⟩
def cOf (ws : va_W) : Nat → Prop := fun q => ∃ (k : Nat) (e : va_E), ws[k]? = some (q, e)
def QF (v : Option Value) : Array Value → State → Outcome → State → Prop := fun _ st oc t => oc = .returned v ∧ t.heap = st.heap
/-- a method that writes nothing, and its answer -/
def KF (l : Launch) (y : MethodName) (b : ByteArray) (nL : Nat) (ret : Option FieldType) (fr lo : Nat) (D : va_G) (cI cZ : ClassId) (av : List Value) (ws : va_W) (v : Option Value) : Prop :=
  Met l y (Cond.code y b nL ret :: WT) { frames := fr, cells := 0, slots := 0, locals := lo } (PreW D cI cZ av ws) (QF v) 0 0 (fun _ => False)
/-- a method that writes nothing, and what holds of its answer -/
def QR (post : Option Value → Prop) : Array Value → State → Outcome → State → Prop := fun _ st oc t => (∃ v, oc = .returned v ∧ post v) ∧ t.heap = st.heap
def KR (l : Launch) (y : MethodName) (b : ByteArray) (nL : Nat) (ret : Option FieldType) (fr lo : Nat) (D : va_G) (cI cZ : ClassId) (av : List Value) (ws : va_W) (post : Option Value → Prop) : Prop :=
  Met l y (Cond.code y b nL ret :: WT) { frames := fr, cells := 0, slots := 0, locals := lo } (PreW D cI cZ av ws) (QR post) 0 0 (fun _ => False)
/-- a method that writes in its world -/
def QW {S : Type} (post : Option Value → S → Prop) (D : va_G) (cells : S → va_W) (ws : va_W) : Array Value → State → Outcome → State → Prop :=
  fun _ st oc t => (∃ (v : Option Value) (u : S), oc = .returned v ∧ post v u ∧ va_P D classes (cells u) t.heap) ∧ va_F (cOf ws) st t
def KW {S : Type} (l : Launch) (y : MethodName) (b : ByteArray) (nL : Nat) (ret : Option FieldType) (fr lo : Nat) (D : va_G) (cI cZ : ClassId) (av : List Value) (ws : va_W) (post : Option Value → S → Prop) (cells : S → va_W) : Prop :=
  Met l y (Cond.code y b nL ret :: WT) { frames := fr, cells := 0, slots := 0, locals := lo } (PreW D cI cZ av ws) (QW post D cells ws) 0 0 (cOf ws)
/-- what a walk has in hand at a method's entry -/
def Ent (p : Program) (s : State) (m : MethodId) (args : Array Value) (meth : Method) (c : Code) (b : ByteArray) (nL : Nat) (ret : Option FieldType) (own : String) (D : va_G) (cI cZ : ClassId) (ws : va_W) : Prop :=
  p.tables.exec = Jvm.exec ∧ c.code = b ∧ meth.sig.returnType = ret ∧ c.maxLocals = nL ∧ (∀ w ∈ WT, w.before args s = true) ∧ s.vm.findClass own = some m.cls ∧ meth.locks = false ∧
  va_P D classes ws s.heap ∧ va_K D classes (tysOf cI cZ) s ∧ va_D (cOf ws) ws ∧ NW s
theorem va_D.own {ws : va_W} {A : Nat → Prop} (h : va_D A ws) : va_D (cOf ws) ws := ⟨h.1, fun k q hk => ⟨k, q.2, hk⟩⟩
theorem Met.ofE {l : Launch} {y : MethodName} {b : ByteArray} {nL : Nat} {ret : Option FieldType} {fr lo : Nat} {D : va_G} {cI cZ : ClassId} {av : List Value} {ws : va_W} {Qc : Array Value → State → Outcome → State → Prop} {free : Addr → Prop}
    (hy : plainFor y = true) (hn : (lg_sl av).length ≤ nL)
    (body : ∀ (p : Program) (e : Env) (s : State) (m : MethodId) (below : List Frame) (meth : Method) (c : Code), Ent p s m av.toArray meth c b nL ret y.cls D cI cZ ws → ∀ ls : Array Slot, lv_has ls nL (lv_args 0 av) →
      W p l e { frames := fr, cells := 0, slots := 0, locals := lo } s m av.toArray below meth c s.heap [] 0 0 (MQ below Qc av.toArray s 0 0 free) (F0 m 0 ls [])) :
    Met l y (Cond.code y b nL ret :: WT) { frames := fr, cells := 0, slots := 0, locals := lo } (PreW D cI cZ av ws) Qc 0 0 free := by
  refine va_MetF (cc := b) (maxL := nL) (ret := ret) hy rfl ?_
  intro p e s m args below meth c s₁ B hml hv
  obtain ⟨rfl, hP, hK, hD, hN⟩ := hv
  have hts := atoms_spec (ws := Cond.code y b nL ret :: WT) B.pre
  have hl := lv_entry av (n := nL) hn
  rw [lg_entry_eq]
  exact body p e s m below meth c ⟨B.exec, B.bytes, B.returns, hml, fun w h => hts w (List.mem_cons_of_mem _ h), findClass_of_methodNamed B.named, B.notSynchronized, hP, hK, hD.own, hN⟩ _ hl
/-! calls -/
theorem WT_gi {ws : List Cond} (h : ∀ w ∈ ws, w ∈ WT) : GoodIn WT ws := fun w hw => ⟨h w hw, WT_good w (h w hw)⟩
theorem cwV0 {R : Room} {s : State} {args : Array Value} {own C : String} {index n fr lo nL : Nat} {y : MethodName} {b : ByteArray} {ret : Option FieldType} (hW : ∀ w ∈ WT, w.before args s = true) (mv : MV C y b nL ret n) (ml : Cond.methodLink own index y ∈ WT) (hR : fr + 1 ≤ R.frames ∧ 8 + (nL + 11) + lo ≤ R.locals) :
    CallW R s args own C index y b nL ret (Cond.code y b nL ret :: WT) { frames := fr, cells := 0, slots := 0, locals := lo } 0 0 n := by
  obtain ⟨h1, h2, h3, h4, h5⟩ := mv
  refine cwV n hW (WT_gi ?_) rfl rfl rfl h5 hR
  intro w hw
  simp only [wsV, List.cons_append, List.nil_append, List.mem_cons] at hw
  rcases hw with rfl | rfl | rfl | rfl | rfl | hw
  · exact ml
  · exact h1
  · exact h2
  · exact h3
  · exact h4
  · exact hw
theorem cwS0 {R : Room} {s : State} {args : Array Value} {own : String} {index n fr lo nL : Nat} {y : MethodName} {b : ByteArray} {ret : Option FieldType} (hW : ∀ w ∈ WT, w.before args s = true) (mv : MS y b nL ret n) (ml : Cond.methodLink own index y ∈ WT) (hR : fr + 1 ≤ R.frames ∧ 8 + (nL + 11) + lo ≤ R.locals) :
    CallB R s args own index y b nL ret (Cond.code y b nL ret :: WT) { frames := fr, cells := 0, slots := 0, locals := lo } 0 0 n ∧ (Cond.static y).before args s = true := by
  obtain ⟨h1, h2, h3, h4⟩ := mv
  refine va_cwS n hW (WT_gi ?_) rfl rfl rfl h4 hR
  intro w hw
  simp only [va_wsS, List.cons_append, List.nil_append, List.mem_cons] at hw
  rcases hw with rfl | rfl | rfl | rfl | hw
  · exact ml
  · exact h1
  · exact h2
  · exact h3
  · exact hw
theorem cwSN0 {R : Room} {s : State} {args : Array Value} {own host : String} {index n fr lo nL : Nat} {y : MethodName} {b : ByteArray} {ret : Option FieldType} (hW : ∀ w ∈ WT, w.before args s = true) (hN : NW s) (mv : MS y b nL ret n) (ml : Cond.methodLinkNest own index y host ∈ nestW) (hR : fr + 1 ≤ R.frames ∧ 8 + (nL + 11) + lo ≤ R.locals) :
    va_CN R s args own index y host b nL ret (Cond.code y b nL ret :: WT) { frames := fr, cells := 0, slots := 0, locals := lo } 0 0 n ∧ (Cond.static y).before args s = true ∧ True := by
  obtain ⟨h1, h2, h3, h4⟩ := mv
  refine ⟨va_cnB n hW (WT_gi ?_) rfl rfl rfl (hN _ ml) (hW _ h2) h4 hR, hW _ h1, trivial⟩
  intro w hw
  rcases List.mem_cons.mp hw with rfl | hw
  · exact h3
  · exact hw
theorem sub_of {ws wc : va_W} {is : List Nat} (h : is.map (fun i => ws[i]?) = wc.map some) : is.filterMap (fun i => ws[i]?) = wc := by
  have h2 : ∀ (l : List Nat) (w : va_W), l.map (fun i => ws[i]?) = w.map some → l.filterMap (fun i => ws[i]?) = w := by
    intro l
    induction l with
    | nil =>
      intro w hw
      cases w with
      | nil => rfl
      | cons a t => simp at hw
    | cons a t ih =>
      intro w hw
      cases w with
      | nil => simp at hw
      | cons b u =>
        simp only [List.map_cons, List.cons.injEq] at hw
        rw [List.filterMap_cons, hw.1, ih u hw.2]
  exact h2 is wc h
theorem preS0 {s : State} {H : Heap} {D : va_G} {cI cZ : ClassId} {A : Nat → Prop} {ws wc : va_W} {av : List Value} (hK : va_K D classes (tysOf cI cZ) s) (hN : NW s) (hP : va_P D classes ws H) (hD : va_D A ws) (is : List Nat) (hC : is.map (fun i => ws[i]?) = wc.map some) (nd : va_nd is = true) : PreS s H (PreW D cI cZ av wc) av :=
  ⟨PreW.blind, fun U hU hW => ⟨rfl, by rw [hU]; exact hP.sub is (sub_of hC), va_K.moved hW.alike hK, (hD.sub is nd hC).weaken (fun _ _ _ _ => trivial), hN.warm hW⟩⟩
theorem preV0 {s : State} {H : Heap} {D : va_G} {cI cZ : ClassId} {A : Nat → Prop} {ws wc : va_W} {a : Nat} {As : List Value} {C : String} {T : u_T} {N ci : Nat} {fs : List Value} (q0 : Nat) (hq : ws[q0]? = some (a, .inr (ci, fs))) (hc : classes[ci]? = some (C, T, N)) (hK : va_K D classes (tysOf cI cZ) s) (hN : NW s) (hP : va_P D classes ws H) (hD : va_D A ws) (is : List Nat) (hC : is.map (fun i => ws[i]?) = wc.map some) (nd : va_nd is = true) : PreV s H C a (PreW D cI cZ (.ref a :: As) wc) As :=
  ⟨PreW.blind, va_recv hK hP hc hq, (preS0 (av := .ref a :: As) hK hN hP hD is hC nd).2⟩
section CALLS
variable {p : Program} {l : Launch} {e : Env} {R : Room} {s : State} {m : MethodId} {args : Array Value} {below : List Frame} {meth : Method} {c : Code} {H : Heap} {locs : List Loc} {cells slots : Nat} {Q : State → Prop}
variable {pc : Nat} {ls : Array Slot} {rest st0 : List Value} {a : Array Value} {A0 : Nat → Prop} {H0 : Heap} {D : va_G} {ws wc : va_W}
theorem nil_of {L : List Loc} (h : ∀ q ∈ L, False) : L = [] := by
  cases L with
  | nil => rfl
  | cons b t => exact (h b List.mem_cons_self).elim
theorem callF {v : Option Value} (hr : va_Run p l e R s m args below meth c H locs cells slots 0 0 (F0 m pc ls st0) rest (QF v a) (fun _ => False)) (kk : W p l e R s m args below meth c H locs cells slots Q (F0 m (pc + 3) ls (v.toList ++ rest))) : W p l e R s m args below meth c H locs cells slots Q (F0 m pc ls st0) := by
  intro T hT X
  obtain ⟨v', st₀, t, T', L, h0, X', hL, e1, e2, ⟨hv, hh⟩, st⟩ := hr T hT X
  cases hv
  have hn := nil_of hL
  subst hn
  rw [List.append_nil] at X'
  obtain ⟨t2, a1, b1⟩ := kk T' (by rw [e1, hh, h0]) X'
  exact ⟨t2, st t2 a1, b1⟩
theorem callR {post : Option Value → Prop} (hr : va_Run p l e R s m args below meth c H locs cells slots 0 0 (F0 m pc ls st0) rest (QR post a) (fun _ => False)) (kk : ∀ v, post v → W p l e R s m args below meth c H locs cells slots Q (F0 m (pc + 3) ls (v.toList ++ rest))) : W p l e R s m args below meth c H locs cells slots Q (F0 m pc ls st0) := by
  intro T hT X
  obtain ⟨v', st₀, t, T', L, h0, X', hL, e1, e2, ⟨⟨v, hv, hp⟩, hh⟩, st⟩ := hr T hT X
  cases hv
  have hn := nil_of hL
  subst hn
  rw [List.append_nil] at X'
  obtain ⟨t2, a1, b1⟩ := kk _ hp T' (by rw [e1, hh, h0]) X'
  exact ⟨t2, st t2 a1, b1⟩
end CALLS
/-- a world with the cells at some places put anew -/
def sets (ws : va_W) : List Nat → va_W → va_W
  | [], _ => ws
  | _ :: _, [] => ws
  | i :: is, e :: es => sets (ws.set i e) is es
theorem sets_len : ∀ (is : List Nat) (ws es : va_W), (sets ws is es).length = ws.length := by
  intro is
  induction is with
  | nil => intro ws es; cases es <;> rfl
  | cons i is ih =>
    intro ws es
    cases es with
    | nil => rfl
    | cons e es => show (sets (ws.set i e) is es).length = _; rw [ih]; simp
theorem sets_get : ∀ (is : List Nat) (ws es : va_W) (k : Nat) (q : Nat × va_E), va_nd is = true → (sets ws is es)[k]? = some q → (∃ j : Nat, is[j]? = some k ∧ es[j]? = some q) ∨ (ws[k]? = some q ∧ ∀ j : Nat, j < es.length → is[j]? ≠ some k) := by
  intro is
  induction is with
  | nil => intro ws es k q _ h; exact Or.inr ⟨by cases es <;> exact h, fun j _ => by simp⟩
  | cons i is ih =>
    intro ws es k q hn h
    cases es with
    | nil => exact Or.inr ⟨h, fun j hj => absurd hj (Nat.not_lt_zero _)⟩
    | cons e es =>
      have hinj := va_nd_inj (i :: is) hn
      have hn2 : va_nd is = true := by simp only [va_nd, Bool.and_eq_true] at hn; exact hn.2
      rcases ih (ws.set i e) es k q hn2 h with ⟨j, h1, h2⟩ | ⟨h1, h2⟩
      · exact Or.inl ⟨j + 1, by simpa using h1, by simpa using h2⟩
      · by_cases hk : i = k
        · subst hk
          rw [List.getElem?_set] at h1
          rw [if_pos rfl] at h1
          split at h1
          · exact Or.inl ⟨0, by simp, by simpa using h1⟩
          · cases h1
        · rw [List.getElem?_set, if_neg hk] at h1
          refine Or.inr ⟨h1, fun j hj => ?_⟩
          cases j with
          | zero => simpa using hk
          | succ j => simpa using h2 j (by simpa using hj)
theorem fst_at {a b : va_W} (h : a.map Prod.fst = b.map Prod.fst) {j : Nat} {q : Nat × va_E} (hq : a[j]? = some q) : ∃ r, b[j]? = some r ∧ r.1 = q.1 := by
  have h1 : (a.map Prod.fst)[j]? = some q.1 := by rw [List.getElem?_map, hq]; rfl
  rw [h, List.getElem?_map] at h1
  cases hb : b[j]? with
  | none => rw [hb] at h1; cases h1
  | some r => rw [hb] at h1; exact ⟨r, rfl, Option.some.inj h1⟩
theorem at_of {ws wc : va_W} {is : List Nat} (hC : is.map (fun i => ws[i]?) = wc.map some) {j i : Nat} (hj : is[j]? = some i) : ∃ q, wc[j]? = some q ∧ ws[i]? = some q := by
  have h1 : (is.map (fun i => ws[i]?))[j]? = some (ws[i]?) := by rw [List.getElem?_map, hj]; rfl
  rw [hC, List.getElem?_map] at h1
  cases hw : wc[j]? with
  | none => rw [hw] at h1; cases h1
  | some q => rw [hw] at h1; exact ⟨q, rfl, (Option.some.inj h1).symm⟩
theorem ix_of {ws wc : va_W} {is : List Nat} (hC : is.map (fun i => ws[i]?) = wc.map some) {j : Nat} {q : Nat × va_E} (hj : wc[j]? = some q) : ∃ i, is[j]? = some i ∧ ws[i]? = some q := by
  have h1 : (wc.map some)[j]? = some (some q) := by rw [List.getElem?_map, hj]; rfl
  rw [← hC, List.getElem?_map] at h1
  cases hi : is[j]? with
  | none => rw [hi] at h1; cases h1
  | some i => rw [hi] at h1; exact ⟨i, rfl, Option.some.inj h1⟩
theorem sets_D {A0 : Nat → Prop} {ws wc w1 : va_W} (hD : va_D A0 ws) {is : List Nat} (hC : is.map (fun i => ws[i]?) = wc.map some) (nd : va_nd is = true) (hf : w1.map Prod.fst = wc.map Prod.fst) : va_D A0 (sets ws is w1) := by
  have key : ∀ (k : Nat) (q : Nat × va_E), (sets ws is w1)[k]? = some q → ∃ r, ws[k]? = some r ∧ r.1 = q.1 := by
    intro k q hq
    rcases sets_get is ws w1 k q nd hq with ⟨j, h1, h2⟩ | ⟨h1, -⟩
    · obtain ⟨r, h3, h4⟩ := fst_at hf h2
      obtain ⟨q', h5, h6⟩ := at_of hC h1
      rw [h3] at h5
      cases h5
      exact ⟨r, h6, h4⟩
    · exact ⟨q, h1, rfl⟩
  refine ⟨fun i j x y hi hj hxy => ?_, fun k q hk => ?_⟩
  · obtain ⟨r1, a1, b1⟩ := key i x hi
    obtain ⟨r2, a2, b2⟩ := key j y hj
    exact hD.1 i j r1 r2 a1 a2 (by rw [b1, b2, hxy])
  · obtain ⟨r, a1, b1⟩ := key k q hk
    rw [← b1]; exact hD.2 k r a1
theorem sets_P {A0 : Nat → Prop} {D : va_G} {ws wc w1 : va_W} {H H1 : Heap} (hP : va_P D classes ws H) (hD : va_D A0 ws) {is : List Nat} (hC : is.map (fun i => ws[i]?) = wc.map some) (nd : va_nd is = true) (hf : w1.map Prod.fst = wc.map Prod.fst) (hk : ∀ q : Nat, q < H.size → ¬ cOf wc q → H1[q]? = H[q]?) (hP1 : va_P D classes w1 H1) : va_P D classes (sets ws is w1) H1 := by
  intro k q hq
  rcases sets_get is ws w1 k q nd hq with ⟨j, h1, h2⟩ | ⟨h1, h2⟩
  · exact hP1 j q h2
  · have hl := (hP k q h1).lt
    refine (hP k q h1).kept (hk q.1 hl (fun hc => ?_))
    obtain ⟨j, e, hj⟩ := hc
    obtain ⟨i, h3, h4⟩ := ix_of hC hj
    have hik : k = i := hD.1 k i q (q.1, e) h1 h4 rfl
    subst hik
    have hlen : w1.length = wc.length := by
      have := congrArg List.length hf
      simpa using this
    exact h2 j (by rw [hlen]; exact (List.getElem?_eq_some_iff.mp hj).1) h3
theorem cOf_in {A0 : Nat → Prop} {ws wc : va_W} (hD : va_D A0 ws) {is : List Nat} (hC : is.map (fun i => ws[i]?) = wc.map some) : ∀ q, cOf wc q → A0 q := by
  intro q ⟨j, e, hj⟩
  obtain ⟨i, h3, h4⟩ := ix_of hC hj
  exact hD.2 i (q, e) h4
section CALLW
variable {p : Program} {l : Launch} {e : Env} {R : Room} {s : State} {m : MethodId} {args : Array Value} {below : List Frame} {meth : Method} {c : Code} {H : Heap} {locs : List Loc} {cells slots : Nat} {Q : State → Prop}
variable {pc : Nat} {ls : Array Slot} {rest st0 : List Value} {a : Array Value} {A0 : Nat → Prop} {H0 : Heap} {D : va_G} {ws wc : va_W}
theorem callW {S : Type} {post : Option Value → S → Prop} {cl : S → va_W} (hr : va_Run p l e R s m args below meth c H locs cells slots 0 0 (F0 m pc ls st0) rest (QW post D cl wc a) (cOf wc)) (hP : va_P D classes ws H) (hD : va_D A0 ws) (hS : va_S A0 H0 H locs) (is : List Nat) (hC : is.map (fun i => ws[i]?) = wc.map some) (nd : va_nd is = true) (hf : ∀ u, (cl u).map Prod.fst = wc.map Prod.fst)
    (kk : ∀ (v : Option Value) (u : S) (H1 : Heap) (locs1 : List Loc), post v u → va_P D classes (sets ws is (cl u)) H1 → va_D A0 (sets ws is (cl u)) → va_S A0 H0 H1 locs1 → W p l e R s m args below meth c H1 locs1 cells slots Q (F0 m (pc + 3) ls (v.toList ++ rest))) : W p l e R s m args below meth c H locs cells slots Q (F0 m pc ls st0) := by
  intro T hT X
  obtain ⟨v', st₀, t, T', L, h0, X', hL, e1, e2, ⟨⟨v, u, hv, hp, hb⟩, hz, hk⟩, st⟩ := hr T hT X
  cases hv
  rw [h0] at hz hk
  have hin := cOf_in hD hC
  obtain ⟨t2, a1, b1⟩ := kk _ u t.heap (locs ++ L) hp (sets_P hP hD hC nd (hf u) hk hb) (sets_D hD hC nd (hf u))
    ⟨Nat.le_trans hS.1 hz, fun q h1 h2 => by rw [hk q (Nat.lt_of_lt_of_le h1 hS.1) (fun z => h2 (hin q z))]; exact hS.2.1 q h1 h2, fun q hq => by
      rcases List.mem_append.mp hq with h | h
      · exact hS.2.2 q h
      · exact hin _ (hL q h)⟩ T' e1 X'
  exact ⟨t2, st t2 a1, b1⟩
end CALLW
end
section
-- laid by wip/whole/mkstate.py: what the objects hold, as cells
abbrev St : Type := (Nat → Int32) × (Nat → Nat → Int32)
def sI (S : St) (k : Nat) (v : Int32) : St := (va_up S.1 k v, S.2)
def sA (S : St) (k : Nat) (f : Nat → Int32) : St := (S.1, va_up S.2 k f)
def jmax (x y : Int32) : Int32 := if x < y then y else x
def jmin (x y : Int32) : Int32 := if y < x then y else x
theorem ne_toInt {x y : Int32} (h : ¬ x = y) : x.toInt ≠ y.toInt := fun e => h (Int32.toInt_inj.mp e)
theorem nb_of {v : Int32} (h : v = 0 ∨ v = 1) : narrow .boolean (.int v) = .int v := by rcases h with rfl | rfl <;> rfl
theorem vp_two {x : Int32} {n : Nat} (h0 : ¬ x < 0) (h1 : ¬ nI n ≤ x) (hn : n < 2 ^ 31) : vp_in x n := by
  rcases pk_ix x hn with h | h | ⟨j, hj, rfl⟩
  · exact absurd h h0
  · exact absurd h h1
  · exact vp_in_nI hj hn
theorem ne_of_nle {x : Int32} (h : ¬ x ≤ 0) : ¬ x = 0 := fun e => h (by rw [e]; decide)
theorem ne_of_pos {x : Int32} (h : 0 < x) : ¬ x = 0 := fun e => absurd h (by rw [e]; decide)
theorem ne_of_lg {x : Int64} (h : ¬ lg_cmp x 0 ≤ 0) : ¬ x = 0 := fun e => h (by rw [e]; decide)
def kcells (cI : ClassId) (r a n : Nat) (f : Nat → Int32) : va_W := [(r, .inr (3, [.ref a])), (a, .inl (cI, n, .inl f))]
def rcells (cI : ClassId) (ad : Nat → Nat) (o : Nat) (S : St) : va_W := [((ad o), .inr (2, [.int (S.1 0), .int (S.1 1), .int (S.1 2), .int (S.1 3), .int (S.1 4), .int (S.1 5), .int (S.1 6), .ref (ad (o + 1)), .ref (ad (o + 2)), .ref (ad (o + 3)), .ref (ad (o + 4)), .ref (ad (o + 5)), .ref (ad (o + 6)), .ref (ad (o + 7)), .ref (ad (o + 8))])), ((ad (o + 1)), .inr (3, [.ref (ad (o + 9))])), ((ad (o + 2)), .inr (3, [.ref (ad (o + 10))])), ((ad (o + 3)), .inr (3, [.ref (ad (o + 11))])), ((ad (o + 4)), .inr (3, [.ref (ad (o + 12))])), ((ad (o + 5)), .inr (3, [.ref (ad (o + 13))])), ((ad (o + 6)), .inr (3, [.ref (ad (o + 14))])), ((ad (o + 7)), .inr (3, [.ref (ad (o + 15))])), ((ad (o + 8)), .inr (3, [.ref (ad (o + 16))])), ((ad (o + 9)), .inl (cI, 6, .inl (S.2 7))), ((ad (o + 10)), .inl (cI, 6, .inl (S.2 8))), ((ad (o + 11)), .inl (cI, 6, .inl (S.2 9))), ((ad (o + 12)), .inl (cI, 6, .inl (S.2 10))), ((ad (o + 13)), .inl (cI, 6, .inl (S.2 11))), ((ad (o + 14)), .inl (cI, 6, .inl (S.2 12))), ((ad (o + 15)), .inl (cI, 8, .inl (S.2 13))), ((ad (o + 16)), .inl (cI, 8, .inl (S.2 14)))]
def pcells (cI : ClassId) (ad : Nat → Nat) (o : Nat) (S : St) : va_W := [((ad o), .inr (1, [.ref (ad (o + 1)), .int (S.1 1)])), ((ad (o + 1)), .inr (3, [.ref (ad (o + 2))])), ((ad (o + 2)), .inl (cI, 60, .inl (S.2 0)))]
def dcells (cI : ClassId) (ad : Nat → Nat) (o : Nat) (S : St) : va_W := [((ad o), .inr (0, [.ref (ad (o + 1)), .int (S.1 1), .int (S.1 2), .int (S.1 3), .int (S.1 4), .int (S.1 5), .int (S.1 6)])), ((ad (o + 1)), .inr (3, [.ref (ad (o + 2))])), ((ad (o + 2)), .inl (cI, 6, .inl (S.2 0)))]
def wcells (cI : ClassId) (ad : Nat → Nat) (o : Nat) (S : St) : va_W := [((ad o), .inr (4, [.ref (ad (o + 1)), .ref (ad (o + 2))])), ((ad (o + 1)), .inr (3, [.ref (ad (o + 3))])), ((ad (o + 2)), .inr (3, [.ref (ad (o + 4))])), ((ad (o + 3)), .inl (cI, 6, .inl (S.2 0))), ((ad (o + 4)), .inl (cI, 64, .inl (S.2 1)))]
def ycells (ad : Nat → Nat) (o : Nat) (S : St) : va_W := [((ad o), .inr (5, [.int (S.1 0), .int (S.1 1)]))]
def xcell (ad : Nat → Nat) : va_W := [((ad 0), .inr (6, [.ref (ad 1), .ref (ad 18), .ref (ad 35), .ref (ad 52), .ref (ad 69), .ref (ad 71), .ref (ad 74), .ref (ad 75), .ref (ad 78)]))]
def mcells (cI cZ : ClassId) (ad : Nat → Nat) (o : Nat) (S : St) : va_W := [((ad o), .inr (7, [.int (S.1 0), .int (S.1 1), .int (S.1 2), .int (S.1 3), .int (S.1 4), .ref (ad (o + 1)), .ref (ad (o + 2)), .ref (ad (o + 3)), .ref (ad (o + 4)), .ref (ad (o + 5)), .int (S.1 10), .ref (ad (o + 6)), .int (S.1 12), .ref (ad (o + 7)), .int (S.1 14), .int (S.1 15), .int (S.1 16), .ref (ad (o + 8)), .ref (ad (o + 9)), .ref (ad (o + 10)), .ref (ad (o + 11)), .int (S.1 21), .int (S.1 22), .ref (ad (o + 12)), .ref (ad (o + 13)), .ref (ad (o + 14)), .ref (ad (o + 15))])), ((ad (o + 1)), .inl (cI, 6, .inl (S.2 5))), ((ad (o + 2)), .inl (cI, 6, .inl (S.2 6))), ((ad (o + 3)), .inl (cI, 6, .inl (S.2 7))), ((ad (o + 4)), .inl (cI, 6, .inl (S.2 8))), ((ad (o + 5)), .inl (cI, 6, .inl (S.2 9))), ((ad (o + 6)), .inl (cI, 16, .inl (S.2 11))), ((ad (o + 7)), .inl (cI, 60, .inl (S.2 13))), ((ad (o + 8)), .inl (cI, 6, .inl (S.2 17))), ((ad (o + 9)), .inl (cI, 6, .inl (S.2 18))), ((ad (o + 10)), .inl (cI, 6, .inl (S.2 19))), ((ad (o + 11)), .inl (cI, 6, .inl (S.2 20))), ((ad (o + 12)), .inl (cI, 6, .inl (S.2 23))), ((ad (o + 13)), .inl (cI, 6, .inl (S.2 24))), ((ad (o + 14)), .inl (cI, 140, .inl (S.2 25))), ((ad (o + 15)), .inl (cZ, 2, .inl (S.2 26)))]
end
section
def F_X3_get (n : Nat) (f : (Nat → Int32)) (x1 : Int32) : Int32 := (if x1 < 0 then 0 else (if (nI n) ≤ x1 then 0 else (f (x1 : Int32).toNatClampNeg)))
def wp_X3_put (n : Nat) (f : (Nat → Int32)) (x1 : Int32) (x2 : Int32) (k : (Nat → Int32) → Prop) : Prop := (if x1 < 0 then (k f) else (if (nI n) ≤ x1 then (k f) else (k (upd f (x1 : Int32).toNatClampNeg x2))))
def wl_X3_fill_2 (n : Nat) (x1 : Int32) (kx : (Nat → Int32) → Prop) : Nat → Int32 → (Nat → Int32) → Prop
  | 0, _, _ => False
  | N + 1, y2, fq => (if (nI n) ≤ y2 then (kx fq) else (vp_in y2 n ∧ (wl_X3_fill_2 n x1 kx N (y2 + 1) (upd fq (y2 : Int32).toNatClampNeg x1))))
def wp_X3_fill (n : Nat) (f : (Nat → Int32)) (x1 : Int32) (k : (Nat → Int32) → Prop) : Prop := (∃ N, wl_X3_fill_2 n x1 (fun (Z2 : (Nat → Int32)) => (k Z2)) N 0 f)
def wl_X3_takeOver_2 (n : Nat) (f1 : (Nat → Int32)) (kx : (Nat → Int32) → Prop) : Nat → Int32 → (Nat → Int32) → Prop
  | 0, _, _ => False
  | N + 1, y2, fq => (if (nI n) ≤ y2 then (kx fq) else (vp_in y2 n ∧ (wl_X3_takeOver_2 n f1 kx N (y2 + 1) (upd fq (y2 : Int32).toNatClampNeg (F_X3_get n f1 y2)))))
def wp_X3_takeOver (n : Nat) (f : (Nat → Int32)) (f1 : (Nat → Int32)) (k : (Nat → Int32) → Prop) : Prop := (∃ N, wl_X3_takeOver_2 n f1 (fun (Z2 : (Nat → Int32)) => (k Z2)) N 0 f)
def F_J6_bitCount_0f7a4 (x0 : Int32) : Int32 := ((((((((x0 - ((x0.toUInt32 >>> ((1 : Int32).toUInt32 &&& Int32.toUInt32 31)).toInt32 &&& 1431655765)) &&& 858993459) + (((x0 - ((x0.toUInt32 >>> ((1 : Int32).toUInt32 &&& Int32.toUInt32 31)).toInt32 &&& 1431655765)).toUInt32 >>> ((2 : Int32).toUInt32 &&& Int32.toUInt32 31)).toInt32 &&& 858993459)) + ((((x0 - ((x0.toUInt32 >>> ((1 : Int32).toUInt32 &&& Int32.toUInt32 31)).toInt32 &&& 1431655765)) &&& 858993459) + (((x0 - ((x0.toUInt32 >>> ((1 : Int32).toUInt32 &&& Int32.toUInt32 31)).toInt32 &&& 1431655765)).toUInt32 >>> ((2 : Int32).toUInt32 &&& Int32.toUInt32 31)).toInt32 &&& 858993459)).toUInt32 >>> ((4 : Int32).toUInt32 &&& Int32.toUInt32 31)).toInt32) &&& 252645135) + ((((((x0 - ((x0.toUInt32 >>> ((1 : Int32).toUInt32 &&& Int32.toUInt32 31)).toInt32 &&& 1431655765)) &&& 858993459) + (((x0 - ((x0.toUInt32 >>> ((1 : Int32).toUInt32 &&& Int32.toUInt32 31)).toInt32 &&& 1431655765)).toUInt32 >>> ((2 : Int32).toUInt32 &&& Int32.toUInt32 31)).toInt32 &&& 858993459)) + ((((x0 - ((x0.toUInt32 >>> ((1 : Int32).toUInt32 &&& Int32.toUInt32 31)).toInt32 &&& 1431655765)) &&& 858993459) + (((x0 - ((x0.toUInt32 >>> ((1 : Int32).toUInt32 &&& Int32.toUInt32 31)).toInt32 &&& 1431655765)).toUInt32 >>> ((2 : Int32).toUInt32 &&& Int32.toUInt32 31)).toInt32 &&& 858993459)).toUInt32 >>> ((4 : Int32).toUInt32 &&& Int32.toUInt32 31)).toInt32) &&& 252645135).toUInt32 >>> ((8 : Int32).toUInt32 &&& Int32.toUInt32 31)).toInt32) + (((((((x0 - ((x0.toUInt32 >>> ((1 : Int32).toUInt32 &&& Int32.toUInt32 31)).toInt32 &&& 1431655765)) &&& 858993459) + (((x0 - ((x0.toUInt32 >>> ((1 : Int32).toUInt32 &&& Int32.toUInt32 31)).toInt32 &&& 1431655765)).toUInt32 >>> ((2 : Int32).toUInt32 &&& Int32.toUInt32 31)).toInt32 &&& 858993459)) + ((((x0 - ((x0.toUInt32 >>> ((1 : Int32).toUInt32 &&& Int32.toUInt32 31)).toInt32 &&& 1431655765)) &&& 858993459) + (((x0 - ((x0.toUInt32 >>> ((1 : Int32).toUInt32 &&& Int32.toUInt32 31)).toInt32 &&& 1431655765)).toUInt32 >>> ((2 : Int32).toUInt32 &&& Int32.toUInt32 31)).toInt32 &&& 858993459)).toUInt32 >>> ((4 : Int32).toUInt32 &&& Int32.toUInt32 31)).toInt32) &&& 252645135) + ((((((x0 - ((x0.toUInt32 >>> ((1 : Int32).toUInt32 &&& Int32.toUInt32 31)).toInt32 &&& 1431655765)) &&& 858993459) + (((x0 - ((x0.toUInt32 >>> ((1 : Int32).toUInt32 &&& Int32.toUInt32 31)).toInt32 &&& 1431655765)).toUInt32 >>> ((2 : Int32).toUInt32 &&& Int32.toUInt32 31)).toInt32 &&& 858993459)) + ((((x0 - ((x0.toUInt32 >>> ((1 : Int32).toUInt32 &&& Int32.toUInt32 31)).toInt32 &&& 1431655765)) &&& 858993459) + (((x0 - ((x0.toUInt32 >>> ((1 : Int32).toUInt32 &&& Int32.toUInt32 31)).toInt32 &&& 1431655765)).toUInt32 >>> ((2 : Int32).toUInt32 &&& Int32.toUInt32 31)).toInt32 &&& 858993459)).toUInt32 >>> ((4 : Int32).toUInt32 &&& Int32.toUInt32 31)).toInt32) &&& 252645135).toUInt32 >>> ((8 : Int32).toUInt32 &&& Int32.toUInt32 31)).toInt32).toUInt32 >>> ((16 : Int32).toUInt32 &&& Int32.toUInt32 31)).toInt32) &&& 63)
def F_J6_numberOfTrailingZeros_0f7a4 (x0 : Int32) : Int32 := (if 0 < ((x0 ^^^ (-1)) &&& (x0 - 1)) then (if ((x0 ^^^ (-1)) &&& (x0 - 1)) ≤ 65536 then (if ((x0 ^^^ (-1)) &&& (x0 - 1)) ≤ 256 then (if ((x0 ^^^ (-1)) &&& (x0 - 1)) ≤ 16 then (if ((x0 ^^^ (-1)) &&& (x0 - 1)) ≤ 4 then (1 + (((x0 ^^^ (-1)) &&& (x0 - 1)).toUInt32 >>> ((1 : Int32).toUInt32 &&& Int32.toUInt32 31)).toInt32) else (((1 : Int32) + 2) + ((((x0 ^^^ (-1)) &&& (x0 - 1)).toUInt32 >>> ((2 : Int32).toUInt32 &&& Int32.toUInt32 31)).toInt32.toUInt32 >>> ((1 : Int32).toUInt32 &&& Int32.toUInt32 31)).toInt32)) else (if (((x0 ^^^ (-1)) &&& (x0 - 1)).toUInt32 >>> ((4 : Int32).toUInt32 &&& Int32.toUInt32 31)).toInt32 ≤ 4 then (((1 : Int32) + 4) + ((((x0 ^^^ (-1)) &&& (x0 - 1)).toUInt32 >>> ((4 : Int32).toUInt32 &&& Int32.toUInt32 31)).toInt32.toUInt32 >>> ((1 : Int32).toUInt32 &&& Int32.toUInt32 31)).toInt32) else ((((1 : Int32) + 4) + 2) + (((((x0 ^^^ (-1)) &&& (x0 - 1)).toUInt32 >>> ((4 : Int32).toUInt32 &&& Int32.toUInt32 31)).toInt32.toUInt32 >>> ((2 : Int32).toUInt32 &&& Int32.toUInt32 31)).toInt32.toUInt32 >>> ((1 : Int32).toUInt32 &&& Int32.toUInt32 31)).toInt32))) else (if (((x0 ^^^ (-1)) &&& (x0 - 1)).toUInt32 >>> ((8 : Int32).toUInt32 &&& Int32.toUInt32 31)).toInt32 ≤ 16 then (if (((x0 ^^^ (-1)) &&& (x0 - 1)).toUInt32 >>> ((8 : Int32).toUInt32 &&& Int32.toUInt32 31)).toInt32 ≤ 4 then (((1 : Int32) + 8) + ((((x0 ^^^ (-1)) &&& (x0 - 1)).toUInt32 >>> ((8 : Int32).toUInt32 &&& Int32.toUInt32 31)).toInt32.toUInt32 >>> ((1 : Int32).toUInt32 &&& Int32.toUInt32 31)).toInt32) else ((((1 : Int32) + 8) + 2) + (((((x0 ^^^ (-1)) &&& (x0 - 1)).toUInt32 >>> ((8 : Int32).toUInt32 &&& Int32.toUInt32 31)).toInt32.toUInt32 >>> ((2 : Int32).toUInt32 &&& Int32.toUInt32 31)).toInt32.toUInt32 >>> ((1 : Int32).toUInt32 &&& Int32.toUInt32 31)).toInt32)) else (if ((((x0 ^^^ (-1)) &&& (x0 - 1)).toUInt32 >>> ((8 : Int32).toUInt32 &&& Int32.toUInt32 31)).toInt32.toUInt32 >>> ((4 : Int32).toUInt32 &&& Int32.toUInt32 31)).toInt32 ≤ 4 then ((((1 : Int32) + 8) + 4) + (((((x0 ^^^ (-1)) &&& (x0 - 1)).toUInt32 >>> ((8 : Int32).toUInt32 &&& Int32.toUInt32 31)).toInt32.toUInt32 >>> ((4 : Int32).toUInt32 &&& Int32.toUInt32 31)).toInt32.toUInt32 >>> ((1 : Int32).toUInt32 &&& Int32.toUInt32 31)).toInt32) else (((((1 : Int32) + 8) + 4) + 2) + ((((((x0 ^^^ (-1)) &&& (x0 - 1)).toUInt32 >>> ((8 : Int32).toUInt32 &&& Int32.toUInt32 31)).toInt32.toUInt32 >>> ((4 : Int32).toUInt32 &&& Int32.toUInt32 31)).toInt32.toUInt32 >>> ((2 : Int32).toUInt32 &&& Int32.toUInt32 31)).toInt32.toUInt32 >>> ((1 : Int32).toUInt32 &&& Int32.toUInt32 31)).toInt32)))) else (if (((x0 ^^^ (-1)) &&& (x0 - 1)).toUInt32 >>> ((16 : Int32).toUInt32 &&& Int32.toUInt32 31)).toInt32 ≤ 256 then (if (((x0 ^^^ (-1)) &&& (x0 - 1)).toUInt32 >>> ((16 : Int32).toUInt32 &&& Int32.toUInt32 31)).toInt32 ≤ 16 then (if (((x0 ^^^ (-1)) &&& (x0 - 1)).toUInt32 >>> ((16 : Int32).toUInt32 &&& Int32.toUInt32 31)).toInt32 ≤ 4 then (((1 : Int32) + 16) + ((((x0 ^^^ (-1)) &&& (x0 - 1)).toUInt32 >>> ((16 : Int32).toUInt32 &&& Int32.toUInt32 31)).toInt32.toUInt32 >>> ((1 : Int32).toUInt32 &&& Int32.toUInt32 31)).toInt32) else ((((1 : Int32) + 16) + 2) + (((((x0 ^^^ (-1)) &&& (x0 - 1)).toUInt32 >>> ((16 : Int32).toUInt32 &&& Int32.toUInt32 31)).toInt32.toUInt32 >>> ((2 : Int32).toUInt32 &&& Int32.toUInt32 31)).toInt32.toUInt32 >>> ((1 : Int32).toUInt32 &&& Int32.toUInt32 31)).toInt32)) else (if ((((x0 ^^^ (-1)) &&& (x0 - 1)).toUInt32 >>> ((16 : Int32).toUInt32 &&& Int32.toUInt32 31)).toInt32.toUInt32 >>> ((4 : Int32).toUInt32 &&& Int32.toUInt32 31)).toInt32 ≤ 4 then ((((1 : Int32) + 16) + 4) + (((((x0 ^^^ (-1)) &&& (x0 - 1)).toUInt32 >>> ((16 : Int32).toUInt32 &&& Int32.toUInt32 31)).toInt32.toUInt32 >>> ((4 : Int32).toUInt32 &&& Int32.toUInt32 31)).toInt32.toUInt32 >>> ((1 : Int32).toUInt32 &&& Int32.toUInt32 31)).toInt32) else (((((1 : Int32) + 16) + 4) + 2) + ((((((x0 ^^^ (-1)) &&& (x0 - 1)).toUInt32 >>> ((16 : Int32).toUInt32 &&& Int32.toUInt32 31)).toInt32.toUInt32 >>> ((4 : Int32).toUInt32 &&& Int32.toUInt32 31)).toInt32.toUInt32 >>> ((2 : Int32).toUInt32 &&& Int32.toUInt32 31)).toInt32.toUInt32 >>> ((1 : Int32).toUInt32 &&& Int32.toUInt32 31)).toInt32))) else (if ((((x0 ^^^ (-1)) &&& (x0 - 1)).toUInt32 >>> ((16 : Int32).toUInt32 &&& Int32.toUInt32 31)).toInt32.toUInt32 >>> ((8 : Int32).toUInt32 &&& Int32.toUInt32 31)).toInt32 ≤ 16 then (if ((((x0 ^^^ (-1)) &&& (x0 - 1)).toUInt32 >>> ((16 : Int32).toUInt32 &&& Int32.toUInt32 31)).toInt32.toUInt32 >>> ((8 : Int32).toUInt32 &&& Int32.toUInt32 31)).toInt32 ≤ 4 then ((((1 : Int32) + 16) + 8) + (((((x0 ^^^ (-1)) &&& (x0 - 1)).toUInt32 >>> ((16 : Int32).toUInt32 &&& Int32.toUInt32 31)).toInt32.toUInt32 >>> ((8 : Int32).toUInt32 &&& Int32.toUInt32 31)).toInt32.toUInt32 >>> ((1 : Int32).toUInt32 &&& Int32.toUInt32 31)).toInt32) else (((((1 : Int32) + 16) + 8) + 2) + ((((((x0 ^^^ (-1)) &&& (x0 - 1)).toUInt32 >>> ((16 : Int32).toUInt32 &&& Int32.toUInt32 31)).toInt32.toUInt32 >>> ((8 : Int32).toUInt32 &&& Int32.toUInt32 31)).toInt32.toUInt32 >>> ((2 : Int32).toUInt32 &&& Int32.toUInt32 31)).toInt32.toUInt32 >>> ((1 : Int32).toUInt32 &&& Int32.toUInt32 31)).toInt32)) else (if (((((x0 ^^^ (-1)) &&& (x0 - 1)).toUInt32 >>> ((16 : Int32).toUInt32 &&& Int32.toUInt32 31)).toInt32.toUInt32 >>> ((8 : Int32).toUInt32 &&& Int32.toUInt32 31)).toInt32.toUInt32 >>> ((4 : Int32).toUInt32 &&& Int32.toUInt32 31)).toInt32 ≤ 4 then (((((1 : Int32) + 16) + 8) + 4) + ((((((x0 ^^^ (-1)) &&& (x0 - 1)).toUInt32 >>> ((16 : Int32).toUInt32 &&& Int32.toUInt32 31)).toInt32.toUInt32 >>> ((8 : Int32).toUInt32 &&& Int32.toUInt32 31)).toInt32.toUInt32 >>> ((4 : Int32).toUInt32 &&& Int32.toUInt32 31)).toInt32.toUInt32 >>> ((1 : Int32).toUInt32 &&& Int32.toUInt32 31)).toInt32) else ((((((1 : Int32) + 16) + 8) + 4) + 2) + (((((((x0 ^^^ (-1)) &&& (x0 - 1)).toUInt32 >>> ((16 : Int32).toUInt32 &&& Int32.toUInt32 31)).toInt32.toUInt32 >>> ((8 : Int32).toUInt32 &&& Int32.toUInt32 31)).toInt32.toUInt32 >>> ((4 : Int32).toUInt32 &&& Int32.toUInt32 31)).toInt32.toUInt32 >>> ((2 : Int32).toUInt32 &&& Int32.toUInt32 31)).toInt32.toUInt32 >>> ((1 : Int32).toUInt32 &&& Int32.toUInt32 31)).toInt32))))) else (((x0 ^^^ (-1)) &&& (x0 - 1)) &&& 32))
def F_X6_within (x0 : Int32) (x1 : Int32) (x2 : Int32) : Int32 := (if x0 < x1 then 0 else (if x2 < x0 then 0 else 1))
theorem z_X6_within (x0 : Int32) (x1 : Int32) (x2 : Int32) : F_X6_within x0 x1 x2 = 0 ∨ F_X6_within x0 x1 x2 = 1 := by
  unfold F_X6_within
  repeat' split
  all_goals first | exact Or.inl rfl | exact Or.inr rfl
def F_X6_leftOver (x0 : Int32) (x1 : Int32) : Int32 := (if 0 < x1 then (if 0 ≤ (x0 - x0 / x1 * x1) then (x0 - x0 / x1 * x1) else ((x0 - x0 / x1 * x1) + x1)) else 0)
def F_X6_cut (x0 : Int32) (x1 : Int32) : Int32 := (if x1 ≤ 0 then 0 else (x0 / x1))
def F_X2_lives (S0 : St) (x1 : Int32) : Int32 := (if x1 < 0 then 0 else (if (S0.1 0) ≤ x1 then 0 else (if (((S0.1 5) >>> (x1 &&& 31)) &&& 1) = 1 then 1 else 0)))
theorem z_X2_lives (S0 : St) (x1 : Int32) : F_X2_lives S0 x1 = 0 ∨ F_X2_lives S0 x1 = 1 := by
  unfold F_X2_lives
  repeat' split
  all_goals first | exact Or.inl rfl | exact Or.inr rfl
def F_X2_has (S0 : St) (x1 : Int32) : Int32 := (if x1 < 0 then 0 else (if (S0.1 0) ≤ x1 then 0 else 1))
theorem z_X2_has (S0 : St) (x1 : Int32) : F_X2_has S0 x1 = 0 ∨ F_X2_has S0 x1 = 1 := by
  unfold F_X2_has
  repeat' split
  all_goals first | exact Or.inl rfl | exact Or.inr rfl
def F_X2_hasBoth (S0 : St) (x1 : Int32) (x2 : Int32) : Int32 := (if (F_X2_has S0 x1) = 0 then 0 else (if (F_X2_has S0 x2) = 0 then 0 else (if x1 = x2 then 0 else 1)))
theorem z_X2_hasBoth (S0 : St) (x1 : Int32) (x2 : Int32) : F_X2_hasBoth S0 x1 x2 = 0 ∨ F_X2_hasBoth S0 x1 x2 = 1 := by
  unfold F_X2_hasBoth
  repeat' split
  all_goals first | exact Or.inl rfl | exact Or.inr rfl | exact z_X2_has S0 x1 | exact z_X2_has S0 x2
def F_X2_landAfter (S0 : St) (x1 : Int32) (x2 : Int32) : Int32 := (if (F_X2_lives S0 x1) = 0 then (-6) else (if (F_X3_get 6 (S0.2 9) x1) = 1 then (F_X6_leftOver ((x1 + 1) + (F_X6_leftOver ((F_X3_get 6 (S0.2 7) x1) + (jmax 0 (x2 - 1))) ((S0.1 0) - 1))) (S0.1 0)) else (if (F_X3_get 6 (S0.2 9) x1) = 2 then (F_X6_leftOver ((x1 + 1) + (F_X6_leftOver ((F_X3_get 6 (S0.2 7) x1) + 0) ((S0.1 0) - 1))) (S0.1 0)) else (F_X6_leftOver ((x1 + 1) + (F_X6_leftOver ((F_X3_get 6 (S0.2 7) x1) + x2) ((S0.1 0) - 1))) (S0.1 0)))))
def wp_X2_bind (S0 : St) (x1 : Int32) (x2 : Int32) (k : Int32 → St → Prop) : Prop := (if (F_X2_lives S0 x1) = 0 then (k 1 S0) else (if (F_X3_get 6 (S0.2 9) x1) = 0 then (wp_X3_put 6 (S0.2 9) x1 x2 (fun (Z3 : (Nat → Int32)) => (k 0 (sA S0 9 Z3)))) else (k 4 S0)))
def wl_X2_passEquinox_17 (kx : St → Prop) : Nat → Int32 → St → Prop
  | 0, _, _ => False
  | N + 1, y1, S0q => (if (S0q.1 0) ≤ y1 then (kx S0q) else (if (F_X3_get 6 (S0q.2 9) y1) = 1 then (wp_X3_put 6 (S0q.2 9) y1 0 (fun (Z3 : (Nat → Int32)) => (wl_X2_passEquinox_17 kx N (y1 + 1) (sA S0q 9 Z3)))) else (if (F_X3_get 6 (S0q.2 9) y1) = 0 then (if (F_X2_lives S0q y1) = 0 then (wl_X2_passEquinox_17 kx N (y1 + 1) S0q) else (wp_X3_put 6 (S0q.2 7) y1 (F_X6_leftOver ((F_X3_get 6 (S0q.2 7) y1) + 1) ((S0q.1 0) - 1)) (fun (Z6 : (Nat → Int32)) => (wp_X3_put 6 (S0q.2 10) y1 ((F_X3_get 6 (S0q.2 10) y1) + 1) (fun (Z7 : (Nat → Int32)) => (wl_X2_passEquinox_17 kx N (y1 + 1) (sA (sA S0q 7 Z6) 10 Z7))))))) else (wl_X2_passEquinox_17 kx N (y1 + 1) S0q))))
def wp_X2_passEquinox (S0 : St) (k : St → Prop) : Prop := (∃ N, wl_X2_passEquinox_17 (fun (Z8 : St) => (k Z8)) N 0 (sI (sI S0 3 0) 4 ((S0.1 4) + 1)))
set_option maxHeartbeats 4000000 in
set_option maxRecDepth 100000 in
theorem c_X3_get (l : Launch) (D : va_G) (cI cZ : ClassId) (r a : Nat) (n : Nat) (hn : n < 2 ^ 31) (f : Nat → Int32) (x1 : Int32) (r9 : Int32) (hw : F_X3_get n f x1 = r9) : KF l yX3_get cX3_get 2 (some .int) 0 0 D cI cZ [.ref r, .int x1] (kcells cI r a n f) (some (.int r9)) := by
  refine Met.ofE (by decide +kernel) (Nat.le_of_ble_eq_true rfl) ?_
  intro p e s m below meth c E ls hl
  obtain ⟨hx, hb, hr, hml, hW, hown, hlocks, hP, hK, hD, hN⟩ := E
  have hl : lv_has ls 2 [(0, .ref r), (1, .int x1)] := hl
  have hw : (if x1 < 0 then 0 else (if (nI n) ≤ x1 then 0 else (f (x1 : Int32).toNatClampNeg))) = r9 := hw
  refine lv_iload_n hx hb dX3_get_0 rfl (lv_at hl 1 rfl) ?_
  refine lv_if_lt (tgt := 22) hx hb dX3_get_1 (by decide) (fun c1 => ?_) (fun c1 => ?_)
  · have hw := (if_pos c1).symm.trans hw
    refine lv_iconst (v := 0) hx hb dX3_get_22 (by decide) ?_
    subst hw
    exact W.iret (v := 0) hx hb hr (fun t ht _ => ⟨rfl, ht⟩) (fun _ h => by cases h) dX3_get_23
  · have hw := (if_neg c1).symm.trans hw
    refine lv_iload_n hx hb dX3_get_4 rfl (lv_at hl 1 rfl) ?_
    refine lv_aload_n hx hb dX3_get_5 rfl (lv_at hl 0 rfl) ?_
    refine va_get (D := D) (ci := 3) (v := .ref a) (C := RX3) (T := TX3) (N := 1) hx hb hW inW_X3 hown hK hP 0 rfl rfl 0 (by decide) (hW _ fl_X3_7) (fun _ h9 => h9) rfl dX3_get_6 ?_
    refine va_alen (v := (nI n)) hx hb hK hP 1 0 rfl rfl rfl dX3_get_9 ?_
    refine lv_icmp_ge (tgt := 22) hx hb dX3_get_10 (by decide) (fun c2 => ?_) (fun c2 => ?_)
    · have hw := (if_pos c2).symm.trans hw
      refine lv_iconst (v := 0) hx hb dX3_get_22 (by decide) ?_
      subst hw
      exact W.iret (v := 0) hx hb hr (fun t ht _ => ⟨rfl, ht⟩) (fun _ h => by cases h) dX3_get_23
    · have hw := (if_neg c2).symm.trans hw
      refine lv_aload_n hx hb dX3_get_13 rfl (lv_at hl 0 rfl) ?_
      refine va_get (D := D) (ci := 3) (v := .ref a) (C := RX3) (T := TX3) (N := 1) hx hb hW inW_X3 hown hK hP 0 rfl rfl 0 (by decide) (hW _ fl_X3_7) (fun _ h9 => h9) rfl dX3_get_14 ?_
      refine lv_iload_n hx hb dX3_get_17 rfl (lv_at hl 1 rfl) ?_
      refine va_iald hx hb hK hP 1 0 rfl rfl (vp_two c1 c2 hn) dX3_get_18 ?_
      refine lv_goto (tgt := 23) hx hb dX3_get_19 (by decide) ?_
      subst hw
      exact W.iret (v := (f (x1 : Int32).toNatClampNeg)) hx hb hr (fun t ht _ => ⟨rfl, ht⟩) (fun _ h => by cases h) dX3_get_23
set_option maxHeartbeats 4000000 in
set_option maxRecDepth 100000 in
theorem c_X3_put (l : Launch) (D : va_G) (cI cZ : ClassId) (r a : Nat) (n : Nat) (hn : n < 2 ^ 31) (f : Nat → Int32) (x1 : Int32) (x2 : Int32) (k : (Nat → Int32) → Prop) (hw : wp_X3_put n f x1 x2 k) : KW l yX3_put cX3_put 3 none 0 0 D cI cZ [.ref r, .int x1, .int x2] (kcells cI r a n f) (fun v (u : (Nat → Int32)) => v = none ∧ k u) (fun u : (Nat → Int32) => kcells cI r a n u) := by
  refine Met.ofE (by decide +kernel) (Nat.le_of_ble_eq_true rfl) ?_
  intro p e s m below meth c E ls hl
  obtain ⟨hx, hb, hr, hml, hW, hown, hlocks, hP, hK, hD, hN⟩ := E
  have hl : lv_has ls 3 [(0, .ref r), (1, .int x1), (2, .int x2)] := hl
  have hS : va_S (cOf (kcells cI r a n f)) s.heap s.heap [] := va_S.rf
  have hw : (if x1 < 0 then (k f) else (if (nI n) ≤ x1 then (k f) else (k (upd f (x1 : Int32).toNatClampNeg x2)))) := hw
  refine lv_iload_n hx hb dX3_put_0 rfl (lv_at hl 1 rfl) ?_
  refine lv_if_lt (tgt := 20) hx hb dX3_put_1 (by decide) (fun c1 => ?_) (fun c1 => ?_)
  · have hw := Eq.mp (if_pos c1) hw
    exact W.vret hx hb hr (fun t ht _ => ⟨⟨_, (f), rfl, ⟨rfl, hw⟩, by rw [ht]; exact hP⟩, hS.F ht⟩) hS.2.2 dX3_put_20
  · have hw := Eq.mp (if_neg c1) hw
    refine lv_iload_n hx hb dX3_put_4 rfl (lv_at hl 1 rfl) ?_
    refine lv_aload_n hx hb dX3_put_5 rfl (lv_at hl 0 rfl) ?_
    refine va_get (D := D) (ci := 3) (v := .ref a) (C := RX3) (T := TX3) (N := 1) hx hb hW inW_X3 hown hK hP 0 rfl rfl 0 (by decide) (hW _ fl_X3_7) (fun _ h9 => h9) rfl dX3_put_6 ?_
    refine va_alen (v := (nI n)) hx hb hK hP 1 0 rfl rfl rfl dX3_put_9 ?_
    refine lv_icmp_ge (tgt := 20) hx hb dX3_put_10 (by decide) (fun c2 => ?_) (fun c2 => ?_)
    · have hw := Eq.mp (if_pos c2) hw
      exact W.vret hx hb hr (fun t ht _ => ⟨⟨_, (f), rfl, ⟨rfl, hw⟩, by rw [ht]; exact hP⟩, hS.F ht⟩) hS.2.2 dX3_put_20
    · have hw := Eq.mp (if_neg c2) hw
      refine lv_aload_n hx hb dX3_put_13 rfl (lv_at hl 0 rfl) ?_
      refine va_get (D := D) (ci := 3) (v := .ref a) (C := RX3) (T := TX3) (N := 1) hx hb hW inW_X3 hown hK hP 0 rfl rfl 0 (by decide) (hW _ fl_X3_7) (fun _ h9 => h9) rfl dX3_put_14 ?_
      refine lv_iload_n hx hb dX3_put_17 rfl (lv_at hl 1 rfl) ?_
      refine lv_iload_n hx hb dX3_put_18 rfl (lv_at hl 2 rfl) ?_
      refine va_iast hx hb hK hP hD hS 1 0 rfl rfl (vp_two c1 c2 hn) dX3_put_19 (fun H locs hP hD hS => ?_)
      have hP : va_P D classes (kcells cI r a n (upd f (x1 : Int32).toNatClampNeg x2)) H := hP
      have hD : va_D (cOf (kcells cI r a n f)) (kcells cI r a n (upd f (x1 : Int32).toNatClampNeg x2)) := hD
      exact W.vret hx hb hr (fun t ht _ => ⟨⟨_, ((upd f (x1 : Int32).toNatClampNeg x2)), rfl, ⟨rfl, hw⟩, by rw [ht]; exact hP⟩, hS.F ht⟩) hS.2.2 dX3_put_20
set_option maxHeartbeats 4000000 in
set_option maxRecDepth 100000 in
theorem c_X3_fill (l : Launch) (D : va_G) (cI cZ : ClassId) (r a : Nat) (n : Nat) (hn : n < 2 ^ 31) (f : Nat → Int32) (x1 : Int32) (k : (Nat → Int32) → Prop) (hw : wp_X3_fill n f x1 k) : KW l yX3_fill cX3_fill 3 none 0 0 D cI cZ [.ref r, .int x1] (kcells cI r a n f) (fun v (u : (Nat → Int32)) => v = none ∧ k u) (fun u : (Nat → Int32) => kcells cI r a n u) := by
  refine Met.ofE (by decide +kernel) (Nat.le_of_ble_eq_true rfl) ?_
  intro p e s m below meth c E ls hl
  obtain ⟨hx, hb, hr, hml, hW, hown, hlocks, hP, hK, hD, hN⟩ := E
  have hl : lv_has ls 3 [(0, .ref r), (1, .int x1)] := hl
  have hS : va_S (cOf (kcells cI r a n f)) s.heap s.heap [] := va_S.rf
  have L2 : ∀  (kx : (Nat → Int32) → Prop), (∀ (fq : (Nat → Int32)) (H : Heap) (locs : List Loc), va_P D classes (kcells cI r a n fq) H → va_D (cOf (kcells cI r a n f)) (kcells cI r a n fq) → va_S (cOf (kcells cI r a n f)) s.heap H locs → ∀ ls : Array Slot, lv_has ls 3 [] → kx fq → W p l e { frames := 0, cells := 0, slots := 0, locals := 0 } s m ([.ref r, .int x1] : List Value).toArray below meth c H locs 0 0 (MQ below (QW (fun v (u : (Nat → Int32)) => v = none ∧ k u) D (fun u : (Nat → Int32) => kcells cI r a n u) (kcells cI r a n f)) ([.ref r, .int x1] : List Value).toArray s 0 0 (cOf (kcells cI r a n f))) (F0 m 24 ls [])) → ∀ (N : Nat) (y2 : Int32) (fq : (Nat → Int32)) (H : Heap) (locs : List Loc), va_P D classes (kcells cI r a n fq) H → va_D (cOf (kcells cI r a n f)) (kcells cI r a n fq) → va_S (cOf (kcells cI r a n f)) s.heap H locs → ∀ ls : Array Slot, lv_has ls 3 [(0, .ref r), (1, .int x1), (2, .int y2)] → wl_X3_fill_2 n x1 kx N y2 fq → W p l e { frames := 0, cells := 0, slots := 0, locals := 0 } s m ([.ref r, .int x1] : List Value).toArray below meth c H locs 0 0 (MQ below (QW (fun v (u : (Nat → Int32)) => v = none ∧ k u) D (fun u : (Nat → Int32) => kcells cI r a n u) (kcells cI r a n f)) ([.ref r, .int x1] : List Value).toArray s 0 0 (cOf (kcells cI r a n f))) (F0 m 2 ls []) := by
    intro  kx hxt N
    induction N with
    | zero => intro y2 fq H locs hP hD hS ls hl hw; exact False.elim hw
    | succ N ih =>
      intro y2 fq H locs hP hD hS ls hl hw
      have hw : (if (nI n) ≤ y2 then (kx fq) else (vp_in y2 n ∧ (wl_X3_fill_2 n x1 kx N (y2 + 1) (upd fq (y2 : Int32).toNatClampNeg x1)))) := hw
      refine lv_iload_n hx hb dX3_fill_2 rfl (lv_at hl 2 rfl) ?_
      refine lv_aload_n hx hb dX3_fill_3 rfl (lv_at hl 0 rfl) ?_
      refine va_get (D := D) (ci := 3) (v := .ref a) (C := RX3) (T := TX3) (N := 1) hx hb hW inW_X3 hown hK hP 0 rfl rfl 0 (by decide) (hW _ fl_X3_7) (fun _ h9 => h9) rfl dX3_fill_4 ?_
      refine va_alen (v := (nI n)) hx hb hK hP 1 0 rfl rfl rfl dX3_fill_7 ?_
      refine lv_icmp_ge (tgt := 24) hx hb dX3_fill_8 (by decide) (fun c1 => ?_) (fun c1 => ?_)
      · have hw := Eq.mp (if_pos c1) hw
        exact hxt fq _ _ hP hD hS _ (lv_sub hl [] rfl) hw
      · have hw := Eq.mp (if_neg c1) hw
        refine lv_aload_n hx hb dX3_fill_11 rfl (lv_at hl 0 rfl) ?_
        refine va_get (D := D) (ci := 3) (v := .ref a) (C := RX3) (T := TX3) (N := 1) hx hb hW inW_X3 hown hK hP 0 rfl rfl 0 (by decide) (hW _ fl_X3_7) (fun _ h9 => h9) rfl dX3_fill_12 ?_
        refine lv_iload_n hx hb dX3_fill_15 rfl (lv_at hl 2 rfl) ?_
        refine lv_iload_n hx hb dX3_fill_16 rfl (lv_at hl 1 rfl) ?_
        refine va_iast hx hb hK hP hD hS 1 0 rfl rfl hw.1 dX3_fill_17 (fun H locs hP hD hS => ?_)
        have hw := hw.2
        have hP : va_P D classes (kcells cI r a n (upd fq (y2 : Int32).toNatClampNeg x1)) H := hP
        have hD : va_D (cOf (kcells cI r a n f)) (kcells cI r a n (upd fq (y2 : Int32).toNatClampNeg x1)) := hD
        refine lv_iinc (v := (y2 + 1)) (lv' := [(2, .int (y2 + 1)), (0, .ref r), (1, .int x1)]) hx hb dX3_fill_18 hl (k := 2) rfl rfl (by decide) rfl (fun ls hl => ?_)
        refine lv_goto (tgt := 2) hx hb dX3_fill_21 (by decide) ?_
        exact ih (y2 + 1) (upd fq (y2 : Int32).toNatClampNeg x1) _ _ hP hD hS _ (lv_sub hl [1, 2, 0] rfl) hw
  have hw : (∃ N, wl_X3_fill_2 n x1 (fun (Z2 : (Nat → Int32)) => (k Z2)) N 0 f) := hw
  refine lv_iconst (v := 0) hx hb dX3_fill_0 (by decide) ?_
  refine lv_istore_n (lv' := [(2, .int 0), (0, .ref r), (1, .int x1)]) hx hb dX3_fill_1 rfl hl (by decide) rfl (fun ls hl => ?_)
  obtain ⟨N3, hw⟩ := hw
  refine L2  _ (fun Z2 H locs hP hD hS ls hl hw => ?_) N3 0 f _ _ hP hD hS _ (lv_sub hl [1, 2, 0] rfl) hw
  exact W.vret hx hb hr (fun t ht _ => ⟨⟨_, (Z2), rfl, ⟨rfl, hw⟩, by rw [ht]; exact hP⟩, hS.F ht⟩) hS.2.2 dX3_fill_24
set_option maxHeartbeats 4000000 in
set_option maxRecDepth 100000 in
theorem c_X3_takeOver (l : Launch) (D : va_G) (cI cZ : ClassId) (r a : Nat) (n : Nat) (hn : n < 2 ^ 31) (f : Nat → Int32) (r1 a1 : Nat) (f1 : Nat → Int32) (k : (Nat → Int32) → Prop) (hw : wp_X3_takeOver n f f1 k) : KW l yX3_takeOver cX3_takeOver 3 none 1 21 D cI cZ [.ref r, .ref r1] (kcells cI r a n f ++ (kcells cI r1 a1 n f1)) (fun v (u : (Nat → Int32)) => v = none ∧ k u) (fun u : (Nat → Int32) => kcells cI r a n u ++ (kcells cI r1 a1 n f1)) := by
  refine Met.ofE (by decide +kernel) (Nat.le_of_ble_eq_true rfl) ?_
  intro p e s m below meth c E ls hl
  obtain ⟨hx, hb, hr, hml, hW, hown, hlocks, hP, hK, hD, hN⟩ := E
  have hl : lv_has ls 3 [(0, .ref r), (1, .ref r1)] := hl
  have hS : va_S (cOf (kcells cI r a n f ++ (kcells cI r1 a1 n f1))) s.heap s.heap [] := va_S.rf
  have L2 : ∀  (kx : (Nat → Int32) → Prop), (∀ (fq : (Nat → Int32)) (H : Heap) (locs : List Loc), va_P D classes (kcells cI r a n fq ++ (kcells cI r1 a1 n f1)) H → va_D (cOf (kcells cI r a n f ++ (kcells cI r1 a1 n f1))) (kcells cI r a n fq ++ (kcells cI r1 a1 n f1)) → va_S (cOf (kcells cI r a n f ++ (kcells cI r1 a1 n f1))) s.heap H locs → ∀ ls : Array Slot, lv_has ls 3 [] → kx fq → W p l e { frames := 1, cells := 0, slots := 0, locals := 21 } s m ([.ref r, .ref r1] : List Value).toArray below meth c H locs 0 0 (MQ below (QW (fun v (u : (Nat → Int32)) => v = none ∧ k u) D (fun u : (Nat → Int32) => kcells cI r a n u ++ (kcells cI r1 a1 n f1)) (kcells cI r a n f ++ (kcells cI r1 a1 n f1))) ([.ref r, .ref r1] : List Value).toArray s 0 0 (cOf (kcells cI r a n f ++ (kcells cI r1 a1 n f1)))) (F0 m 28 ls [])) → ∀ (N : Nat) (y2 : Int32) (fq : (Nat → Int32)) (H : Heap) (locs : List Loc), va_P D classes (kcells cI r a n fq ++ (kcells cI r1 a1 n f1)) H → va_D (cOf (kcells cI r a n f ++ (kcells cI r1 a1 n f1))) (kcells cI r a n fq ++ (kcells cI r1 a1 n f1)) → va_S (cOf (kcells cI r a n f ++ (kcells cI r1 a1 n f1))) s.heap H locs → ∀ ls : Array Slot, lv_has ls 3 [(0, .ref r), (1, .ref r1), (2, .int y2)] → wl_X3_takeOver_2 n f1 kx N y2 fq → W p l e { frames := 1, cells := 0, slots := 0, locals := 21 } s m ([.ref r, .ref r1] : List Value).toArray below meth c H locs 0 0 (MQ below (QW (fun v (u : (Nat → Int32)) => v = none ∧ k u) D (fun u : (Nat → Int32) => kcells cI r a n u ++ (kcells cI r1 a1 n f1)) (kcells cI r a n f ++ (kcells cI r1 a1 n f1))) ([.ref r, .ref r1] : List Value).toArray s 0 0 (cOf (kcells cI r a n f ++ (kcells cI r1 a1 n f1)))) (F0 m 2 ls []) := by
    intro  kx hxt N
    induction N with
    | zero => intro y2 fq H locs hP hD hS ls hl hw; exact False.elim hw
    | succ N ih =>
      intro y2 fq H locs hP hD hS ls hl hw
      have hw : (if (nI n) ≤ y2 then (kx fq) else (vp_in y2 n ∧ (wl_X3_takeOver_2 n f1 kx N (y2 + 1) (upd fq (y2 : Int32).toNatClampNeg (F_X3_get n f1 y2))))) := hw
      refine lv_iload_n hx hb dX3_takeOver_2 rfl (lv_at hl 2 rfl) ?_
      refine lv_aload_n hx hb dX3_takeOver_3 rfl (lv_at hl 0 rfl) ?_
      refine va_get (D := D) (ci := 3) (v := .ref a) (C := RX3) (T := TX3) (N := 1) hx hb hW inW_X3 hown hK hP 0 rfl rfl 0 (by decide) (hW _ fl_X3_7) (fun _ h9 => h9) rfl dX3_takeOver_4 ?_
      refine va_alen (v := (nI n)) hx hb hK hP 1 0 rfl rfl rfl dX3_takeOver_7 ?_
      refine lv_icmp_ge (tgt := 28) hx hb dX3_takeOver_8 (by decide) (fun c1 => ?_) (fun c1 => ?_)
      · have hw := Eq.mp (if_pos c1) hw
        exact hxt fq _ _ hP hD hS _ (lv_sub hl [] rfl) hw
      · have hw := Eq.mp (if_neg c1) hw
        refine lv_aload_n hx hb dX3_takeOver_11 rfl (lv_at hl 0 rfl) ?_
        refine va_get (D := D) (ci := 3) (v := .ref a) (C := RX3) (T := TX3) (N := 1) hx hb hW inW_X3 hown hK hP 0 rfl rfl 0 (by decide) (hW _ fl_X3_7) (fun _ h9 => h9) rfl dX3_takeOver_12 ?_
        refine lv_iload_n hx hb dX3_takeOver_15 rfl (lv_at hl 2 rfl) ?_
        refine lv_aload_n hx hb dX3_takeOver_16 rfl (lv_at hl 1 rfl) ?_
        refine lv_iload_n hx hb dX3_takeOver_17 rfl (lv_at hl 2 rfl) ?_
        refine callF (va_runV (As := [.int y2]) (rest := [.int y2, .ref a]) ⟨hx, hb, hml, hown, hW⟩ (c_X3_get l D cI cZ r1 a1 n hn f1 y2 _ rfl) (cwV0 hW mV_X3_get ml_X3_13 ⟨Nat.le_of_ble_eq_true rfl, Nat.le_of_ble_eq_true rfl⟩) (preV0 2 rfl rfl hK hN hP hD [2, 3] rfl rfl) rfl rfl hl.1 rfl (lv_room (Nat.le_of_ble_eq_true rfl)) dX3_takeOver_18 ⟨Nat.le_refl _, Nat.le_refl _⟩) ?_
        refine W.eq (g2 := F0 m 21 ls [.int (F_X3_get n f1 y2), .int y2, .ref a]) rfl ?_
        refine va_iast hx hb hK hP hD hS 1 0 rfl rfl hw.1 dX3_takeOver_21 (fun H locs hP hD hS => ?_)
        have hw := hw.2
        have hP : va_P D classes (kcells cI r a n (upd fq (y2 : Int32).toNatClampNeg (F_X3_get n f1 y2)) ++ (kcells cI r1 a1 n f1)) H := hP
        have hD : va_D (cOf (kcells cI r a n f ++ (kcells cI r1 a1 n f1))) (kcells cI r a n (upd fq (y2 : Int32).toNatClampNeg (F_X3_get n f1 y2)) ++ (kcells cI r1 a1 n f1)) := hD
        refine lv_iinc (v := (y2 + 1)) (lv' := [(2, .int (y2 + 1)), (0, .ref r), (1, .ref r1)]) hx hb dX3_takeOver_22 hl (k := 2) rfl rfl (by decide) rfl (fun ls hl => ?_)
        refine lv_goto (tgt := 2) hx hb dX3_takeOver_25 (by decide) ?_
        exact ih (y2 + 1) (upd fq (y2 : Int32).toNatClampNeg (F_X3_get n f1 y2)) _ _ hP hD hS _ (lv_sub hl [1, 2, 0] rfl) hw
  have hw : (∃ N, wl_X3_takeOver_2 n f1 (fun (Z2 : (Nat → Int32)) => (k Z2)) N 0 f) := hw
  refine lv_iconst (v := 0) hx hb dX3_takeOver_0 (by decide) ?_
  refine lv_istore_n (lv' := [(2, .int 0), (0, .ref r), (1, .ref r1)]) hx hb dX3_takeOver_1 rfl hl (by decide) rfl (fun ls hl => ?_)
  obtain ⟨N3, hw⟩ := hw
  refine L2  _ (fun Z2 H locs hP hD hS ls hl hw => ?_) N3 0 f _ _ hP hD hS _ (lv_sub hl [1, 2, 0] rfl) hw
  exact W.vret hx hb hr (fun t ht _ => ⟨⟨_, (Z2), rfl, ⟨rfl, hw⟩, by rw [ht]; exact hP⟩, hS.F ht⟩) hS.2.2 dX3_takeOver_28
set_option maxHeartbeats 4000000 in
set_option maxRecDepth 100000 in
theorem c_J6_bitCount_0f7a4 (l : Launch) (D : va_G) (cI cZ : ClassId) (x0 : Int32) (r9 : Int32) (hw : F_J6_bitCount_0f7a4 x0 = r9) : KF l yJ6_bitCount_0f7a4 cJ6_bitCount_0f7a4 1 (some .int) 0 0 D cI cZ [.int x0] ([]) (some (.int r9)) := by
  refine Met.ofE (by decide +kernel) (Nat.le_of_ble_eq_true rfl) ?_
  intro p e s m below meth c E ls hl
  obtain ⟨hx, hb, hr, hml, hW, hown, hlocks, hP, hK, hD, hN⟩ := E
  have hl : lv_has ls 1 [(0, .int x0)] := hl
  have hw : ((((((((x0 - ((x0.toUInt32 >>> ((1 : Int32).toUInt32 &&& Int32.toUInt32 31)).toInt32 &&& 1431655765)) &&& 858993459) + (((x0 - ((x0.toUInt32 >>> ((1 : Int32).toUInt32 &&& Int32.toUInt32 31)).toInt32 &&& 1431655765)).toUInt32 >>> ((2 : Int32).toUInt32 &&& Int32.toUInt32 31)).toInt32 &&& 858993459)) + ((((x0 - ((x0.toUInt32 >>> ((1 : Int32).toUInt32 &&& Int32.toUInt32 31)).toInt32 &&& 1431655765)) &&& 858993459) + (((x0 - ((x0.toUInt32 >>> ((1 : Int32).toUInt32 &&& Int32.toUInt32 31)).toInt32 &&& 1431655765)).toUInt32 >>> ((2 : Int32).toUInt32 &&& Int32.toUInt32 31)).toInt32 &&& 858993459)).toUInt32 >>> ((4 : Int32).toUInt32 &&& Int32.toUInt32 31)).toInt32) &&& 252645135) + ((((((x0 - ((x0.toUInt32 >>> ((1 : Int32).toUInt32 &&& Int32.toUInt32 31)).toInt32 &&& 1431655765)) &&& 858993459) + (((x0 - ((x0.toUInt32 >>> ((1 : Int32).toUInt32 &&& Int32.toUInt32 31)).toInt32 &&& 1431655765)).toUInt32 >>> ((2 : Int32).toUInt32 &&& Int32.toUInt32 31)).toInt32 &&& 858993459)) + ((((x0 - ((x0.toUInt32 >>> ((1 : Int32).toUInt32 &&& Int32.toUInt32 31)).toInt32 &&& 1431655765)) &&& 858993459) + (((x0 - ((x0.toUInt32 >>> ((1 : Int32).toUInt32 &&& Int32.toUInt32 31)).toInt32 &&& 1431655765)).toUInt32 >>> ((2 : Int32).toUInt32 &&& Int32.toUInt32 31)).toInt32 &&& 858993459)).toUInt32 >>> ((4 : Int32).toUInt32 &&& Int32.toUInt32 31)).toInt32) &&& 252645135).toUInt32 >>> ((8 : Int32).toUInt32 &&& Int32.toUInt32 31)).toInt32) + (((((((x0 - ((x0.toUInt32 >>> ((1 : Int32).toUInt32 &&& Int32.toUInt32 31)).toInt32 &&& 1431655765)) &&& 858993459) + (((x0 - ((x0.toUInt32 >>> ((1 : Int32).toUInt32 &&& Int32.toUInt32 31)).toInt32 &&& 1431655765)).toUInt32 >>> ((2 : Int32).toUInt32 &&& Int32.toUInt32 31)).toInt32 &&& 858993459)) + ((((x0 - ((x0.toUInt32 >>> ((1 : Int32).toUInt32 &&& Int32.toUInt32 31)).toInt32 &&& 1431655765)) &&& 858993459) + (((x0 - ((x0.toUInt32 >>> ((1 : Int32).toUInt32 &&& Int32.toUInt32 31)).toInt32 &&& 1431655765)).toUInt32 >>> ((2 : Int32).toUInt32 &&& Int32.toUInt32 31)).toInt32 &&& 858993459)).toUInt32 >>> ((4 : Int32).toUInt32 &&& Int32.toUInt32 31)).toInt32) &&& 252645135) + ((((((x0 - ((x0.toUInt32 >>> ((1 : Int32).toUInt32 &&& Int32.toUInt32 31)).toInt32 &&& 1431655765)) &&& 858993459) + (((x0 - ((x0.toUInt32 >>> ((1 : Int32).toUInt32 &&& Int32.toUInt32 31)).toInt32 &&& 1431655765)).toUInt32 >>> ((2 : Int32).toUInt32 &&& Int32.toUInt32 31)).toInt32 &&& 858993459)) + ((((x0 - ((x0.toUInt32 >>> ((1 : Int32).toUInt32 &&& Int32.toUInt32 31)).toInt32 &&& 1431655765)) &&& 858993459) + (((x0 - ((x0.toUInt32 >>> ((1 : Int32).toUInt32 &&& Int32.toUInt32 31)).toInt32 &&& 1431655765)).toUInt32 >>> ((2 : Int32).toUInt32 &&& Int32.toUInt32 31)).toInt32 &&& 858993459)).toUInt32 >>> ((4 : Int32).toUInt32 &&& Int32.toUInt32 31)).toInt32) &&& 252645135).toUInt32 >>> ((8 : Int32).toUInt32 &&& Int32.toUInt32 31)).toInt32).toUInt32 >>> ((16 : Int32).toUInt32 &&& Int32.toUInt32 31)).toInt32) &&& 63) = r9 := hw
  refine lv_iload_n hx hb dJ6_bitCount_0f7a4_0 rfl (lv_at hl 0 rfl) ?_
  refine lv_iload_n hx hb dJ6_bitCount_0f7a4_1 rfl (lv_at hl 0 rfl) ?_
  refine lv_iconst (v := 1) hx hb dJ6_bitCount_0f7a4_2 (by decide) ?_
  refine lv_iushr (v := (x0.toUInt32 >>> ((1 : Int32).toUInt32 &&& Int32.toUInt32 31)).toInt32) hx hb dJ6_bitCount_0f7a4_3 rfl ?_
  refine lv_ldcw (v := 1431655765) hx hb hown (hW _ kc_J6_265) dJ6_bitCount_0f7a4_4 ?_
  refine lv_iand hx hb dJ6_bitCount_0f7a4_7 ?_
  refine lv_isub hx hb dJ6_bitCount_0f7a4_8 ?_
  refine lv_istore_n (lv' := [(0, .int (x0 - ((x0.toUInt32 >>> ((1 : Int32).toUInt32 &&& Int32.toUInt32 31)).toInt32 &&& 1431655765)))]) hx hb dJ6_bitCount_0f7a4_9 rfl hl (by decide) rfl (fun ls hl => ?_)
  refine lv_iload_n hx hb dJ6_bitCount_0f7a4_10 rfl (lv_at hl 0 rfl) ?_
  refine lv_ldcw (v := 858993459) hx hb hown (hW _ kc_J6_266) dJ6_bitCount_0f7a4_11 ?_
  refine lv_iand hx hb dJ6_bitCount_0f7a4_14 ?_
  refine lv_iload_n hx hb dJ6_bitCount_0f7a4_15 rfl (lv_at hl 0 rfl) ?_
  refine lv_iconst (v := 2) hx hb dJ6_bitCount_0f7a4_16 (by decide) ?_
  refine lv_iushr (v := ((x0 - ((x0.toUInt32 >>> ((1 : Int32).toUInt32 &&& Int32.toUInt32 31)).toInt32 &&& 1431655765)).toUInt32 >>> ((2 : Int32).toUInt32 &&& Int32.toUInt32 31)).toInt32) hx hb dJ6_bitCount_0f7a4_17 rfl ?_
  refine lv_ldcw (v := 858993459) hx hb hown (hW _ kc_J6_266) dJ6_bitCount_0f7a4_18 ?_
  refine lv_iand hx hb dJ6_bitCount_0f7a4_21 ?_
  refine lv_iadd hx hb dJ6_bitCount_0f7a4_22 ?_
  refine lv_istore_n (lv' := [(0, .int (((x0 - ((x0.toUInt32 >>> ((1 : Int32).toUInt32 &&& Int32.toUInt32 31)).toInt32 &&& 1431655765)) &&& 858993459) + (((x0 - ((x0.toUInt32 >>> ((1 : Int32).toUInt32 &&& Int32.toUInt32 31)).toInt32 &&& 1431655765)).toUInt32 >>> ((2 : Int32).toUInt32 &&& Int32.toUInt32 31)).toInt32 &&& 858993459)))]) hx hb dJ6_bitCount_0f7a4_23 rfl hl (by decide) rfl (fun ls hl => ?_)
  refine lv_iload_n hx hb dJ6_bitCount_0f7a4_24 rfl (lv_at hl 0 rfl) ?_
  refine lv_iload_n hx hb dJ6_bitCount_0f7a4_25 rfl (lv_at hl 0 rfl) ?_
  refine lv_iconst (v := 4) hx hb dJ6_bitCount_0f7a4_26 (by decide) ?_
  refine lv_iushr (v := ((((x0 - ((x0.toUInt32 >>> ((1 : Int32).toUInt32 &&& Int32.toUInt32 31)).toInt32 &&& 1431655765)) &&& 858993459) + (((x0 - ((x0.toUInt32 >>> ((1 : Int32).toUInt32 &&& Int32.toUInt32 31)).toInt32 &&& 1431655765)).toUInt32 >>> ((2 : Int32).toUInt32 &&& Int32.toUInt32 31)).toInt32 &&& 858993459)).toUInt32 >>> ((4 : Int32).toUInt32 &&& Int32.toUInt32 31)).toInt32) hx hb dJ6_bitCount_0f7a4_27 rfl ?_
  refine lv_iadd hx hb dJ6_bitCount_0f7a4_28 ?_
  refine lv_ldcw (v := 252645135) hx hb hown (hW _ kc_J6_267) dJ6_bitCount_0f7a4_29 ?_
  refine lv_iand hx hb dJ6_bitCount_0f7a4_32 ?_
  refine lv_istore_n (lv' := [(0, .int (((((x0 - ((x0.toUInt32 >>> ((1 : Int32).toUInt32 &&& Int32.toUInt32 31)).toInt32 &&& 1431655765)) &&& 858993459) + (((x0 - ((x0.toUInt32 >>> ((1 : Int32).toUInt32 &&& Int32.toUInt32 31)).toInt32 &&& 1431655765)).toUInt32 >>> ((2 : Int32).toUInt32 &&& Int32.toUInt32 31)).toInt32 &&& 858993459)) + ((((x0 - ((x0.toUInt32 >>> ((1 : Int32).toUInt32 &&& Int32.toUInt32 31)).toInt32 &&& 1431655765)) &&& 858993459) + (((x0 - ((x0.toUInt32 >>> ((1 : Int32).toUInt32 &&& Int32.toUInt32 31)).toInt32 &&& 1431655765)).toUInt32 >>> ((2 : Int32).toUInt32 &&& Int32.toUInt32 31)).toInt32 &&& 858993459)).toUInt32 >>> ((4 : Int32).toUInt32 &&& Int32.toUInt32 31)).toInt32) &&& 252645135))]) hx hb dJ6_bitCount_0f7a4_33 rfl hl (by decide) rfl (fun ls hl => ?_)
  refine lv_iload_n hx hb dJ6_bitCount_0f7a4_34 rfl (lv_at hl 0 rfl) ?_
  refine lv_iload_n hx hb dJ6_bitCount_0f7a4_35 rfl (lv_at hl 0 rfl) ?_
  refine lv_bipush (v := 8) hx hb dJ6_bitCount_0f7a4_36 (by decide) ?_
  refine lv_iushr (v := ((((((x0 - ((x0.toUInt32 >>> ((1 : Int32).toUInt32 &&& Int32.toUInt32 31)).toInt32 &&& 1431655765)) &&& 858993459) + (((x0 - ((x0.toUInt32 >>> ((1 : Int32).toUInt32 &&& Int32.toUInt32 31)).toInt32 &&& 1431655765)).toUInt32 >>> ((2 : Int32).toUInt32 &&& Int32.toUInt32 31)).toInt32 &&& 858993459)) + ((((x0 - ((x0.toUInt32 >>> ((1 : Int32).toUInt32 &&& Int32.toUInt32 31)).toInt32 &&& 1431655765)) &&& 858993459) + (((x0 - ((x0.toUInt32 >>> ((1 : Int32).toUInt32 &&& Int32.toUInt32 31)).toInt32 &&& 1431655765)).toUInt32 >>> ((2 : Int32).toUInt32 &&& Int32.toUInt32 31)).toInt32 &&& 858993459)).toUInt32 >>> ((4 : Int32).toUInt32 &&& Int32.toUInt32 31)).toInt32) &&& 252645135).toUInt32 >>> ((8 : Int32).toUInt32 &&& Int32.toUInt32 31)).toInt32) hx hb dJ6_bitCount_0f7a4_38 rfl ?_
  refine lv_iadd hx hb dJ6_bitCount_0f7a4_39 ?_
  refine lv_istore_n (lv' := [(0, .int ((((((x0 - ((x0.toUInt32 >>> ((1 : Int32).toUInt32 &&& Int32.toUInt32 31)).toInt32 &&& 1431655765)) &&& 858993459) + (((x0 - ((x0.toUInt32 >>> ((1 : Int32).toUInt32 &&& Int32.toUInt32 31)).toInt32 &&& 1431655765)).toUInt32 >>> ((2 : Int32).toUInt32 &&& Int32.toUInt32 31)).toInt32 &&& 858993459)) + ((((x0 - ((x0.toUInt32 >>> ((1 : Int32).toUInt32 &&& Int32.toUInt32 31)).toInt32 &&& 1431655765)) &&& 858993459) + (((x0 - ((x0.toUInt32 >>> ((1 : Int32).toUInt32 &&& Int32.toUInt32 31)).toInt32 &&& 1431655765)).toUInt32 >>> ((2 : Int32).toUInt32 &&& Int32.toUInt32 31)).toInt32 &&& 858993459)).toUInt32 >>> ((4 : Int32).toUInt32 &&& Int32.toUInt32 31)).toInt32) &&& 252645135) + ((((((x0 - ((x0.toUInt32 >>> ((1 : Int32).toUInt32 &&& Int32.toUInt32 31)).toInt32 &&& 1431655765)) &&& 858993459) + (((x0 - ((x0.toUInt32 >>> ((1 : Int32).toUInt32 &&& Int32.toUInt32 31)).toInt32 &&& 1431655765)).toUInt32 >>> ((2 : Int32).toUInt32 &&& Int32.toUInt32 31)).toInt32 &&& 858993459)) + ((((x0 - ((x0.toUInt32 >>> ((1 : Int32).toUInt32 &&& Int32.toUInt32 31)).toInt32 &&& 1431655765)) &&& 858993459) + (((x0 - ((x0.toUInt32 >>> ((1 : Int32).toUInt32 &&& Int32.toUInt32 31)).toInt32 &&& 1431655765)).toUInt32 >>> ((2 : Int32).toUInt32 &&& Int32.toUInt32 31)).toInt32 &&& 858993459)).toUInt32 >>> ((4 : Int32).toUInt32 &&& Int32.toUInt32 31)).toInt32) &&& 252645135).toUInt32 >>> ((8 : Int32).toUInt32 &&& Int32.toUInt32 31)).toInt32))]) hx hb dJ6_bitCount_0f7a4_40 rfl hl (by decide) rfl (fun ls hl => ?_)
  refine lv_iload_n hx hb dJ6_bitCount_0f7a4_41 rfl (lv_at hl 0 rfl) ?_
  refine lv_iload_n hx hb dJ6_bitCount_0f7a4_42 rfl (lv_at hl 0 rfl) ?_
  refine lv_bipush (v := 16) hx hb dJ6_bitCount_0f7a4_43 (by decide) ?_
  refine lv_iushr (v := (((((((x0 - ((x0.toUInt32 >>> ((1 : Int32).toUInt32 &&& Int32.toUInt32 31)).toInt32 &&& 1431655765)) &&& 858993459) + (((x0 - ((x0.toUInt32 >>> ((1 : Int32).toUInt32 &&& Int32.toUInt32 31)).toInt32 &&& 1431655765)).toUInt32 >>> ((2 : Int32).toUInt32 &&& Int32.toUInt32 31)).toInt32 &&& 858993459)) + ((((x0 - ((x0.toUInt32 >>> ((1 : Int32).toUInt32 &&& Int32.toUInt32 31)).toInt32 &&& 1431655765)) &&& 858993459) + (((x0 - ((x0.toUInt32 >>> ((1 : Int32).toUInt32 &&& Int32.toUInt32 31)).toInt32 &&& 1431655765)).toUInt32 >>> ((2 : Int32).toUInt32 &&& Int32.toUInt32 31)).toInt32 &&& 858993459)).toUInt32 >>> ((4 : Int32).toUInt32 &&& Int32.toUInt32 31)).toInt32) &&& 252645135) + ((((((x0 - ((x0.toUInt32 >>> ((1 : Int32).toUInt32 &&& Int32.toUInt32 31)).toInt32 &&& 1431655765)) &&& 858993459) + (((x0 - ((x0.toUInt32 >>> ((1 : Int32).toUInt32 &&& Int32.toUInt32 31)).toInt32 &&& 1431655765)).toUInt32 >>> ((2 : Int32).toUInt32 &&& Int32.toUInt32 31)).toInt32 &&& 858993459)) + ((((x0 - ((x0.toUInt32 >>> ((1 : Int32).toUInt32 &&& Int32.toUInt32 31)).toInt32 &&& 1431655765)) &&& 858993459) + (((x0 - ((x0.toUInt32 >>> ((1 : Int32).toUInt32 &&& Int32.toUInt32 31)).toInt32 &&& 1431655765)).toUInt32 >>> ((2 : Int32).toUInt32 &&& Int32.toUInt32 31)).toInt32 &&& 858993459)).toUInt32 >>> ((4 : Int32).toUInt32 &&& Int32.toUInt32 31)).toInt32) &&& 252645135).toUInt32 >>> ((8 : Int32).toUInt32 &&& Int32.toUInt32 31)).toInt32).toUInt32 >>> ((16 : Int32).toUInt32 &&& Int32.toUInt32 31)).toInt32) hx hb dJ6_bitCount_0f7a4_45 rfl ?_
  refine lv_iadd hx hb dJ6_bitCount_0f7a4_46 ?_
  refine lv_istore_n (lv' := [(0, .int (((((((x0 - ((x0.toUInt32 >>> ((1 : Int32).toUInt32 &&& Int32.toUInt32 31)).toInt32 &&& 1431655765)) &&& 858993459) + (((x0 - ((x0.toUInt32 >>> ((1 : Int32).toUInt32 &&& Int32.toUInt32 31)).toInt32 &&& 1431655765)).toUInt32 >>> ((2 : Int32).toUInt32 &&& Int32.toUInt32 31)).toInt32 &&& 858993459)) + ((((x0 - ((x0.toUInt32 >>> ((1 : Int32).toUInt32 &&& Int32.toUInt32 31)).toInt32 &&& 1431655765)) &&& 858993459) + (((x0 - ((x0.toUInt32 >>> ((1 : Int32).toUInt32 &&& Int32.toUInt32 31)).toInt32 &&& 1431655765)).toUInt32 >>> ((2 : Int32).toUInt32 &&& Int32.toUInt32 31)).toInt32 &&& 858993459)).toUInt32 >>> ((4 : Int32).toUInt32 &&& Int32.toUInt32 31)).toInt32) &&& 252645135) + ((((((x0 - ((x0.toUInt32 >>> ((1 : Int32).toUInt32 &&& Int32.toUInt32 31)).toInt32 &&& 1431655765)) &&& 858993459) + (((x0 - ((x0.toUInt32 >>> ((1 : Int32).toUInt32 &&& Int32.toUInt32 31)).toInt32 &&& 1431655765)).toUInt32 >>> ((2 : Int32).toUInt32 &&& Int32.toUInt32 31)).toInt32 &&& 858993459)) + ((((x0 - ((x0.toUInt32 >>> ((1 : Int32).toUInt32 &&& Int32.toUInt32 31)).toInt32 &&& 1431655765)) &&& 858993459) + (((x0 - ((x0.toUInt32 >>> ((1 : Int32).toUInt32 &&& Int32.toUInt32 31)).toInt32 &&& 1431655765)).toUInt32 >>> ((2 : Int32).toUInt32 &&& Int32.toUInt32 31)).toInt32 &&& 858993459)).toUInt32 >>> ((4 : Int32).toUInt32 &&& Int32.toUInt32 31)).toInt32) &&& 252645135).toUInt32 >>> ((8 : Int32).toUInt32 &&& Int32.toUInt32 31)).toInt32) + (((((((x0 - ((x0.toUInt32 >>> ((1 : Int32).toUInt32 &&& Int32.toUInt32 31)).toInt32 &&& 1431655765)) &&& 858993459) + (((x0 - ((x0.toUInt32 >>> ((1 : Int32).toUInt32 &&& Int32.toUInt32 31)).toInt32 &&& 1431655765)).toUInt32 >>> ((2 : Int32).toUInt32 &&& Int32.toUInt32 31)).toInt32 &&& 858993459)) + ((((x0 - ((x0.toUInt32 >>> ((1 : Int32).toUInt32 &&& Int32.toUInt32 31)).toInt32 &&& 1431655765)) &&& 858993459) + (((x0 - ((x0.toUInt32 >>> ((1 : Int32).toUInt32 &&& Int32.toUInt32 31)).toInt32 &&& 1431655765)).toUInt32 >>> ((2 : Int32).toUInt32 &&& Int32.toUInt32 31)).toInt32 &&& 858993459)).toUInt32 >>> ((4 : Int32).toUInt32 &&& Int32.toUInt32 31)).toInt32) &&& 252645135) + ((((((x0 - ((x0.toUInt32 >>> ((1 : Int32).toUInt32 &&& Int32.toUInt32 31)).toInt32 &&& 1431655765)) &&& 858993459) + (((x0 - ((x0.toUInt32 >>> ((1 : Int32).toUInt32 &&& Int32.toUInt32 31)).toInt32 &&& 1431655765)).toUInt32 >>> ((2 : Int32).toUInt32 &&& Int32.toUInt32 31)).toInt32 &&& 858993459)) + ((((x0 - ((x0.toUInt32 >>> ((1 : Int32).toUInt32 &&& Int32.toUInt32 31)).toInt32 &&& 1431655765)) &&& 858993459) + (((x0 - ((x0.toUInt32 >>> ((1 : Int32).toUInt32 &&& Int32.toUInt32 31)).toInt32 &&& 1431655765)).toUInt32 >>> ((2 : Int32).toUInt32 &&& Int32.toUInt32 31)).toInt32 &&& 858993459)).toUInt32 >>> ((4 : Int32).toUInt32 &&& Int32.toUInt32 31)).toInt32) &&& 252645135).toUInt32 >>> ((8 : Int32).toUInt32 &&& Int32.toUInt32 31)).toInt32).toUInt32 >>> ((16 : Int32).toUInt32 &&& Int32.toUInt32 31)).toInt32))]) hx hb dJ6_bitCount_0f7a4_47 rfl hl (by decide) rfl (fun ls hl => ?_)
  refine lv_iload_n hx hb dJ6_bitCount_0f7a4_48 rfl (lv_at hl 0 rfl) ?_
  refine lv_bipush (v := 63) hx hb dJ6_bitCount_0f7a4_49 (by decide) ?_
  refine lv_iand hx hb dJ6_bitCount_0f7a4_51 ?_
  subst hw
  exact W.iret (v := ((((((((x0 - ((x0.toUInt32 >>> ((1 : Int32).toUInt32 &&& Int32.toUInt32 31)).toInt32 &&& 1431655765)) &&& 858993459) + (((x0 - ((x0.toUInt32 >>> ((1 : Int32).toUInt32 &&& Int32.toUInt32 31)).toInt32 &&& 1431655765)).toUInt32 >>> ((2 : Int32).toUInt32 &&& Int32.toUInt32 31)).toInt32 &&& 858993459)) + ((((x0 - ((x0.toUInt32 >>> ((1 : Int32).toUInt32 &&& Int32.toUInt32 31)).toInt32 &&& 1431655765)) &&& 858993459) + (((x0 - ((x0.toUInt32 >>> ((1 : Int32).toUInt32 &&& Int32.toUInt32 31)).toInt32 &&& 1431655765)).toUInt32 >>> ((2 : Int32).toUInt32 &&& Int32.toUInt32 31)).toInt32 &&& 858993459)).toUInt32 >>> ((4 : Int32).toUInt32 &&& Int32.toUInt32 31)).toInt32) &&& 252645135) + ((((((x0 - ((x0.toUInt32 >>> ((1 : Int32).toUInt32 &&& Int32.toUInt32 31)).toInt32 &&& 1431655765)) &&& 858993459) + (((x0 - ((x0.toUInt32 >>> ((1 : Int32).toUInt32 &&& Int32.toUInt32 31)).toInt32 &&& 1431655765)).toUInt32 >>> ((2 : Int32).toUInt32 &&& Int32.toUInt32 31)).toInt32 &&& 858993459)) + ((((x0 - ((x0.toUInt32 >>> ((1 : Int32).toUInt32 &&& Int32.toUInt32 31)).toInt32 &&& 1431655765)) &&& 858993459) + (((x0 - ((x0.toUInt32 >>> ((1 : Int32).toUInt32 &&& Int32.toUInt32 31)).toInt32 &&& 1431655765)).toUInt32 >>> ((2 : Int32).toUInt32 &&& Int32.toUInt32 31)).toInt32 &&& 858993459)).toUInt32 >>> ((4 : Int32).toUInt32 &&& Int32.toUInt32 31)).toInt32) &&& 252645135).toUInt32 >>> ((8 : Int32).toUInt32 &&& Int32.toUInt32 31)).toInt32) + (((((((x0 - ((x0.toUInt32 >>> ((1 : Int32).toUInt32 &&& Int32.toUInt32 31)).toInt32 &&& 1431655765)) &&& 858993459) + (((x0 - ((x0.toUInt32 >>> ((1 : Int32).toUInt32 &&& Int32.toUInt32 31)).toInt32 &&& 1431655765)).toUInt32 >>> ((2 : Int32).toUInt32 &&& Int32.toUInt32 31)).toInt32 &&& 858993459)) + ((((x0 - ((x0.toUInt32 >>> ((1 : Int32).toUInt32 &&& Int32.toUInt32 31)).toInt32 &&& 1431655765)) &&& 858993459) + (((x0 - ((x0.toUInt32 >>> ((1 : Int32).toUInt32 &&& Int32.toUInt32 31)).toInt32 &&& 1431655765)).toUInt32 >>> ((2 : Int32).toUInt32 &&& Int32.toUInt32 31)).toInt32 &&& 858993459)).toUInt32 >>> ((4 : Int32).toUInt32 &&& Int32.toUInt32 31)).toInt32) &&& 252645135) + ((((((x0 - ((x0.toUInt32 >>> ((1 : Int32).toUInt32 &&& Int32.toUInt32 31)).toInt32 &&& 1431655765)) &&& 858993459) + (((x0 - ((x0.toUInt32 >>> ((1 : Int32).toUInt32 &&& Int32.toUInt32 31)).toInt32 &&& 1431655765)).toUInt32 >>> ((2 : Int32).toUInt32 &&& Int32.toUInt32 31)).toInt32 &&& 858993459)) + ((((x0 - ((x0.toUInt32 >>> ((1 : Int32).toUInt32 &&& Int32.toUInt32 31)).toInt32 &&& 1431655765)) &&& 858993459) + (((x0 - ((x0.toUInt32 >>> ((1 : Int32).toUInt32 &&& Int32.toUInt32 31)).toInt32 &&& 1431655765)).toUInt32 >>> ((2 : Int32).toUInt32 &&& Int32.toUInt32 31)).toInt32 &&& 858993459)).toUInt32 >>> ((4 : Int32).toUInt32 &&& Int32.toUInt32 31)).toInt32) &&& 252645135).toUInt32 >>> ((8 : Int32).toUInt32 &&& Int32.toUInt32 31)).toInt32).toUInt32 >>> ((16 : Int32).toUInt32 &&& Int32.toUInt32 31)).toInt32) &&& 63)) hx hb hr (fun t ht _ => ⟨rfl, ht⟩) (fun _ h => by cases h) dJ6_bitCount_0f7a4_52
set_option maxHeartbeats 4000000 in
set_option maxRecDepth 100000 in
theorem c_J6_numberOfTrailingZeros_0f7a4 (l : Launch) (D : va_G) (cI cZ : ClassId) (x0 : Int32) (r9 : Int32) (hw : F_J6_numberOfTrailingZeros_0f7a4 x0 = r9) : KF l yJ6_numberOfTrailingZeros_0f7a4 cJ6_numberOfTrailingZeros_0f7a4 2 (some .int) 0 0 D cI cZ [.int x0] ([]) (some (.int r9)) := by
  refine Met.ofE (by decide +kernel) (Nat.le_of_ble_eq_true rfl) ?_
  intro p e s m below meth c E ls hl
  obtain ⟨hx, hb, hr, hml, hW, hown, hlocks, hP, hK, hD, hN⟩ := E
  have hl : lv_has ls 2 [(0, .int x0)] := hl
  have hw : (if 0 < ((x0 ^^^ (-1)) &&& (x0 - 1)) then (if ((x0 ^^^ (-1)) &&& (x0 - 1)) ≤ 65536 then (if ((x0 ^^^ (-1)) &&& (x0 - 1)) ≤ 256 then (if ((x0 ^^^ (-1)) &&& (x0 - 1)) ≤ 16 then (if ((x0 ^^^ (-1)) &&& (x0 - 1)) ≤ 4 then (1 + (((x0 ^^^ (-1)) &&& (x0 - 1)).toUInt32 >>> ((1 : Int32).toUInt32 &&& Int32.toUInt32 31)).toInt32) else (((1 : Int32) + 2) + ((((x0 ^^^ (-1)) &&& (x0 - 1)).toUInt32 >>> ((2 : Int32).toUInt32 &&& Int32.toUInt32 31)).toInt32.toUInt32 >>> ((1 : Int32).toUInt32 &&& Int32.toUInt32 31)).toInt32)) else (if (((x0 ^^^ (-1)) &&& (x0 - 1)).toUInt32 >>> ((4 : Int32).toUInt32 &&& Int32.toUInt32 31)).toInt32 ≤ 4 then (((1 : Int32) + 4) + ((((x0 ^^^ (-1)) &&& (x0 - 1)).toUInt32 >>> ((4 : Int32).toUInt32 &&& Int32.toUInt32 31)).toInt32.toUInt32 >>> ((1 : Int32).toUInt32 &&& Int32.toUInt32 31)).toInt32) else ((((1 : Int32) + 4) + 2) + (((((x0 ^^^ (-1)) &&& (x0 - 1)).toUInt32 >>> ((4 : Int32).toUInt32 &&& Int32.toUInt32 31)).toInt32.toUInt32 >>> ((2 : Int32).toUInt32 &&& Int32.toUInt32 31)).toInt32.toUInt32 >>> ((1 : Int32).toUInt32 &&& Int32.toUInt32 31)).toInt32))) else (if (((x0 ^^^ (-1)) &&& (x0 - 1)).toUInt32 >>> ((8 : Int32).toUInt32 &&& Int32.toUInt32 31)).toInt32 ≤ 16 then (if (((x0 ^^^ (-1)) &&& (x0 - 1)).toUInt32 >>> ((8 : Int32).toUInt32 &&& Int32.toUInt32 31)).toInt32 ≤ 4 then (((1 : Int32) + 8) + ((((x0 ^^^ (-1)) &&& (x0 - 1)).toUInt32 >>> ((8 : Int32).toUInt32 &&& Int32.toUInt32 31)).toInt32.toUInt32 >>> ((1 : Int32).toUInt32 &&& Int32.toUInt32 31)).toInt32) else ((((1 : Int32) + 8) + 2) + (((((x0 ^^^ (-1)) &&& (x0 - 1)).toUInt32 >>> ((8 : Int32).toUInt32 &&& Int32.toUInt32 31)).toInt32.toUInt32 >>> ((2 : Int32).toUInt32 &&& Int32.toUInt32 31)).toInt32.toUInt32 >>> ((1 : Int32).toUInt32 &&& Int32.toUInt32 31)).toInt32)) else (if ((((x0 ^^^ (-1)) &&& (x0 - 1)).toUInt32 >>> ((8 : Int32).toUInt32 &&& Int32.toUInt32 31)).toInt32.toUInt32 >>> ((4 : Int32).toUInt32 &&& Int32.toUInt32 31)).toInt32 ≤ 4 then ((((1 : Int32) + 8) + 4) + (((((x0 ^^^ (-1)) &&& (x0 - 1)).toUInt32 >>> ((8 : Int32).toUInt32 &&& Int32.toUInt32 31)).toInt32.toUInt32 >>> ((4 : Int32).toUInt32 &&& Int32.toUInt32 31)).toInt32.toUInt32 >>> ((1 : Int32).toUInt32 &&& Int32.toUInt32 31)).toInt32) else (((((1 : Int32) + 8) + 4) + 2) + ((((((x0 ^^^ (-1)) &&& (x0 - 1)).toUInt32 >>> ((8 : Int32).toUInt32 &&& Int32.toUInt32 31)).toInt32.toUInt32 >>> ((4 : Int32).toUInt32 &&& Int32.toUInt32 31)).toInt32.toUInt32 >>> ((2 : Int32).toUInt32 &&& Int32.toUInt32 31)).toInt32.toUInt32 >>> ((1 : Int32).toUInt32 &&& Int32.toUInt32 31)).toInt32)))) else (if (((x0 ^^^ (-1)) &&& (x0 - 1)).toUInt32 >>> ((16 : Int32).toUInt32 &&& Int32.toUInt32 31)).toInt32 ≤ 256 then (if (((x0 ^^^ (-1)) &&& (x0 - 1)).toUInt32 >>> ((16 : Int32).toUInt32 &&& Int32.toUInt32 31)).toInt32 ≤ 16 then (if (((x0 ^^^ (-1)) &&& (x0 - 1)).toUInt32 >>> ((16 : Int32).toUInt32 &&& Int32.toUInt32 31)).toInt32 ≤ 4 then (((1 : Int32) + 16) + ((((x0 ^^^ (-1)) &&& (x0 - 1)).toUInt32 >>> ((16 : Int32).toUInt32 &&& Int32.toUInt32 31)).toInt32.toUInt32 >>> ((1 : Int32).toUInt32 &&& Int32.toUInt32 31)).toInt32) else ((((1 : Int32) + 16) + 2) + (((((x0 ^^^ (-1)) &&& (x0 - 1)).toUInt32 >>> ((16 : Int32).toUInt32 &&& Int32.toUInt32 31)).toInt32.toUInt32 >>> ((2 : Int32).toUInt32 &&& Int32.toUInt32 31)).toInt32.toUInt32 >>> ((1 : Int32).toUInt32 &&& Int32.toUInt32 31)).toInt32)) else (if ((((x0 ^^^ (-1)) &&& (x0 - 1)).toUInt32 >>> ((16 : Int32).toUInt32 &&& Int32.toUInt32 31)).toInt32.toUInt32 >>> ((4 : Int32).toUInt32 &&& Int32.toUInt32 31)).toInt32 ≤ 4 then ((((1 : Int32) + 16) + 4) + (((((x0 ^^^ (-1)) &&& (x0 - 1)).toUInt32 >>> ((16 : Int32).toUInt32 &&& Int32.toUInt32 31)).toInt32.toUInt32 >>> ((4 : Int32).toUInt32 &&& Int32.toUInt32 31)).toInt32.toUInt32 >>> ((1 : Int32).toUInt32 &&& Int32.toUInt32 31)).toInt32) else (((((1 : Int32) + 16) + 4) + 2) + ((((((x0 ^^^ (-1)) &&& (x0 - 1)).toUInt32 >>> ((16 : Int32).toUInt32 &&& Int32.toUInt32 31)).toInt32.toUInt32 >>> ((4 : Int32).toUInt32 &&& Int32.toUInt32 31)).toInt32.toUInt32 >>> ((2 : Int32).toUInt32 &&& Int32.toUInt32 31)).toInt32.toUInt32 >>> ((1 : Int32).toUInt32 &&& Int32.toUInt32 31)).toInt32))) else (if ((((x0 ^^^ (-1)) &&& (x0 - 1)).toUInt32 >>> ((16 : Int32).toUInt32 &&& Int32.toUInt32 31)).toInt32.toUInt32 >>> ((8 : Int32).toUInt32 &&& Int32.toUInt32 31)).toInt32 ≤ 16 then (if ((((x0 ^^^ (-1)) &&& (x0 - 1)).toUInt32 >>> ((16 : Int32).toUInt32 &&& Int32.toUInt32 31)).toInt32.toUInt32 >>> ((8 : Int32).toUInt32 &&& Int32.toUInt32 31)).toInt32 ≤ 4 then ((((1 : Int32) + 16) + 8) + (((((x0 ^^^ (-1)) &&& (x0 - 1)).toUInt32 >>> ((16 : Int32).toUInt32 &&& Int32.toUInt32 31)).toInt32.toUInt32 >>> ((8 : Int32).toUInt32 &&& Int32.toUInt32 31)).toInt32.toUInt32 >>> ((1 : Int32).toUInt32 &&& Int32.toUInt32 31)).toInt32) else (((((1 : Int32) + 16) + 8) + 2) + ((((((x0 ^^^ (-1)) &&& (x0 - 1)).toUInt32 >>> ((16 : Int32).toUInt32 &&& Int32.toUInt32 31)).toInt32.toUInt32 >>> ((8 : Int32).toUInt32 &&& Int32.toUInt32 31)).toInt32.toUInt32 >>> ((2 : Int32).toUInt32 &&& Int32.toUInt32 31)).toInt32.toUInt32 >>> ((1 : Int32).toUInt32 &&& Int32.toUInt32 31)).toInt32)) else (if (((((x0 ^^^ (-1)) &&& (x0 - 1)).toUInt32 >>> ((16 : Int32).toUInt32 &&& Int32.toUInt32 31)).toInt32.toUInt32 >>> ((8 : Int32).toUInt32 &&& Int32.toUInt32 31)).toInt32.toUInt32 >>> ((4 : Int32).toUInt32 &&& Int32.toUInt32 31)).toInt32 ≤ 4 then (((((1 : Int32) + 16) + 8) + 4) + ((((((x0 ^^^ (-1)) &&& (x0 - 1)).toUInt32 >>> ((16 : Int32).toUInt32 &&& Int32.toUInt32 31)).toInt32.toUInt32 >>> ((8 : Int32).toUInt32 &&& Int32.toUInt32 31)).toInt32.toUInt32 >>> ((4 : Int32).toUInt32 &&& Int32.toUInt32 31)).toInt32.toUInt32 >>> ((1 : Int32).toUInt32 &&& Int32.toUInt32 31)).toInt32) else ((((((1 : Int32) + 16) + 8) + 4) + 2) + (((((((x0 ^^^ (-1)) &&& (x0 - 1)).toUInt32 >>> ((16 : Int32).toUInt32 &&& Int32.toUInt32 31)).toInt32.toUInt32 >>> ((8 : Int32).toUInt32 &&& Int32.toUInt32 31)).toInt32.toUInt32 >>> ((4 : Int32).toUInt32 &&& Int32.toUInt32 31)).toInt32.toUInt32 >>> ((2 : Int32).toUInt32 &&& Int32.toUInt32 31)).toInt32.toUInt32 >>> ((1 : Int32).toUInt32 &&& Int32.toUInt32 31)).toInt32))))) else (((x0 ^^^ (-1)) &&& (x0 - 1)) &&& 32)) = r9 := hw
  refine lv_iload_n hx hb dJ6_numberOfTrailingZeros_0f7a4_0 rfl (lv_at hl 0 rfl) ?_
  refine lv_iconst (v := (-1)) hx hb dJ6_numberOfTrailingZeros_0f7a4_1 (by decide) ?_
  refine lv_ixor hx hb dJ6_numberOfTrailingZeros_0f7a4_2 ?_
  refine lv_iload_n hx hb dJ6_numberOfTrailingZeros_0f7a4_3 rfl (lv_at hl 0 rfl) ?_
  refine lv_iconst (v := 1) hx hb dJ6_numberOfTrailingZeros_0f7a4_4 (by decide) ?_
  refine lv_isub hx hb dJ6_numberOfTrailingZeros_0f7a4_5 ?_
  refine lv_iand hx hb dJ6_numberOfTrailingZeros_0f7a4_6 ?_
  refine lv_istore_n (lv' := [(0, .int ((x0 ^^^ (-1)) &&& (x0 - 1)))]) hx hb dJ6_numberOfTrailingZeros_0f7a4_7 rfl hl (by decide) rfl (fun ls hl => ?_)
  refine lv_iload_n hx hb dJ6_numberOfTrailingZeros_0f7a4_8 rfl (lv_at hl 0 rfl) ?_
  refine lv_if_gt (tgt := 17) hx hb dJ6_numberOfTrailingZeros_0f7a4_9 (by decide) (fun c1 => ?_) (fun c1 => ?_)
  · have hw := (if_pos c1).symm.trans hw
    refine lv_iconst (v := 1) hx hb dJ6_numberOfTrailingZeros_0f7a4_17 (by decide) ?_
    refine lv_istore_n (lv' := [(1, .int 1), (0, .int ((x0 ^^^ (-1)) &&& (x0 - 1)))]) hx hb dJ6_numberOfTrailingZeros_0f7a4_18 rfl hl (by decide) rfl (fun ls hl => ?_)
    refine lv_iload_n hx hb dJ6_numberOfTrailingZeros_0f7a4_19 rfl (lv_at hl 1 rfl) ?_
    refine lv_ldcw (v := 65536) hx hb hown (hW _ kc_J6_264) dJ6_numberOfTrailingZeros_0f7a4_20 ?_
    refine lv_icmp_le (tgt := 34) hx hb dJ6_numberOfTrailingZeros_0f7a4_23 (by decide) (fun c2 => ?_) (fun c2 => ?_)
    · have hw := (if_pos c2).symm.trans hw
      refine lv_iload_n hx hb dJ6_numberOfTrailingZeros_0f7a4_34 rfl (lv_at hl 1 rfl) ?_
      refine lv_sipush (v := 256) hx hb dJ6_numberOfTrailingZeros_0f7a4_35 (by decide) ?_
      refine lv_icmp_le (tgt := 49) hx hb dJ6_numberOfTrailingZeros_0f7a4_38 (by decide) (fun c3 => ?_) (fun c3 => ?_)
      · have hw := (if_pos c3).symm.trans hw
        refine lv_iload_n hx hb dJ6_numberOfTrailingZeros_0f7a4_49 rfl (lv_at hl 1 rfl) ?_
        refine lv_bipush (v := 16) hx hb dJ6_numberOfTrailingZeros_0f7a4_50 (by decide) ?_
        refine lv_icmp_le (tgt := 62) hx hb dJ6_numberOfTrailingZeros_0f7a4_52 (by decide) (fun c4 => ?_) (fun c4 => ?_)
        · have hw := (if_pos c4).symm.trans hw
          refine lv_iload_n hx hb dJ6_numberOfTrailingZeros_0f7a4_62 rfl (lv_at hl 1 rfl) ?_
          refine lv_iconst (v := 4) hx hb dJ6_numberOfTrailingZeros_0f7a4_63 (by decide) ?_
          refine lv_icmp_le (tgt := 74) hx hb dJ6_numberOfTrailingZeros_0f7a4_64 (by decide) (fun c5 => ?_) (fun c5 => ?_)
          · have hw := (if_pos c5).symm.trans hw
            refine lv_iload_n hx hb dJ6_numberOfTrailingZeros_0f7a4_74 rfl (lv_at hl 0 rfl) ?_
            refine lv_iload_n hx hb dJ6_numberOfTrailingZeros_0f7a4_75 rfl (lv_at hl 1 rfl) ?_
            refine lv_iconst (v := 1) hx hb dJ6_numberOfTrailingZeros_0f7a4_76 (by decide) ?_
            refine lv_iushr (v := (((x0 ^^^ (-1)) &&& (x0 - 1)).toUInt32 >>> ((1 : Int32).toUInt32 &&& Int32.toUInt32 31)).toInt32) hx hb dJ6_numberOfTrailingZeros_0f7a4_77 rfl ?_
            refine lv_iadd hx hb dJ6_numberOfTrailingZeros_0f7a4_78 ?_
            subst hw
            exact W.iret (v := (1 + (((x0 ^^^ (-1)) &&& (x0 - 1)).toUInt32 >>> ((1 : Int32).toUInt32 &&& Int32.toUInt32 31)).toInt32)) hx hb hr (fun t ht _ => ⟨rfl, ht⟩) (fun _ h => by cases h) dJ6_numberOfTrailingZeros_0f7a4_79
          · have hw := (if_neg c5).symm.trans hw
            refine lv_iinc (v := ((1 : Int32) + 2)) (lv' := [(1, .int ((1 : Int32) + 2)), (0, .int ((x0 ^^^ (-1)) &&& (x0 - 1)))]) hx hb dJ6_numberOfTrailingZeros_0f7a4_67 hl (k := 0) rfl rfl (by decide) rfl (fun ls hl => ?_)
            refine lv_iload_n hx hb dJ6_numberOfTrailingZeros_0f7a4_70 rfl (lv_at hl 1 rfl) ?_
            refine lv_iconst (v := 2) hx hb dJ6_numberOfTrailingZeros_0f7a4_71 (by decide) ?_
            refine lv_iushr (v := (((x0 ^^^ (-1)) &&& (x0 - 1)).toUInt32 >>> ((2 : Int32).toUInt32 &&& Int32.toUInt32 31)).toInt32) hx hb dJ6_numberOfTrailingZeros_0f7a4_72 rfl ?_
            refine lv_istore_n (lv' := [(0, .int (((x0 ^^^ (-1)) &&& (x0 - 1)).toUInt32 >>> ((2 : Int32).toUInt32 &&& Int32.toUInt32 31)).toInt32), (1, .int ((1 : Int32) + 2))]) hx hb dJ6_numberOfTrailingZeros_0f7a4_73 rfl hl (by decide) rfl (fun ls hl => ?_)
            refine lv_iload_n hx hb dJ6_numberOfTrailingZeros_0f7a4_74 rfl (lv_at hl 1 rfl) ?_
            refine lv_iload_n hx hb dJ6_numberOfTrailingZeros_0f7a4_75 rfl (lv_at hl 0 rfl) ?_
            refine lv_iconst (v := 1) hx hb dJ6_numberOfTrailingZeros_0f7a4_76 (by decide) ?_
            refine lv_iushr (v := ((((x0 ^^^ (-1)) &&& (x0 - 1)).toUInt32 >>> ((2 : Int32).toUInt32 &&& Int32.toUInt32 31)).toInt32.toUInt32 >>> ((1 : Int32).toUInt32 &&& Int32.toUInt32 31)).toInt32) hx hb dJ6_numberOfTrailingZeros_0f7a4_77 rfl ?_
            refine lv_iadd hx hb dJ6_numberOfTrailingZeros_0f7a4_78 ?_
            subst hw
            exact W.iret (v := (((1 : Int32) + 2) + ((((x0 ^^^ (-1)) &&& (x0 - 1)).toUInt32 >>> ((2 : Int32).toUInt32 &&& Int32.toUInt32 31)).toInt32.toUInt32 >>> ((1 : Int32).toUInt32 &&& Int32.toUInt32 31)).toInt32)) hx hb hr (fun t ht _ => ⟨rfl, ht⟩) (fun _ h => by cases h) dJ6_numberOfTrailingZeros_0f7a4_79
        · have hw := (if_neg c4).symm.trans hw
          refine lv_iinc (v := ((1 : Int32) + 4)) (lv' := [(1, .int ((1 : Int32) + 4)), (0, .int ((x0 ^^^ (-1)) &&& (x0 - 1)))]) hx hb dJ6_numberOfTrailingZeros_0f7a4_55 hl (k := 0) rfl rfl (by decide) rfl (fun ls hl => ?_)
          refine lv_iload_n hx hb dJ6_numberOfTrailingZeros_0f7a4_58 rfl (lv_at hl 1 rfl) ?_
          refine lv_iconst (v := 4) hx hb dJ6_numberOfTrailingZeros_0f7a4_59 (by decide) ?_
          refine lv_iushr (v := (((x0 ^^^ (-1)) &&& (x0 - 1)).toUInt32 >>> ((4 : Int32).toUInt32 &&& Int32.toUInt32 31)).toInt32) hx hb dJ6_numberOfTrailingZeros_0f7a4_60 rfl ?_
          refine lv_istore_n (lv' := [(0, .int (((x0 ^^^ (-1)) &&& (x0 - 1)).toUInt32 >>> ((4 : Int32).toUInt32 &&& Int32.toUInt32 31)).toInt32), (1, .int ((1 : Int32) + 4))]) hx hb dJ6_numberOfTrailingZeros_0f7a4_61 rfl hl (by decide) rfl (fun ls hl => ?_)
          refine lv_iload_n hx hb dJ6_numberOfTrailingZeros_0f7a4_62 rfl (lv_at hl 0 rfl) ?_
          refine lv_iconst (v := 4) hx hb dJ6_numberOfTrailingZeros_0f7a4_63 (by decide) ?_
          refine lv_icmp_le (tgt := 74) hx hb dJ6_numberOfTrailingZeros_0f7a4_64 (by decide) (fun c6 => ?_) (fun c6 => ?_)
          · have hw := (if_pos c6).symm.trans hw
            refine lv_iload_n hx hb dJ6_numberOfTrailingZeros_0f7a4_74 rfl (lv_at hl 1 rfl) ?_
            refine lv_iload_n hx hb dJ6_numberOfTrailingZeros_0f7a4_75 rfl (lv_at hl 0 rfl) ?_
            refine lv_iconst (v := 1) hx hb dJ6_numberOfTrailingZeros_0f7a4_76 (by decide) ?_
            refine lv_iushr (v := ((((x0 ^^^ (-1)) &&& (x0 - 1)).toUInt32 >>> ((4 : Int32).toUInt32 &&& Int32.toUInt32 31)).toInt32.toUInt32 >>> ((1 : Int32).toUInt32 &&& Int32.toUInt32 31)).toInt32) hx hb dJ6_numberOfTrailingZeros_0f7a4_77 rfl ?_
            refine lv_iadd hx hb dJ6_numberOfTrailingZeros_0f7a4_78 ?_
            subst hw
            exact W.iret (v := (((1 : Int32) + 4) + ((((x0 ^^^ (-1)) &&& (x0 - 1)).toUInt32 >>> ((4 : Int32).toUInt32 &&& Int32.toUInt32 31)).toInt32.toUInt32 >>> ((1 : Int32).toUInt32 &&& Int32.toUInt32 31)).toInt32)) hx hb hr (fun t ht _ => ⟨rfl, ht⟩) (fun _ h => by cases h) dJ6_numberOfTrailingZeros_0f7a4_79
          · have hw := (if_neg c6).symm.trans hw
            refine lv_iinc (v := (((1 : Int32) + 4) + 2)) (lv' := [(1, .int (((1 : Int32) + 4) + 2)), (0, .int (((x0 ^^^ (-1)) &&& (x0 - 1)).toUInt32 >>> ((4 : Int32).toUInt32 &&& Int32.toUInt32 31)).toInt32)]) hx hb dJ6_numberOfTrailingZeros_0f7a4_67 hl (k := 1) rfl rfl (by decide) rfl (fun ls hl => ?_)
            refine lv_iload_n hx hb dJ6_numberOfTrailingZeros_0f7a4_70 rfl (lv_at hl 1 rfl) ?_
            refine lv_iconst (v := 2) hx hb dJ6_numberOfTrailingZeros_0f7a4_71 (by decide) ?_
            refine lv_iushr (v := ((((x0 ^^^ (-1)) &&& (x0 - 1)).toUInt32 >>> ((4 : Int32).toUInt32 &&& Int32.toUInt32 31)).toInt32.toUInt32 >>> ((2 : Int32).toUInt32 &&& Int32.toUInt32 31)).toInt32) hx hb dJ6_numberOfTrailingZeros_0f7a4_72 rfl ?_
            refine lv_istore_n (lv' := [(0, .int ((((x0 ^^^ (-1)) &&& (x0 - 1)).toUInt32 >>> ((4 : Int32).toUInt32 &&& Int32.toUInt32 31)).toInt32.toUInt32 >>> ((2 : Int32).toUInt32 &&& Int32.toUInt32 31)).toInt32), (1, .int (((1 : Int32) + 4) + 2))]) hx hb dJ6_numberOfTrailingZeros_0f7a4_73 rfl hl (by decide) rfl (fun ls hl => ?_)
            refine lv_iload_n hx hb dJ6_numberOfTrailingZeros_0f7a4_74 rfl (lv_at hl 1 rfl) ?_
            refine lv_iload_n hx hb dJ6_numberOfTrailingZeros_0f7a4_75 rfl (lv_at hl 0 rfl) ?_
            refine lv_iconst (v := 1) hx hb dJ6_numberOfTrailingZeros_0f7a4_76 (by decide) ?_
            refine lv_iushr (v := (((((x0 ^^^ (-1)) &&& (x0 - 1)).toUInt32 >>> ((4 : Int32).toUInt32 &&& Int32.toUInt32 31)).toInt32.toUInt32 >>> ((2 : Int32).toUInt32 &&& Int32.toUInt32 31)).toInt32.toUInt32 >>> ((1 : Int32).toUInt32 &&& Int32.toUInt32 31)).toInt32) hx hb dJ6_numberOfTrailingZeros_0f7a4_77 rfl ?_
            refine lv_iadd hx hb dJ6_numberOfTrailingZeros_0f7a4_78 ?_
            subst hw
            exact W.iret (v := ((((1 : Int32) + 4) + 2) + (((((x0 ^^^ (-1)) &&& (x0 - 1)).toUInt32 >>> ((4 : Int32).toUInt32 &&& Int32.toUInt32 31)).toInt32.toUInt32 >>> ((2 : Int32).toUInt32 &&& Int32.toUInt32 31)).toInt32.toUInt32 >>> ((1 : Int32).toUInt32 &&& Int32.toUInt32 31)).toInt32)) hx hb hr (fun t ht _ => ⟨rfl, ht⟩) (fun _ h => by cases h) dJ6_numberOfTrailingZeros_0f7a4_79
      · have hw := (if_neg c3).symm.trans hw
        refine lv_iinc (v := ((1 : Int32) + 8)) (lv' := [(1, .int ((1 : Int32) + 8)), (0, .int ((x0 ^^^ (-1)) &&& (x0 - 1)))]) hx hb dJ6_numberOfTrailingZeros_0f7a4_41 hl (k := 0) rfl rfl (by decide) rfl (fun ls hl => ?_)
        refine lv_iload_n hx hb dJ6_numberOfTrailingZeros_0f7a4_44 rfl (lv_at hl 1 rfl) ?_
        refine lv_bipush (v := 8) hx hb dJ6_numberOfTrailingZeros_0f7a4_45 (by decide) ?_
        refine lv_iushr (v := (((x0 ^^^ (-1)) &&& (x0 - 1)).toUInt32 >>> ((8 : Int32).toUInt32 &&& Int32.toUInt32 31)).toInt32) hx hb dJ6_numberOfTrailingZeros_0f7a4_47 rfl ?_
        refine lv_istore_n (lv' := [(0, .int (((x0 ^^^ (-1)) &&& (x0 - 1)).toUInt32 >>> ((8 : Int32).toUInt32 &&& Int32.toUInt32 31)).toInt32), (1, .int ((1 : Int32) + 8))]) hx hb dJ6_numberOfTrailingZeros_0f7a4_48 rfl hl (by decide) rfl (fun ls hl => ?_)
        refine lv_iload_n hx hb dJ6_numberOfTrailingZeros_0f7a4_49 rfl (lv_at hl 0 rfl) ?_
        refine lv_bipush (v := 16) hx hb dJ6_numberOfTrailingZeros_0f7a4_50 (by decide) ?_
        refine lv_icmp_le (tgt := 62) hx hb dJ6_numberOfTrailingZeros_0f7a4_52 (by decide) (fun c7 => ?_) (fun c7 => ?_)
        · have hw := (if_pos c7).symm.trans hw
          refine lv_iload_n hx hb dJ6_numberOfTrailingZeros_0f7a4_62 rfl (lv_at hl 0 rfl) ?_
          refine lv_iconst (v := 4) hx hb dJ6_numberOfTrailingZeros_0f7a4_63 (by decide) ?_
          refine lv_icmp_le (tgt := 74) hx hb dJ6_numberOfTrailingZeros_0f7a4_64 (by decide) (fun c8 => ?_) (fun c8 => ?_)
          · have hw := (if_pos c8).symm.trans hw
            refine lv_iload_n hx hb dJ6_numberOfTrailingZeros_0f7a4_74 rfl (lv_at hl 1 rfl) ?_
            refine lv_iload_n hx hb dJ6_numberOfTrailingZeros_0f7a4_75 rfl (lv_at hl 0 rfl) ?_
            refine lv_iconst (v := 1) hx hb dJ6_numberOfTrailingZeros_0f7a4_76 (by decide) ?_
            refine lv_iushr (v := ((((x0 ^^^ (-1)) &&& (x0 - 1)).toUInt32 >>> ((8 : Int32).toUInt32 &&& Int32.toUInt32 31)).toInt32.toUInt32 >>> ((1 : Int32).toUInt32 &&& Int32.toUInt32 31)).toInt32) hx hb dJ6_numberOfTrailingZeros_0f7a4_77 rfl ?_
            refine lv_iadd hx hb dJ6_numberOfTrailingZeros_0f7a4_78 ?_
            subst hw
            exact W.iret (v := (((1 : Int32) + 8) + ((((x0 ^^^ (-1)) &&& (x0 - 1)).toUInt32 >>> ((8 : Int32).toUInt32 &&& Int32.toUInt32 31)).toInt32.toUInt32 >>> ((1 : Int32).toUInt32 &&& Int32.toUInt32 31)).toInt32)) hx hb hr (fun t ht _ => ⟨rfl, ht⟩) (fun _ h => by cases h) dJ6_numberOfTrailingZeros_0f7a4_79
          · have hw := (if_neg c8).symm.trans hw
            refine lv_iinc (v := (((1 : Int32) + 8) + 2)) (lv' := [(1, .int (((1 : Int32) + 8) + 2)), (0, .int (((x0 ^^^ (-1)) &&& (x0 - 1)).toUInt32 >>> ((8 : Int32).toUInt32 &&& Int32.toUInt32 31)).toInt32)]) hx hb dJ6_numberOfTrailingZeros_0f7a4_67 hl (k := 1) rfl rfl (by decide) rfl (fun ls hl => ?_)
            refine lv_iload_n hx hb dJ6_numberOfTrailingZeros_0f7a4_70 rfl (lv_at hl 1 rfl) ?_
            refine lv_iconst (v := 2) hx hb dJ6_numberOfTrailingZeros_0f7a4_71 (by decide) ?_
            refine lv_iushr (v := ((((x0 ^^^ (-1)) &&& (x0 - 1)).toUInt32 >>> ((8 : Int32).toUInt32 &&& Int32.toUInt32 31)).toInt32.toUInt32 >>> ((2 : Int32).toUInt32 &&& Int32.toUInt32 31)).toInt32) hx hb dJ6_numberOfTrailingZeros_0f7a4_72 rfl ?_
            refine lv_istore_n (lv' := [(0, .int ((((x0 ^^^ (-1)) &&& (x0 - 1)).toUInt32 >>> ((8 : Int32).toUInt32 &&& Int32.toUInt32 31)).toInt32.toUInt32 >>> ((2 : Int32).toUInt32 &&& Int32.toUInt32 31)).toInt32), (1, .int (((1 : Int32) + 8) + 2))]) hx hb dJ6_numberOfTrailingZeros_0f7a4_73 rfl hl (by decide) rfl (fun ls hl => ?_)
            refine lv_iload_n hx hb dJ6_numberOfTrailingZeros_0f7a4_74 rfl (lv_at hl 1 rfl) ?_
            refine lv_iload_n hx hb dJ6_numberOfTrailingZeros_0f7a4_75 rfl (lv_at hl 0 rfl) ?_
            refine lv_iconst (v := 1) hx hb dJ6_numberOfTrailingZeros_0f7a4_76 (by decide) ?_
            refine lv_iushr (v := (((((x0 ^^^ (-1)) &&& (x0 - 1)).toUInt32 >>> ((8 : Int32).toUInt32 &&& Int32.toUInt32 31)).toInt32.toUInt32 >>> ((2 : Int32).toUInt32 &&& Int32.toUInt32 31)).toInt32.toUInt32 >>> ((1 : Int32).toUInt32 &&& Int32.toUInt32 31)).toInt32) hx hb dJ6_numberOfTrailingZeros_0f7a4_77 rfl ?_
            refine lv_iadd hx hb dJ6_numberOfTrailingZeros_0f7a4_78 ?_
            subst hw
            exact W.iret (v := ((((1 : Int32) + 8) + 2) + (((((x0 ^^^ (-1)) &&& (x0 - 1)).toUInt32 >>> ((8 : Int32).toUInt32 &&& Int32.toUInt32 31)).toInt32.toUInt32 >>> ((2 : Int32).toUInt32 &&& Int32.toUInt32 31)).toInt32.toUInt32 >>> ((1 : Int32).toUInt32 &&& Int32.toUInt32 31)).toInt32)) hx hb hr (fun t ht _ => ⟨rfl, ht⟩) (fun _ h => by cases h) dJ6_numberOfTrailingZeros_0f7a4_79
        · have hw := (if_neg c7).symm.trans hw
          refine lv_iinc (v := (((1 : Int32) + 8) + 4)) (lv' := [(1, .int (((1 : Int32) + 8) + 4)), (0, .int (((x0 ^^^ (-1)) &&& (x0 - 1)).toUInt32 >>> ((8 : Int32).toUInt32 &&& Int32.toUInt32 31)).toInt32)]) hx hb dJ6_numberOfTrailingZeros_0f7a4_55 hl (k := 1) rfl rfl (by decide) rfl (fun ls hl => ?_)
          refine lv_iload_n hx hb dJ6_numberOfTrailingZeros_0f7a4_58 rfl (lv_at hl 1 rfl) ?_
          refine lv_iconst (v := 4) hx hb dJ6_numberOfTrailingZeros_0f7a4_59 (by decide) ?_
          refine lv_iushr (v := ((((x0 ^^^ (-1)) &&& (x0 - 1)).toUInt32 >>> ((8 : Int32).toUInt32 &&& Int32.toUInt32 31)).toInt32.toUInt32 >>> ((4 : Int32).toUInt32 &&& Int32.toUInt32 31)).toInt32) hx hb dJ6_numberOfTrailingZeros_0f7a4_60 rfl ?_
          refine lv_istore_n (lv' := [(0, .int ((((x0 ^^^ (-1)) &&& (x0 - 1)).toUInt32 >>> ((8 : Int32).toUInt32 &&& Int32.toUInt32 31)).toInt32.toUInt32 >>> ((4 : Int32).toUInt32 &&& Int32.toUInt32 31)).toInt32), (1, .int (((1 : Int32) + 8) + 4))]) hx hb dJ6_numberOfTrailingZeros_0f7a4_61 rfl hl (by decide) rfl (fun ls hl => ?_)
          refine lv_iload_n hx hb dJ6_numberOfTrailingZeros_0f7a4_62 rfl (lv_at hl 0 rfl) ?_
          refine lv_iconst (v := 4) hx hb dJ6_numberOfTrailingZeros_0f7a4_63 (by decide) ?_
          refine lv_icmp_le (tgt := 74) hx hb dJ6_numberOfTrailingZeros_0f7a4_64 (by decide) (fun c9 => ?_) (fun c9 => ?_)
          · have hw := (if_pos c9).symm.trans hw
            refine lv_iload_n hx hb dJ6_numberOfTrailingZeros_0f7a4_74 rfl (lv_at hl 1 rfl) ?_
            refine lv_iload_n hx hb dJ6_numberOfTrailingZeros_0f7a4_75 rfl (lv_at hl 0 rfl) ?_
            refine lv_iconst (v := 1) hx hb dJ6_numberOfTrailingZeros_0f7a4_76 (by decide) ?_
            refine lv_iushr (v := (((((x0 ^^^ (-1)) &&& (x0 - 1)).toUInt32 >>> ((8 : Int32).toUInt32 &&& Int32.toUInt32 31)).toInt32.toUInt32 >>> ((4 : Int32).toUInt32 &&& Int32.toUInt32 31)).toInt32.toUInt32 >>> ((1 : Int32).toUInt32 &&& Int32.toUInt32 31)).toInt32) hx hb dJ6_numberOfTrailingZeros_0f7a4_77 rfl ?_
            refine lv_iadd hx hb dJ6_numberOfTrailingZeros_0f7a4_78 ?_
            subst hw
            exact W.iret (v := ((((1 : Int32) + 8) + 4) + (((((x0 ^^^ (-1)) &&& (x0 - 1)).toUInt32 >>> ((8 : Int32).toUInt32 &&& Int32.toUInt32 31)).toInt32.toUInt32 >>> ((4 : Int32).toUInt32 &&& Int32.toUInt32 31)).toInt32.toUInt32 >>> ((1 : Int32).toUInt32 &&& Int32.toUInt32 31)).toInt32)) hx hb hr (fun t ht _ => ⟨rfl, ht⟩) (fun _ h => by cases h) dJ6_numberOfTrailingZeros_0f7a4_79
          · have hw := (if_neg c9).symm.trans hw
            refine lv_iinc (v := ((((1 : Int32) + 8) + 4) + 2)) (lv' := [(1, .int ((((1 : Int32) + 8) + 4) + 2)), (0, .int ((((x0 ^^^ (-1)) &&& (x0 - 1)).toUInt32 >>> ((8 : Int32).toUInt32 &&& Int32.toUInt32 31)).toInt32.toUInt32 >>> ((4 : Int32).toUInt32 &&& Int32.toUInt32 31)).toInt32)]) hx hb dJ6_numberOfTrailingZeros_0f7a4_67 hl (k := 1) rfl rfl (by decide) rfl (fun ls hl => ?_)
            refine lv_iload_n hx hb dJ6_numberOfTrailingZeros_0f7a4_70 rfl (lv_at hl 1 rfl) ?_
            refine lv_iconst (v := 2) hx hb dJ6_numberOfTrailingZeros_0f7a4_71 (by decide) ?_
            refine lv_iushr (v := (((((x0 ^^^ (-1)) &&& (x0 - 1)).toUInt32 >>> ((8 : Int32).toUInt32 &&& Int32.toUInt32 31)).toInt32.toUInt32 >>> ((4 : Int32).toUInt32 &&& Int32.toUInt32 31)).toInt32.toUInt32 >>> ((2 : Int32).toUInt32 &&& Int32.toUInt32 31)).toInt32) hx hb dJ6_numberOfTrailingZeros_0f7a4_72 rfl ?_
            refine lv_istore_n (lv' := [(0, .int (((((x0 ^^^ (-1)) &&& (x0 - 1)).toUInt32 >>> ((8 : Int32).toUInt32 &&& Int32.toUInt32 31)).toInt32.toUInt32 >>> ((4 : Int32).toUInt32 &&& Int32.toUInt32 31)).toInt32.toUInt32 >>> ((2 : Int32).toUInt32 &&& Int32.toUInt32 31)).toInt32), (1, .int ((((1 : Int32) + 8) + 4) + 2))]) hx hb dJ6_numberOfTrailingZeros_0f7a4_73 rfl hl (by decide) rfl (fun ls hl => ?_)
            refine lv_iload_n hx hb dJ6_numberOfTrailingZeros_0f7a4_74 rfl (lv_at hl 1 rfl) ?_
            refine lv_iload_n hx hb dJ6_numberOfTrailingZeros_0f7a4_75 rfl (lv_at hl 0 rfl) ?_
            refine lv_iconst (v := 1) hx hb dJ6_numberOfTrailingZeros_0f7a4_76 (by decide) ?_
            refine lv_iushr (v := ((((((x0 ^^^ (-1)) &&& (x0 - 1)).toUInt32 >>> ((8 : Int32).toUInt32 &&& Int32.toUInt32 31)).toInt32.toUInt32 >>> ((4 : Int32).toUInt32 &&& Int32.toUInt32 31)).toInt32.toUInt32 >>> ((2 : Int32).toUInt32 &&& Int32.toUInt32 31)).toInt32.toUInt32 >>> ((1 : Int32).toUInt32 &&& Int32.toUInt32 31)).toInt32) hx hb dJ6_numberOfTrailingZeros_0f7a4_77 rfl ?_
            refine lv_iadd hx hb dJ6_numberOfTrailingZeros_0f7a4_78 ?_
            subst hw
            exact W.iret (v := (((((1 : Int32) + 8) + 4) + 2) + ((((((x0 ^^^ (-1)) &&& (x0 - 1)).toUInt32 >>> ((8 : Int32).toUInt32 &&& Int32.toUInt32 31)).toInt32.toUInt32 >>> ((4 : Int32).toUInt32 &&& Int32.toUInt32 31)).toInt32.toUInt32 >>> ((2 : Int32).toUInt32 &&& Int32.toUInt32 31)).toInt32.toUInt32 >>> ((1 : Int32).toUInt32 &&& Int32.toUInt32 31)).toInt32)) hx hb hr (fun t ht _ => ⟨rfl, ht⟩) (fun _ h => by cases h) dJ6_numberOfTrailingZeros_0f7a4_79
    · have hw := (if_neg c2).symm.trans hw
      refine lv_iinc (v := ((1 : Int32) + 16)) (lv' := [(1, .int ((1 : Int32) + 16)), (0, .int ((x0 ^^^ (-1)) &&& (x0 - 1)))]) hx hb dJ6_numberOfTrailingZeros_0f7a4_26 hl (k := 0) rfl rfl (by decide) rfl (fun ls hl => ?_)
      refine lv_iload_n hx hb dJ6_numberOfTrailingZeros_0f7a4_29 rfl (lv_at hl 1 rfl) ?_
      refine lv_bipush (v := 16) hx hb dJ6_numberOfTrailingZeros_0f7a4_30 (by decide) ?_
      refine lv_iushr (v := (((x0 ^^^ (-1)) &&& (x0 - 1)).toUInt32 >>> ((16 : Int32).toUInt32 &&& Int32.toUInt32 31)).toInt32) hx hb dJ6_numberOfTrailingZeros_0f7a4_32 rfl ?_
      refine lv_istore_n (lv' := [(0, .int (((x0 ^^^ (-1)) &&& (x0 - 1)).toUInt32 >>> ((16 : Int32).toUInt32 &&& Int32.toUInt32 31)).toInt32), (1, .int ((1 : Int32) + 16))]) hx hb dJ6_numberOfTrailingZeros_0f7a4_33 rfl hl (by decide) rfl (fun ls hl => ?_)
      refine lv_iload_n hx hb dJ6_numberOfTrailingZeros_0f7a4_34 rfl (lv_at hl 0 rfl) ?_
      refine lv_sipush (v := 256) hx hb dJ6_numberOfTrailingZeros_0f7a4_35 (by decide) ?_
      refine lv_icmp_le (tgt := 49) hx hb dJ6_numberOfTrailingZeros_0f7a4_38 (by decide) (fun c10 => ?_) (fun c10 => ?_)
      · have hw := (if_pos c10).symm.trans hw
        refine lv_iload_n hx hb dJ6_numberOfTrailingZeros_0f7a4_49 rfl (lv_at hl 0 rfl) ?_
        refine lv_bipush (v := 16) hx hb dJ6_numberOfTrailingZeros_0f7a4_50 (by decide) ?_
        refine lv_icmp_le (tgt := 62) hx hb dJ6_numberOfTrailingZeros_0f7a4_52 (by decide) (fun c11 => ?_) (fun c11 => ?_)
        · have hw := (if_pos c11).symm.trans hw
          refine lv_iload_n hx hb dJ6_numberOfTrailingZeros_0f7a4_62 rfl (lv_at hl 0 rfl) ?_
          refine lv_iconst (v := 4) hx hb dJ6_numberOfTrailingZeros_0f7a4_63 (by decide) ?_
          refine lv_icmp_le (tgt := 74) hx hb dJ6_numberOfTrailingZeros_0f7a4_64 (by decide) (fun c12 => ?_) (fun c12 => ?_)
          · have hw := (if_pos c12).symm.trans hw
            refine lv_iload_n hx hb dJ6_numberOfTrailingZeros_0f7a4_74 rfl (lv_at hl 1 rfl) ?_
            refine lv_iload_n hx hb dJ6_numberOfTrailingZeros_0f7a4_75 rfl (lv_at hl 0 rfl) ?_
            refine lv_iconst (v := 1) hx hb dJ6_numberOfTrailingZeros_0f7a4_76 (by decide) ?_
            refine lv_iushr (v := ((((x0 ^^^ (-1)) &&& (x0 - 1)).toUInt32 >>> ((16 : Int32).toUInt32 &&& Int32.toUInt32 31)).toInt32.toUInt32 >>> ((1 : Int32).toUInt32 &&& Int32.toUInt32 31)).toInt32) hx hb dJ6_numberOfTrailingZeros_0f7a4_77 rfl ?_
            refine lv_iadd hx hb dJ6_numberOfTrailingZeros_0f7a4_78 ?_
            subst hw
            exact W.iret (v := (((1 : Int32) + 16) + ((((x0 ^^^ (-1)) &&& (x0 - 1)).toUInt32 >>> ((16 : Int32).toUInt32 &&& Int32.toUInt32 31)).toInt32.toUInt32 >>> ((1 : Int32).toUInt32 &&& Int32.toUInt32 31)).toInt32)) hx hb hr (fun t ht _ => ⟨rfl, ht⟩) (fun _ h => by cases h) dJ6_numberOfTrailingZeros_0f7a4_79
          · have hw := (if_neg c12).symm.trans hw
            refine lv_iinc (v := (((1 : Int32) + 16) + 2)) (lv' := [(1, .int (((1 : Int32) + 16) + 2)), (0, .int (((x0 ^^^ (-1)) &&& (x0 - 1)).toUInt32 >>> ((16 : Int32).toUInt32 &&& Int32.toUInt32 31)).toInt32)]) hx hb dJ6_numberOfTrailingZeros_0f7a4_67 hl (k := 1) rfl rfl (by decide) rfl (fun ls hl => ?_)
            refine lv_iload_n hx hb dJ6_numberOfTrailingZeros_0f7a4_70 rfl (lv_at hl 1 rfl) ?_
            refine lv_iconst (v := 2) hx hb dJ6_numberOfTrailingZeros_0f7a4_71 (by decide) ?_
            refine lv_iushr (v := ((((x0 ^^^ (-1)) &&& (x0 - 1)).toUInt32 >>> ((16 : Int32).toUInt32 &&& Int32.toUInt32 31)).toInt32.toUInt32 >>> ((2 : Int32).toUInt32 &&& Int32.toUInt32 31)).toInt32) hx hb dJ6_numberOfTrailingZeros_0f7a4_72 rfl ?_
            refine lv_istore_n (lv' := [(0, .int ((((x0 ^^^ (-1)) &&& (x0 - 1)).toUInt32 >>> ((16 : Int32).toUInt32 &&& Int32.toUInt32 31)).toInt32.toUInt32 >>> ((2 : Int32).toUInt32 &&& Int32.toUInt32 31)).toInt32), (1, .int (((1 : Int32) + 16) + 2))]) hx hb dJ6_numberOfTrailingZeros_0f7a4_73 rfl hl (by decide) rfl (fun ls hl => ?_)
            refine lv_iload_n hx hb dJ6_numberOfTrailingZeros_0f7a4_74 rfl (lv_at hl 1 rfl) ?_
            refine lv_iload_n hx hb dJ6_numberOfTrailingZeros_0f7a4_75 rfl (lv_at hl 0 rfl) ?_
            refine lv_iconst (v := 1) hx hb dJ6_numberOfTrailingZeros_0f7a4_76 (by decide) ?_
            refine lv_iushr (v := (((((x0 ^^^ (-1)) &&& (x0 - 1)).toUInt32 >>> ((16 : Int32).toUInt32 &&& Int32.toUInt32 31)).toInt32.toUInt32 >>> ((2 : Int32).toUInt32 &&& Int32.toUInt32 31)).toInt32.toUInt32 >>> ((1 : Int32).toUInt32 &&& Int32.toUInt32 31)).toInt32) hx hb dJ6_numberOfTrailingZeros_0f7a4_77 rfl ?_
            refine lv_iadd hx hb dJ6_numberOfTrailingZeros_0f7a4_78 ?_
            subst hw
            exact W.iret (v := ((((1 : Int32) + 16) + 2) + (((((x0 ^^^ (-1)) &&& (x0 - 1)).toUInt32 >>> ((16 : Int32).toUInt32 &&& Int32.toUInt32 31)).toInt32.toUInt32 >>> ((2 : Int32).toUInt32 &&& Int32.toUInt32 31)).toInt32.toUInt32 >>> ((1 : Int32).toUInt32 &&& Int32.toUInt32 31)).toInt32)) hx hb hr (fun t ht _ => ⟨rfl, ht⟩) (fun _ h => by cases h) dJ6_numberOfTrailingZeros_0f7a4_79
        · have hw := (if_neg c11).symm.trans hw
          refine lv_iinc (v := (((1 : Int32) + 16) + 4)) (lv' := [(1, .int (((1 : Int32) + 16) + 4)), (0, .int (((x0 ^^^ (-1)) &&& (x0 - 1)).toUInt32 >>> ((16 : Int32).toUInt32 &&& Int32.toUInt32 31)).toInt32)]) hx hb dJ6_numberOfTrailingZeros_0f7a4_55 hl (k := 1) rfl rfl (by decide) rfl (fun ls hl => ?_)
          refine lv_iload_n hx hb dJ6_numberOfTrailingZeros_0f7a4_58 rfl (lv_at hl 1 rfl) ?_
          refine lv_iconst (v := 4) hx hb dJ6_numberOfTrailingZeros_0f7a4_59 (by decide) ?_
          refine lv_iushr (v := ((((x0 ^^^ (-1)) &&& (x0 - 1)).toUInt32 >>> ((16 : Int32).toUInt32 &&& Int32.toUInt32 31)).toInt32.toUInt32 >>> ((4 : Int32).toUInt32 &&& Int32.toUInt32 31)).toInt32) hx hb dJ6_numberOfTrailingZeros_0f7a4_60 rfl ?_
          refine lv_istore_n (lv' := [(0, .int ((((x0 ^^^ (-1)) &&& (x0 - 1)).toUInt32 >>> ((16 : Int32).toUInt32 &&& Int32.toUInt32 31)).toInt32.toUInt32 >>> ((4 : Int32).toUInt32 &&& Int32.toUInt32 31)).toInt32), (1, .int (((1 : Int32) + 16) + 4))]) hx hb dJ6_numberOfTrailingZeros_0f7a4_61 rfl hl (by decide) rfl (fun ls hl => ?_)
          refine lv_iload_n hx hb dJ6_numberOfTrailingZeros_0f7a4_62 rfl (lv_at hl 0 rfl) ?_
          refine lv_iconst (v := 4) hx hb dJ6_numberOfTrailingZeros_0f7a4_63 (by decide) ?_
          refine lv_icmp_le (tgt := 74) hx hb dJ6_numberOfTrailingZeros_0f7a4_64 (by decide) (fun c13 => ?_) (fun c13 => ?_)
          · have hw := (if_pos c13).symm.trans hw
            refine lv_iload_n hx hb dJ6_numberOfTrailingZeros_0f7a4_74 rfl (lv_at hl 1 rfl) ?_
            refine lv_iload_n hx hb dJ6_numberOfTrailingZeros_0f7a4_75 rfl (lv_at hl 0 rfl) ?_
            refine lv_iconst (v := 1) hx hb dJ6_numberOfTrailingZeros_0f7a4_76 (by decide) ?_
            refine lv_iushr (v := (((((x0 ^^^ (-1)) &&& (x0 - 1)).toUInt32 >>> ((16 : Int32).toUInt32 &&& Int32.toUInt32 31)).toInt32.toUInt32 >>> ((4 : Int32).toUInt32 &&& Int32.toUInt32 31)).toInt32.toUInt32 >>> ((1 : Int32).toUInt32 &&& Int32.toUInt32 31)).toInt32) hx hb dJ6_numberOfTrailingZeros_0f7a4_77 rfl ?_
            refine lv_iadd hx hb dJ6_numberOfTrailingZeros_0f7a4_78 ?_
            subst hw
            exact W.iret (v := ((((1 : Int32) + 16) + 4) + (((((x0 ^^^ (-1)) &&& (x0 - 1)).toUInt32 >>> ((16 : Int32).toUInt32 &&& Int32.toUInt32 31)).toInt32.toUInt32 >>> ((4 : Int32).toUInt32 &&& Int32.toUInt32 31)).toInt32.toUInt32 >>> ((1 : Int32).toUInt32 &&& Int32.toUInt32 31)).toInt32)) hx hb hr (fun t ht _ => ⟨rfl, ht⟩) (fun _ h => by cases h) dJ6_numberOfTrailingZeros_0f7a4_79
          · have hw := (if_neg c13).symm.trans hw
            refine lv_iinc (v := ((((1 : Int32) + 16) + 4) + 2)) (lv' := [(1, .int ((((1 : Int32) + 16) + 4) + 2)), (0, .int ((((x0 ^^^ (-1)) &&& (x0 - 1)).toUInt32 >>> ((16 : Int32).toUInt32 &&& Int32.toUInt32 31)).toInt32.toUInt32 >>> ((4 : Int32).toUInt32 &&& Int32.toUInt32 31)).toInt32)]) hx hb dJ6_numberOfTrailingZeros_0f7a4_67 hl (k := 1) rfl rfl (by decide) rfl (fun ls hl => ?_)
            refine lv_iload_n hx hb dJ6_numberOfTrailingZeros_0f7a4_70 rfl (lv_at hl 1 rfl) ?_
            refine lv_iconst (v := 2) hx hb dJ6_numberOfTrailingZeros_0f7a4_71 (by decide) ?_
            refine lv_iushr (v := (((((x0 ^^^ (-1)) &&& (x0 - 1)).toUInt32 >>> ((16 : Int32).toUInt32 &&& Int32.toUInt32 31)).toInt32.toUInt32 >>> ((4 : Int32).toUInt32 &&& Int32.toUInt32 31)).toInt32.toUInt32 >>> ((2 : Int32).toUInt32 &&& Int32.toUInt32 31)).toInt32) hx hb dJ6_numberOfTrailingZeros_0f7a4_72 rfl ?_
            refine lv_istore_n (lv' := [(0, .int (((((x0 ^^^ (-1)) &&& (x0 - 1)).toUInt32 >>> ((16 : Int32).toUInt32 &&& Int32.toUInt32 31)).toInt32.toUInt32 >>> ((4 : Int32).toUInt32 &&& Int32.toUInt32 31)).toInt32.toUInt32 >>> ((2 : Int32).toUInt32 &&& Int32.toUInt32 31)).toInt32), (1, .int ((((1 : Int32) + 16) + 4) + 2))]) hx hb dJ6_numberOfTrailingZeros_0f7a4_73 rfl hl (by decide) rfl (fun ls hl => ?_)
            refine lv_iload_n hx hb dJ6_numberOfTrailingZeros_0f7a4_74 rfl (lv_at hl 1 rfl) ?_
            refine lv_iload_n hx hb dJ6_numberOfTrailingZeros_0f7a4_75 rfl (lv_at hl 0 rfl) ?_
            refine lv_iconst (v := 1) hx hb dJ6_numberOfTrailingZeros_0f7a4_76 (by decide) ?_
            refine lv_iushr (v := ((((((x0 ^^^ (-1)) &&& (x0 - 1)).toUInt32 >>> ((16 : Int32).toUInt32 &&& Int32.toUInt32 31)).toInt32.toUInt32 >>> ((4 : Int32).toUInt32 &&& Int32.toUInt32 31)).toInt32.toUInt32 >>> ((2 : Int32).toUInt32 &&& Int32.toUInt32 31)).toInt32.toUInt32 >>> ((1 : Int32).toUInt32 &&& Int32.toUInt32 31)).toInt32) hx hb dJ6_numberOfTrailingZeros_0f7a4_77 rfl ?_
            refine lv_iadd hx hb dJ6_numberOfTrailingZeros_0f7a4_78 ?_
            subst hw
            exact W.iret (v := (((((1 : Int32) + 16) + 4) + 2) + ((((((x0 ^^^ (-1)) &&& (x0 - 1)).toUInt32 >>> ((16 : Int32).toUInt32 &&& Int32.toUInt32 31)).toInt32.toUInt32 >>> ((4 : Int32).toUInt32 &&& Int32.toUInt32 31)).toInt32.toUInt32 >>> ((2 : Int32).toUInt32 &&& Int32.toUInt32 31)).toInt32.toUInt32 >>> ((1 : Int32).toUInt32 &&& Int32.toUInt32 31)).toInt32)) hx hb hr (fun t ht _ => ⟨rfl, ht⟩) (fun _ h => by cases h) dJ6_numberOfTrailingZeros_0f7a4_79
      · have hw := (if_neg c10).symm.trans hw
        refine lv_iinc (v := (((1 : Int32) + 16) + 8)) (lv' := [(1, .int (((1 : Int32) + 16) + 8)), (0, .int (((x0 ^^^ (-1)) &&& (x0 - 1)).toUInt32 >>> ((16 : Int32).toUInt32 &&& Int32.toUInt32 31)).toInt32)]) hx hb dJ6_numberOfTrailingZeros_0f7a4_41 hl (k := 1) rfl rfl (by decide) rfl (fun ls hl => ?_)
        refine lv_iload_n hx hb dJ6_numberOfTrailingZeros_0f7a4_44 rfl (lv_at hl 1 rfl) ?_
        refine lv_bipush (v := 8) hx hb dJ6_numberOfTrailingZeros_0f7a4_45 (by decide) ?_
        refine lv_iushr (v := ((((x0 ^^^ (-1)) &&& (x0 - 1)).toUInt32 >>> ((16 : Int32).toUInt32 &&& Int32.toUInt32 31)).toInt32.toUInt32 >>> ((8 : Int32).toUInt32 &&& Int32.toUInt32 31)).toInt32) hx hb dJ6_numberOfTrailingZeros_0f7a4_47 rfl ?_
        refine lv_istore_n (lv' := [(0, .int ((((x0 ^^^ (-1)) &&& (x0 - 1)).toUInt32 >>> ((16 : Int32).toUInt32 &&& Int32.toUInt32 31)).toInt32.toUInt32 >>> ((8 : Int32).toUInt32 &&& Int32.toUInt32 31)).toInt32), (1, .int (((1 : Int32) + 16) + 8))]) hx hb dJ6_numberOfTrailingZeros_0f7a4_48 rfl hl (by decide) rfl (fun ls hl => ?_)
        refine lv_iload_n hx hb dJ6_numberOfTrailingZeros_0f7a4_49 rfl (lv_at hl 0 rfl) ?_
        refine lv_bipush (v := 16) hx hb dJ6_numberOfTrailingZeros_0f7a4_50 (by decide) ?_
        refine lv_icmp_le (tgt := 62) hx hb dJ6_numberOfTrailingZeros_0f7a4_52 (by decide) (fun c14 => ?_) (fun c14 => ?_)
        · have hw := (if_pos c14).symm.trans hw
          refine lv_iload_n hx hb dJ6_numberOfTrailingZeros_0f7a4_62 rfl (lv_at hl 0 rfl) ?_
          refine lv_iconst (v := 4) hx hb dJ6_numberOfTrailingZeros_0f7a4_63 (by decide) ?_
          refine lv_icmp_le (tgt := 74) hx hb dJ6_numberOfTrailingZeros_0f7a4_64 (by decide) (fun c15 => ?_) (fun c15 => ?_)
          · have hw := (if_pos c15).symm.trans hw
            refine lv_iload_n hx hb dJ6_numberOfTrailingZeros_0f7a4_74 rfl (lv_at hl 1 rfl) ?_
            refine lv_iload_n hx hb dJ6_numberOfTrailingZeros_0f7a4_75 rfl (lv_at hl 0 rfl) ?_
            refine lv_iconst (v := 1) hx hb dJ6_numberOfTrailingZeros_0f7a4_76 (by decide) ?_
            refine lv_iushr (v := (((((x0 ^^^ (-1)) &&& (x0 - 1)).toUInt32 >>> ((16 : Int32).toUInt32 &&& Int32.toUInt32 31)).toInt32.toUInt32 >>> ((8 : Int32).toUInt32 &&& Int32.toUInt32 31)).toInt32.toUInt32 >>> ((1 : Int32).toUInt32 &&& Int32.toUInt32 31)).toInt32) hx hb dJ6_numberOfTrailingZeros_0f7a4_77 rfl ?_
            refine lv_iadd hx hb dJ6_numberOfTrailingZeros_0f7a4_78 ?_
            subst hw
            exact W.iret (v := ((((1 : Int32) + 16) + 8) + (((((x0 ^^^ (-1)) &&& (x0 - 1)).toUInt32 >>> ((16 : Int32).toUInt32 &&& Int32.toUInt32 31)).toInt32.toUInt32 >>> ((8 : Int32).toUInt32 &&& Int32.toUInt32 31)).toInt32.toUInt32 >>> ((1 : Int32).toUInt32 &&& Int32.toUInt32 31)).toInt32)) hx hb hr (fun t ht _ => ⟨rfl, ht⟩) (fun _ h => by cases h) dJ6_numberOfTrailingZeros_0f7a4_79
          · have hw := (if_neg c15).symm.trans hw
            refine lv_iinc (v := ((((1 : Int32) + 16) + 8) + 2)) (lv' := [(1, .int ((((1 : Int32) + 16) + 8) + 2)), (0, .int ((((x0 ^^^ (-1)) &&& (x0 - 1)).toUInt32 >>> ((16 : Int32).toUInt32 &&& Int32.toUInt32 31)).toInt32.toUInt32 >>> ((8 : Int32).toUInt32 &&& Int32.toUInt32 31)).toInt32)]) hx hb dJ6_numberOfTrailingZeros_0f7a4_67 hl (k := 1) rfl rfl (by decide) rfl (fun ls hl => ?_)
            refine lv_iload_n hx hb dJ6_numberOfTrailingZeros_0f7a4_70 rfl (lv_at hl 1 rfl) ?_
            refine lv_iconst (v := 2) hx hb dJ6_numberOfTrailingZeros_0f7a4_71 (by decide) ?_
            refine lv_iushr (v := (((((x0 ^^^ (-1)) &&& (x0 - 1)).toUInt32 >>> ((16 : Int32).toUInt32 &&& Int32.toUInt32 31)).toInt32.toUInt32 >>> ((8 : Int32).toUInt32 &&& Int32.toUInt32 31)).toInt32.toUInt32 >>> ((2 : Int32).toUInt32 &&& Int32.toUInt32 31)).toInt32) hx hb dJ6_numberOfTrailingZeros_0f7a4_72 rfl ?_
            refine lv_istore_n (lv' := [(0, .int (((((x0 ^^^ (-1)) &&& (x0 - 1)).toUInt32 >>> ((16 : Int32).toUInt32 &&& Int32.toUInt32 31)).toInt32.toUInt32 >>> ((8 : Int32).toUInt32 &&& Int32.toUInt32 31)).toInt32.toUInt32 >>> ((2 : Int32).toUInt32 &&& Int32.toUInt32 31)).toInt32), (1, .int ((((1 : Int32) + 16) + 8) + 2))]) hx hb dJ6_numberOfTrailingZeros_0f7a4_73 rfl hl (by decide) rfl (fun ls hl => ?_)
            refine lv_iload_n hx hb dJ6_numberOfTrailingZeros_0f7a4_74 rfl (lv_at hl 1 rfl) ?_
            refine lv_iload_n hx hb dJ6_numberOfTrailingZeros_0f7a4_75 rfl (lv_at hl 0 rfl) ?_
            refine lv_iconst (v := 1) hx hb dJ6_numberOfTrailingZeros_0f7a4_76 (by decide) ?_
            refine lv_iushr (v := ((((((x0 ^^^ (-1)) &&& (x0 - 1)).toUInt32 >>> ((16 : Int32).toUInt32 &&& Int32.toUInt32 31)).toInt32.toUInt32 >>> ((8 : Int32).toUInt32 &&& Int32.toUInt32 31)).toInt32.toUInt32 >>> ((2 : Int32).toUInt32 &&& Int32.toUInt32 31)).toInt32.toUInt32 >>> ((1 : Int32).toUInt32 &&& Int32.toUInt32 31)).toInt32) hx hb dJ6_numberOfTrailingZeros_0f7a4_77 rfl ?_
            refine lv_iadd hx hb dJ6_numberOfTrailingZeros_0f7a4_78 ?_
            subst hw
            exact W.iret (v := (((((1 : Int32) + 16) + 8) + 2) + ((((((x0 ^^^ (-1)) &&& (x0 - 1)).toUInt32 >>> ((16 : Int32).toUInt32 &&& Int32.toUInt32 31)).toInt32.toUInt32 >>> ((8 : Int32).toUInt32 &&& Int32.toUInt32 31)).toInt32.toUInt32 >>> ((2 : Int32).toUInt32 &&& Int32.toUInt32 31)).toInt32.toUInt32 >>> ((1 : Int32).toUInt32 &&& Int32.toUInt32 31)).toInt32)) hx hb hr (fun t ht _ => ⟨rfl, ht⟩) (fun _ h => by cases h) dJ6_numberOfTrailingZeros_0f7a4_79
        · have hw := (if_neg c14).symm.trans hw
          refine lv_iinc (v := ((((1 : Int32) + 16) + 8) + 4)) (lv' := [(1, .int ((((1 : Int32) + 16) + 8) + 4)), (0, .int ((((x0 ^^^ (-1)) &&& (x0 - 1)).toUInt32 >>> ((16 : Int32).toUInt32 &&& Int32.toUInt32 31)).toInt32.toUInt32 >>> ((8 : Int32).toUInt32 &&& Int32.toUInt32 31)).toInt32)]) hx hb dJ6_numberOfTrailingZeros_0f7a4_55 hl (k := 1) rfl rfl (by decide) rfl (fun ls hl => ?_)
          refine lv_iload_n hx hb dJ6_numberOfTrailingZeros_0f7a4_58 rfl (lv_at hl 1 rfl) ?_
          refine lv_iconst (v := 4) hx hb dJ6_numberOfTrailingZeros_0f7a4_59 (by decide) ?_
          refine lv_iushr (v := (((((x0 ^^^ (-1)) &&& (x0 - 1)).toUInt32 >>> ((16 : Int32).toUInt32 &&& Int32.toUInt32 31)).toInt32.toUInt32 >>> ((8 : Int32).toUInt32 &&& Int32.toUInt32 31)).toInt32.toUInt32 >>> ((4 : Int32).toUInt32 &&& Int32.toUInt32 31)).toInt32) hx hb dJ6_numberOfTrailingZeros_0f7a4_60 rfl ?_
          refine lv_istore_n (lv' := [(0, .int (((((x0 ^^^ (-1)) &&& (x0 - 1)).toUInt32 >>> ((16 : Int32).toUInt32 &&& Int32.toUInt32 31)).toInt32.toUInt32 >>> ((8 : Int32).toUInt32 &&& Int32.toUInt32 31)).toInt32.toUInt32 >>> ((4 : Int32).toUInt32 &&& Int32.toUInt32 31)).toInt32), (1, .int ((((1 : Int32) + 16) + 8) + 4))]) hx hb dJ6_numberOfTrailingZeros_0f7a4_61 rfl hl (by decide) rfl (fun ls hl => ?_)
          refine lv_iload_n hx hb dJ6_numberOfTrailingZeros_0f7a4_62 rfl (lv_at hl 0 rfl) ?_
          refine lv_iconst (v := 4) hx hb dJ6_numberOfTrailingZeros_0f7a4_63 (by decide) ?_
          refine lv_icmp_le (tgt := 74) hx hb dJ6_numberOfTrailingZeros_0f7a4_64 (by decide) (fun c16 => ?_) (fun c16 => ?_)
          · have hw := (if_pos c16).symm.trans hw
            refine lv_iload_n hx hb dJ6_numberOfTrailingZeros_0f7a4_74 rfl (lv_at hl 1 rfl) ?_
            refine lv_iload_n hx hb dJ6_numberOfTrailingZeros_0f7a4_75 rfl (lv_at hl 0 rfl) ?_
            refine lv_iconst (v := 1) hx hb dJ6_numberOfTrailingZeros_0f7a4_76 (by decide) ?_
            refine lv_iushr (v := ((((((x0 ^^^ (-1)) &&& (x0 - 1)).toUInt32 >>> ((16 : Int32).toUInt32 &&& Int32.toUInt32 31)).toInt32.toUInt32 >>> ((8 : Int32).toUInt32 &&& Int32.toUInt32 31)).toInt32.toUInt32 >>> ((4 : Int32).toUInt32 &&& Int32.toUInt32 31)).toInt32.toUInt32 >>> ((1 : Int32).toUInt32 &&& Int32.toUInt32 31)).toInt32) hx hb dJ6_numberOfTrailingZeros_0f7a4_77 rfl ?_
            refine lv_iadd hx hb dJ6_numberOfTrailingZeros_0f7a4_78 ?_
            subst hw
            exact W.iret (v := (((((1 : Int32) + 16) + 8) + 4) + ((((((x0 ^^^ (-1)) &&& (x0 - 1)).toUInt32 >>> ((16 : Int32).toUInt32 &&& Int32.toUInt32 31)).toInt32.toUInt32 >>> ((8 : Int32).toUInt32 &&& Int32.toUInt32 31)).toInt32.toUInt32 >>> ((4 : Int32).toUInt32 &&& Int32.toUInt32 31)).toInt32.toUInt32 >>> ((1 : Int32).toUInt32 &&& Int32.toUInt32 31)).toInt32)) hx hb hr (fun t ht _ => ⟨rfl, ht⟩) (fun _ h => by cases h) dJ6_numberOfTrailingZeros_0f7a4_79
          · have hw := (if_neg c16).symm.trans hw
            refine lv_iinc (v := (((((1 : Int32) + 16) + 8) + 4) + 2)) (lv' := [(1, .int (((((1 : Int32) + 16) + 8) + 4) + 2)), (0, .int (((((x0 ^^^ (-1)) &&& (x0 - 1)).toUInt32 >>> ((16 : Int32).toUInt32 &&& Int32.toUInt32 31)).toInt32.toUInt32 >>> ((8 : Int32).toUInt32 &&& Int32.toUInt32 31)).toInt32.toUInt32 >>> ((4 : Int32).toUInt32 &&& Int32.toUInt32 31)).toInt32)]) hx hb dJ6_numberOfTrailingZeros_0f7a4_67 hl (k := 1) rfl rfl (by decide) rfl (fun ls hl => ?_)
            refine lv_iload_n hx hb dJ6_numberOfTrailingZeros_0f7a4_70 rfl (lv_at hl 1 rfl) ?_
            refine lv_iconst (v := 2) hx hb dJ6_numberOfTrailingZeros_0f7a4_71 (by decide) ?_
            refine lv_iushr (v := ((((((x0 ^^^ (-1)) &&& (x0 - 1)).toUInt32 >>> ((16 : Int32).toUInt32 &&& Int32.toUInt32 31)).toInt32.toUInt32 >>> ((8 : Int32).toUInt32 &&& Int32.toUInt32 31)).toInt32.toUInt32 >>> ((4 : Int32).toUInt32 &&& Int32.toUInt32 31)).toInt32.toUInt32 >>> ((2 : Int32).toUInt32 &&& Int32.toUInt32 31)).toInt32) hx hb dJ6_numberOfTrailingZeros_0f7a4_72 rfl ?_
            refine lv_istore_n (lv' := [(0, .int ((((((x0 ^^^ (-1)) &&& (x0 - 1)).toUInt32 >>> ((16 : Int32).toUInt32 &&& Int32.toUInt32 31)).toInt32.toUInt32 >>> ((8 : Int32).toUInt32 &&& Int32.toUInt32 31)).toInt32.toUInt32 >>> ((4 : Int32).toUInt32 &&& Int32.toUInt32 31)).toInt32.toUInt32 >>> ((2 : Int32).toUInt32 &&& Int32.toUInt32 31)).toInt32), (1, .int (((((1 : Int32) + 16) + 8) + 4) + 2))]) hx hb dJ6_numberOfTrailingZeros_0f7a4_73 rfl hl (by decide) rfl (fun ls hl => ?_)
            refine lv_iload_n hx hb dJ6_numberOfTrailingZeros_0f7a4_74 rfl (lv_at hl 1 rfl) ?_
            refine lv_iload_n hx hb dJ6_numberOfTrailingZeros_0f7a4_75 rfl (lv_at hl 0 rfl) ?_
            refine lv_iconst (v := 1) hx hb dJ6_numberOfTrailingZeros_0f7a4_76 (by decide) ?_
            refine lv_iushr (v := (((((((x0 ^^^ (-1)) &&& (x0 - 1)).toUInt32 >>> ((16 : Int32).toUInt32 &&& Int32.toUInt32 31)).toInt32.toUInt32 >>> ((8 : Int32).toUInt32 &&& Int32.toUInt32 31)).toInt32.toUInt32 >>> ((4 : Int32).toUInt32 &&& Int32.toUInt32 31)).toInt32.toUInt32 >>> ((2 : Int32).toUInt32 &&& Int32.toUInt32 31)).toInt32.toUInt32 >>> ((1 : Int32).toUInt32 &&& Int32.toUInt32 31)).toInt32) hx hb dJ6_numberOfTrailingZeros_0f7a4_77 rfl ?_
            refine lv_iadd hx hb dJ6_numberOfTrailingZeros_0f7a4_78 ?_
            subst hw
            exact W.iret (v := ((((((1 : Int32) + 16) + 8) + 4) + 2) + (((((((x0 ^^^ (-1)) &&& (x0 - 1)).toUInt32 >>> ((16 : Int32).toUInt32 &&& Int32.toUInt32 31)).toInt32.toUInt32 >>> ((8 : Int32).toUInt32 &&& Int32.toUInt32 31)).toInt32.toUInt32 >>> ((4 : Int32).toUInt32 &&& Int32.toUInt32 31)).toInt32.toUInt32 >>> ((2 : Int32).toUInt32 &&& Int32.toUInt32 31)).toInt32.toUInt32 >>> ((1 : Int32).toUInt32 &&& Int32.toUInt32 31)).toInt32)) hx hb hr (fun t ht _ => ⟨rfl, ht⟩) (fun _ h => by cases h) dJ6_numberOfTrailingZeros_0f7a4_79
  · have hw := (if_neg c1).symm.trans hw
    refine lv_iload_n hx hb dJ6_numberOfTrailingZeros_0f7a4_12 rfl (lv_at hl 0 rfl) ?_
    refine lv_bipush (v := 32) hx hb dJ6_numberOfTrailingZeros_0f7a4_13 (by decide) ?_
    refine lv_iand hx hb dJ6_numberOfTrailingZeros_0f7a4_15 ?_
    subst hw
    exact W.iret (v := (((x0 ^^^ (-1)) &&& (x0 - 1)) &&& 32)) hx hb hr (fun t ht _ => ⟨rfl, ht⟩) (fun _ h => by cases h) dJ6_numberOfTrailingZeros_0f7a4_16
set_option maxHeartbeats 4000000 in
set_option maxRecDepth 100000 in
theorem c_X6_within (l : Launch) (D : va_G) (cI cZ : ClassId) (x0 : Int32) (x1 : Int32) (x2 : Int32) (r9 : Int32) (hw : F_X6_within x0 x1 x2 = r9) : KF l yX6_within cX6_within 3 (some .boolean) 0 0 D cI cZ [.int x0, .int x1, .int x2] ([]) (some (.int r9)) := by
  refine Met.ofE (by decide +kernel) (Nat.le_of_ble_eq_true rfl) ?_
  intro p e s m below meth c E ls hl
  obtain ⟨hx, hb, hr, hml, hW, hown, hlocks, hP, hK, hD, hN⟩ := E
  have hl : lv_has ls 3 [(0, .int x0), (1, .int x1), (2, .int x2)] := hl
  have hw : (if x0 < x1 then 0 else (if x2 < x0 then 0 else 1)) = r9 := hw
  refine lv_iload_n hx hb dX6_within_0 rfl (lv_at hl 0 rfl) ?_
  refine lv_iload_n hx hb dX6_within_1 rfl (lv_at hl 1 rfl) ?_
  refine lv_icmp_lt (tgt := 14) hx hb dX6_within_2 (by decide) (fun c1 => ?_) (fun c1 => ?_)
  · have hw := (if_pos c1).symm.trans hw
    refine lv_iconst (v := 0) hx hb dX6_within_14 (by decide) ?_
    subst hw
    exact W.zret (v := 0) hx hb hr rfl (fun t ht _ => ⟨rfl, ht⟩) (fun _ h => by cases h) dX6_within_15
  · have hw := (if_neg c1).symm.trans hw
    refine lv_iload_n hx hb dX6_within_5 rfl (lv_at hl 0 rfl) ?_
    refine lv_iload_n hx hb dX6_within_6 rfl (lv_at hl 2 rfl) ?_
    refine lv_icmp_gt (tgt := 14) hx hb dX6_within_7 (by decide) (fun c2 => ?_) (fun c2 => ?_)
    · have hw := (if_pos c2).symm.trans hw
      refine lv_iconst (v := 0) hx hb dX6_within_14 (by decide) ?_
      subst hw
      exact W.zret (v := 0) hx hb hr rfl (fun t ht _ => ⟨rfl, ht⟩) (fun _ h => by cases h) dX6_within_15
    · have hw := (if_neg c2).symm.trans hw
      refine lv_iconst (v := 1) hx hb dX6_within_10 (by decide) ?_
      refine lv_goto (tgt := 15) hx hb dX6_within_11 (by decide) ?_
      subst hw
      exact W.zret (v := 1) hx hb hr rfl (fun t ht _ => ⟨rfl, ht⟩) (fun _ h => by cases h) dX6_within_15
set_option maxHeartbeats 4000000 in
set_option maxRecDepth 100000 in
theorem c_X6_leftOver (l : Launch) (D : va_G) (cI cZ : ClassId) (x0 : Int32) (x1 : Int32) (r9 : Int32) (hw : F_X6_leftOver x0 x1 = r9) : KF l yX6_leftOver cX6_leftOver 3 (some .int) 0 0 D cI cZ [.int x0, .int x1] ([]) (some (.int r9)) := by
  refine Met.ofE (by decide +kernel) (Nat.le_of_ble_eq_true rfl) ?_
  intro p e s m below meth c E ls hl
  obtain ⟨hx, hb, hr, hml, hW, hown, hlocks, hP, hK, hD, hN⟩ := E
  have hl : lv_has ls 3 [(0, .int x0), (1, .int x1)] := hl
  have hw : (if 0 < x1 then (if 0 ≤ (x0 - x0 / x1 * x1) then (x0 - x0 / x1 * x1) else ((x0 - x0 / x1 * x1) + x1)) else 0) = r9 := hw
  refine lv_iload_n hx hb dX6_leftOver_0 rfl (lv_at hl 1 rfl) ?_
  refine lv_if_gt (tgt := 6) hx hb dX6_leftOver_1 (by decide) (fun c1 => ?_) (fun c1 => ?_)
  · have hw := (if_pos c1).symm.trans hw
    refine lv_iload_n hx hb dX6_leftOver_6 rfl (lv_at hl 0 rfl) ?_
    refine lv_iload_n hx hb dX6_leftOver_7 rfl (lv_at hl 1 rfl) ?_
    refine lv_irem hx hb dX6_leftOver_8 (ne_of_pos c1) ?_
    refine lv_istore_n (lv' := [(2, .int (x0 - x0 / x1 * x1)), (0, .int x0), (1, .int x1)]) hx hb dX6_leftOver_9 rfl hl (by decide) rfl (fun ls hl => ?_)
    refine lv_iload_n hx hb dX6_leftOver_10 rfl (lv_at hl 0 rfl) ?_
    refine lv_if_ge (tgt := 20) hx hb dX6_leftOver_11 (by decide) (fun c2 => ?_) (fun c2 => ?_)
    · have hw := (if_pos c2).symm.trans hw
      refine lv_iload_n hx hb dX6_leftOver_20 rfl (lv_at hl 0 rfl) ?_
      subst hw
      exact W.iret (v := (x0 - x0 / x1 * x1)) hx hb hr (fun t ht _ => ⟨rfl, ht⟩) (fun _ h => by cases h) dX6_leftOver_21
    · have hw := (if_neg c2).symm.trans hw
      refine lv_iload_n hx hb dX6_leftOver_14 rfl (lv_at hl 0 rfl) ?_
      refine lv_iload_n hx hb dX6_leftOver_15 rfl (lv_at hl 2 rfl) ?_
      refine lv_iadd hx hb dX6_leftOver_16 ?_
      refine lv_goto (tgt := 21) hx hb dX6_leftOver_17 (by decide) ?_
      subst hw
      exact W.iret (v := ((x0 - x0 / x1 * x1) + x1)) hx hb hr (fun t ht _ => ⟨rfl, ht⟩) (fun _ h => by cases h) dX6_leftOver_21
  · have hw := (if_neg c1).symm.trans hw
    refine lv_iconst (v := 0) hx hb dX6_leftOver_4 (by decide) ?_
    subst hw
    exact W.iret (v := 0) hx hb hr (fun t ht _ => ⟨rfl, ht⟩) (fun _ h => by cases h) dX6_leftOver_5
set_option maxHeartbeats 4000000 in
set_option maxRecDepth 100000 in
theorem c_X6_cut (l : Launch) (D : va_G) (cI cZ : ClassId) (x0 : Int32) (x1 : Int32) (r9 : Int32) (hw : F_X6_cut x0 x1 = r9) : KF l yX6_cut cX6_cut 2 (some .int) 0 0 D cI cZ [.int x0, .int x1] ([]) (some (.int r9)) := by
  refine Met.ofE (by decide +kernel) (Nat.le_of_ble_eq_true rfl) ?_
  intro p e s m below meth c E ls hl
  obtain ⟨hx, hb, hr, hml, hW, hown, hlocks, hP, hK, hD, hN⟩ := E
  have hl : lv_has ls 2 [(0, .int x0), (1, .int x1)] := hl
  have hw : (if x1 ≤ 0 then 0 else (x0 / x1)) = r9 := hw
  refine lv_iload_n hx hb dX6_cut_0 rfl (lv_at hl 1 rfl) ?_
  refine lv_if_le (tgt := 10) hx hb dX6_cut_1 (by decide) (fun c1 => ?_) (fun c1 => ?_)
  · have hw := (if_pos c1).symm.trans hw
    refine lv_iconst (v := 0) hx hb dX6_cut_10 (by decide) ?_
    subst hw
    exact W.iret (v := 0) hx hb hr (fun t ht _ => ⟨rfl, ht⟩) (fun _ h => by cases h) dX6_cut_11
  · have hw := (if_neg c1).symm.trans hw
    refine lv_iload_n hx hb dX6_cut_4 rfl (lv_at hl 0 rfl) ?_
    refine lv_iload_n hx hb dX6_cut_5 rfl (lv_at hl 1 rfl) ?_
    refine lv_idiv hx hb dX6_cut_6 (ne_of_nle c1) ?_
    refine lv_goto (tgt := 11) hx hb dX6_cut_7 (by decide) ?_
    subst hw
    exact W.iret (v := (x0 / x1)) hx hb hr (fun t ht _ => ⟨rfl, ht⟩) (fun _ h => by cases h) dX6_cut_11
set_option maxHeartbeats 4000000 in
set_option maxRecDepth 100000 in
theorem c_X2_lives (l : Launch) (D : va_G) (cI cZ : ClassId) (ad : Nat → Nat) (o0 : Nat) (S0 : St) (x1 : Int32) (r9 : Int32) (hw : F_X2_lives S0 x1 = r9) : KF l yX2_lives cX2_lives 2 (some .boolean) 0 0 D cI cZ [.ref (ad o0), .int x1] (rcells cI ad o0 S0) (some (.int r9)) := by
  refine Met.ofE (by decide +kernel) (Nat.le_of_ble_eq_true rfl) ?_
  intro p e s m below meth c E ls hl
  obtain ⟨hx, hb, hr, hml, hW, hown, hlocks, hP, hK, hD, hN⟩ := E
  have hl : lv_has ls 2 [(0, .ref (ad o0)), (1, .int x1)] := hl
  have hw : (if x1 < 0 then 0 else (if (S0.1 0) ≤ x1 then 0 else (if (((S0.1 5) >>> (x1 &&& 31)) &&& 1) = 1 then 1 else 0))) = r9 := hw
  refine lv_iload_n hx hb dX2_lives_0 rfl (lv_at hl 1 rfl) ?_
  refine lv_if_lt (tgt := 28) hx hb dX2_lives_1 (by decide) (fun c1 => ?_) (fun c1 => ?_)
  · have hw := (if_pos c1).symm.trans hw
    refine lv_iconst (v := 0) hx hb dX2_lives_28 (by decide) ?_
    subst hw
    exact W.zret (v := 0) hx hb hr rfl (fun t ht _ => ⟨rfl, ht⟩) (fun _ h => by cases h) dX2_lives_29
  · have hw := (if_neg c1).symm.trans hw
    refine lv_iload_n hx hb dX2_lives_4 rfl (lv_at hl 1 rfl) ?_
    refine lv_aload_n hx hb dX2_lives_5 rfl (lv_at hl 0 rfl) ?_
    refine va_get (D := D) (ci := 2) (v := .int (S0.1 0)) (C := RX2) (T := TX2) (N := 15) hx hb hW inW_X2 hown hK hP 0 rfl rfl 0 (by decide) (hW _ fl_X2_41) (fun _ h9 => h9) rfl dX2_lives_6 ?_
    refine lv_icmp_ge (tgt := 28) hx hb dX2_lives_9 (by decide) (fun c2 => ?_) (fun c2 => ?_)
    · have hw := (if_pos c2).symm.trans hw
      refine lv_iconst (v := 0) hx hb dX2_lives_28 (by decide) ?_
      subst hw
      exact W.zret (v := 0) hx hb hr rfl (fun t ht _ => ⟨rfl, ht⟩) (fun _ h => by cases h) dX2_lives_29
    · have hw := (if_neg c2).symm.trans hw
      refine lv_aload_n hx hb dX2_lives_12 rfl (lv_at hl 0 rfl) ?_
      refine va_get (D := D) (ci := 2) (v := .int (S0.1 5)) (C := RX2) (T := TX2) (N := 15) hx hb hW inW_X2 hown hK hP 0 rfl rfl 5 (by decide) (hW _ fl_X2_57) (fun _ h9 => h9) rfl dX2_lives_13 ?_
      refine lv_iload_n hx hb dX2_lives_16 rfl (lv_at hl 1 rfl) ?_
      refine lv_ishr hx hb dX2_lives_17 ?_
      refine lv_iconst (v := 1) hx hb dX2_lives_18 (by decide) ?_
      refine lv_iand hx hb dX2_lives_19 ?_
      refine lv_iconst (v := 1) hx hb dX2_lives_20 (by decide) ?_
      refine lv_icmp_ne (tgt := 28) hx hb dX2_lives_21 (by decide) (fun c3 => ?_) (fun c3 => ?_)
      · have hw := (if_neg c3).symm.trans hw
        refine lv_iconst (v := 0) hx hb dX2_lives_28 (by decide) ?_
        subst hw
        exact W.zret (v := 0) hx hb hr rfl (fun t ht _ => ⟨rfl, ht⟩) (fun _ h => by cases h) dX2_lives_29
      · have hw := (if_pos c3).symm.trans hw
        refine lv_iconst (v := 1) hx hb dX2_lives_24 (by decide) ?_
        refine lv_goto (tgt := 29) hx hb dX2_lives_25 (by decide) ?_
        subst hw
        exact W.zret (v := 1) hx hb hr rfl (fun t ht _ => ⟨rfl, ht⟩) (fun _ h => by cases h) dX2_lives_29
set_option maxHeartbeats 4000000 in
set_option maxRecDepth 100000 in
theorem c_X2_has (l : Launch) (D : va_G) (cI cZ : ClassId) (ad : Nat → Nat) (o0 : Nat) (S0 : St) (x1 : Int32) (r9 : Int32) (hw : F_X2_has S0 x1 = r9) : KF l yX2_has cX2_has 2 (some .boolean) 0 0 D cI cZ [.ref (ad o0), .int x1] (rcells cI ad o0 S0) (some (.int r9)) := by
  refine Met.ofE (by decide +kernel) (Nat.le_of_ble_eq_true rfl) ?_
  intro p e s m below meth c E ls hl
  obtain ⟨hx, hb, hr, hml, hW, hown, hlocks, hP, hK, hD, hN⟩ := E
  have hl : lv_has ls 2 [(0, .ref (ad o0)), (1, .int x1)] := hl
  have hw : (if x1 < 0 then 0 else (if (S0.1 0) ≤ x1 then 0 else 1)) = r9 := hw
  refine lv_iload_n hx hb dX2_has_0 rfl (lv_at hl 1 rfl) ?_
  refine lv_if_lt (tgt := 16) hx hb dX2_has_1 (by decide) (fun c1 => ?_) (fun c1 => ?_)
  · have hw := (if_pos c1).symm.trans hw
    refine lv_iconst (v := 0) hx hb dX2_has_16 (by decide) ?_
    subst hw
    exact W.zret (v := 0) hx hb hr rfl (fun t ht _ => ⟨rfl, ht⟩) (fun _ h => by cases h) dX2_has_17
  · have hw := (if_neg c1).symm.trans hw
    refine lv_iload_n hx hb dX2_has_4 rfl (lv_at hl 1 rfl) ?_
    refine lv_aload_n hx hb dX2_has_5 rfl (lv_at hl 0 rfl) ?_
    refine va_get (D := D) (ci := 2) (v := .int (S0.1 0)) (C := RX2) (T := TX2) (N := 15) hx hb hW inW_X2 hown hK hP 0 rfl rfl 0 (by decide) (hW _ fl_X2_41) (fun _ h9 => h9) rfl dX2_has_6 ?_
    refine lv_icmp_ge (tgt := 16) hx hb dX2_has_9 (by decide) (fun c2 => ?_) (fun c2 => ?_)
    · have hw := (if_pos c2).symm.trans hw
      refine lv_iconst (v := 0) hx hb dX2_has_16 (by decide) ?_
      subst hw
      exact W.zret (v := 0) hx hb hr rfl (fun t ht _ => ⟨rfl, ht⟩) (fun _ h => by cases h) dX2_has_17
    · have hw := (if_neg c2).symm.trans hw
      refine lv_iconst (v := 1) hx hb dX2_has_12 (by decide) ?_
      refine lv_goto (tgt := 17) hx hb dX2_has_13 (by decide) ?_
      subst hw
      exact W.zret (v := 1) hx hb hr rfl (fun t ht _ => ⟨rfl, ht⟩) (fun _ h => by cases h) dX2_has_17
set_option maxHeartbeats 4000000 in
set_option maxRecDepth 100000 in
theorem c_X2_hasBoth (l : Launch) (D : va_G) (cI cZ : ClassId) (ad : Nat → Nat) (o0 : Nat) (S0 : St) (x1 : Int32) (x2 : Int32) (r9 : Int32) (hw : F_X2_hasBoth S0 x1 x2 = r9) : KF l yX2_hasBoth cX2_hasBoth 3 (some .boolean) 1 21 D cI cZ [.ref (ad o0), .int x1, .int x2] (rcells cI ad o0 S0) (some (.int r9)) := by
  refine Met.ofE (by decide +kernel) (Nat.le_of_ble_eq_true rfl) ?_
  intro p e s m below meth c E ls hl
  obtain ⟨hx, hb, hr, hml, hW, hown, hlocks, hP, hK, hD, hN⟩ := E
  have hl : lv_has ls 3 [(0, .ref (ad o0)), (1, .int x1), (2, .int x2)] := hl
  have hw : (if (F_X2_has S0 x1) = 0 then 0 else (if (F_X2_has S0 x2) = 0 then 0 else (if x1 = x2 then 0 else 1))) = r9 := hw
  refine lv_aload_n hx hb dX2_hasBoth_0 rfl (lv_at hl 0 rfl) ?_
  refine lv_iload_n hx hb dX2_hasBoth_1 rfl (lv_at hl 1 rfl) ?_
  refine callF (va_runV (As := [.int x1]) (rest := []) ⟨hx, hb, hml, hown, hW⟩ (c_X2_has l D cI cZ ad o0 S0 x1 _ rfl) (cwV0 hW mV_X2_has ml_X2_74 ⟨Nat.le_of_ble_eq_true rfl, Nat.le_of_ble_eq_true rfl⟩) (preV0 0 rfl rfl hK hN hP hD [0, 1, 2, 3, 4, 5, 6, 7, 8, 9, 10, 11, 12, 13, 14, 15, 16] rfl rfl) rfl rfl hl.1 rfl (lv_room (Nat.le_of_ble_eq_true rfl)) dX2_hasBoth_2 ⟨Nat.le_refl _, Nat.le_refl _⟩) ?_
  refine W.eq (g2 := F0 m 5 ls [.int (F_X2_has S0 x1)]) rfl ?_
  refine lv_if_eq (tgt := 25) hx hb dX2_hasBoth_5 (by decide) (fun c1 => ?_) (fun c1 => ?_)
  · have hw := (if_pos c1).symm.trans hw
    refine lv_iconst (v := 0) hx hb dX2_hasBoth_25 (by decide) ?_
    subst hw
    exact W.zret (v := 0) hx hb hr rfl (fun t ht _ => ⟨rfl, ht⟩) (fun _ h => by cases h) dX2_hasBoth_26
  · have hw := (if_neg c1).symm.trans hw
    refine lv_aload_n hx hb dX2_hasBoth_8 rfl (lv_at hl 0 rfl) ?_
    refine lv_iload_n hx hb dX2_hasBoth_9 rfl (lv_at hl 2 rfl) ?_
    refine callF (va_runV (As := [.int x2]) (rest := []) ⟨hx, hb, hml, hown, hW⟩ (c_X2_has l D cI cZ ad o0 S0 x2 _ rfl) (cwV0 hW mV_X2_has ml_X2_74 ⟨Nat.le_of_ble_eq_true rfl, Nat.le_of_ble_eq_true rfl⟩) (preV0 0 rfl rfl hK hN hP hD [0, 1, 2, 3, 4, 5, 6, 7, 8, 9, 10, 11, 12, 13, 14, 15, 16] rfl rfl) rfl rfl hl.1 rfl (lv_room (Nat.le_of_ble_eq_true rfl)) dX2_hasBoth_10 ⟨Nat.le_refl _, Nat.le_refl _⟩) ?_
    refine W.eq (g2 := F0 m 13 ls [.int (F_X2_has S0 x2)]) rfl ?_
    refine lv_if_eq (tgt := 25) hx hb dX2_hasBoth_13 (by decide) (fun c2 => ?_) (fun c2 => ?_)
    · have hw := (if_pos c2).symm.trans hw
      refine lv_iconst (v := 0) hx hb dX2_hasBoth_25 (by decide) ?_
      subst hw
      exact W.zret (v := 0) hx hb hr rfl (fun t ht _ => ⟨rfl, ht⟩) (fun _ h => by cases h) dX2_hasBoth_26
    · have hw := (if_neg c2).symm.trans hw
      refine lv_iload_n hx hb dX2_hasBoth_16 rfl (lv_at hl 1 rfl) ?_
      refine lv_iload_n hx hb dX2_hasBoth_17 rfl (lv_at hl 2 rfl) ?_
      refine lv_icmp_eq (tgt := 25) hx hb dX2_hasBoth_18 (by decide) (fun c3 => ?_) (fun c3 => ?_)
      · have hw := (if_pos c3).symm.trans hw
        refine lv_iconst (v := 0) hx hb dX2_hasBoth_25 (by decide) ?_
        subst hw
        exact W.zret (v := 0) hx hb hr rfl (fun t ht _ => ⟨rfl, ht⟩) (fun _ h => by cases h) dX2_hasBoth_26
      · have hw := (if_neg c3).symm.trans hw
        refine lv_iconst (v := 1) hx hb dX2_hasBoth_21 (by decide) ?_
        refine lv_goto (tgt := 26) hx hb dX2_hasBoth_22 (by decide) ?_
        subst hw
        exact W.zret (v := 1) hx hb hr rfl (fun t ht _ => ⟨rfl, ht⟩) (fun _ h => by cases h) dX2_hasBoth_26
set_option maxHeartbeats 4000000 in
set_option maxRecDepth 100000 in
theorem c_X2_landAfter (l : Launch) (D : va_G) (cI cZ : ClassId) (ad : Nat → Nat) (o0 : Nat) (S0 : St) (x1 : Int32) (x2 : Int32) (r9 : Int32) (hw : F_X2_landAfter S0 x1 x2 = r9) : KF l yX2_landAfter cX2_landAfter 4 (some .int) 1 22 D cI cZ [.ref (ad o0), .int x1, .int x2] (rcells cI ad o0 S0) (some (.int r9)) := by
  refine Met.ofE (by decide +kernel) (Nat.le_of_ble_eq_true rfl) ?_
  intro p e s m below meth c E ls hl
  obtain ⟨hx, hb, hr, hml, hW, hown, hlocks, hP, hK, hD, hN⟩ := E
  have hl : lv_has ls 4 [(0, .ref (ad o0)), (1, .int x1), (2, .int x2)] := hl
  have hw : (if (F_X2_lives S0 x1) = 0 then (-6) else (if (F_X3_get 6 (S0.2 9) x1) = 1 then (F_X6_leftOver ((x1 + 1) + (F_X6_leftOver ((F_X3_get 6 (S0.2 7) x1) + (jmax 0 (x2 - 1))) ((S0.1 0) - 1))) (S0.1 0)) else (if (F_X3_get 6 (S0.2 9) x1) = 2 then (F_X6_leftOver ((x1 + 1) + (F_X6_leftOver ((F_X3_get 6 (S0.2 7) x1) + 0) ((S0.1 0) - 1))) (S0.1 0)) else (F_X6_leftOver ((x1 + 1) + (F_X6_leftOver ((F_X3_get 6 (S0.2 7) x1) + x2) ((S0.1 0) - 1))) (S0.1 0))))) = r9 := hw
  refine lv_aload_n hx hb dX2_landAfter_0 rfl (lv_at hl 0 rfl) ?_
  refine lv_iload_n hx hb dX2_landAfter_1 rfl (lv_at hl 1 rfl) ?_
  refine callF (va_runV (As := [.int x1]) (rest := []) ⟨hx, hb, hml, hown, hW⟩ (c_X2_lives l D cI cZ ad o0 S0 x1 _ rfl) (cwV0 hW mV_X2_lives ml_X2_82 ⟨Nat.le_of_ble_eq_true rfl, Nat.le_of_ble_eq_true rfl⟩) (preV0 0 rfl rfl hK hN hP hD [0, 1, 2, 3, 4, 5, 6, 7, 8, 9, 10, 11, 12, 13, 14, 15, 16] rfl rfl) rfl rfl hl.1 rfl (lv_room (Nat.le_of_ble_eq_true rfl)) dX2_landAfter_2 ⟨Nat.le_refl _, Nat.le_refl _⟩) ?_
  refine W.eq (g2 := F0 m 5 ls [.int (F_X2_lives S0 x1)]) rfl ?_
  refine lv_if_ne (tgt := 11) hx hb dX2_landAfter_5 (by decide) (fun c1 => ?_) (fun c1 => ?_)
  · have hw := (if_neg c1).symm.trans hw
    refine lv_iload_n hx hb dX2_landAfter_11 rfl (lv_at hl 2 rfl) ?_
    refine lv_istore_n (lv' := [(3, .int x2), (0, .ref (ad o0)), (1, .int x1), (2, .int x2)]) hx hb dX2_landAfter_12 rfl hl (by decide) rfl (fun ls hl => ?_)
    refine lv_aload_n hx hb dX2_landAfter_13 rfl (lv_at hl 1 rfl) ?_
    refine va_get (D := D) (ci := 2) (v := .ref (ad (o0 + 3))) (C := RX2) (T := TX2) (N := 15) hx hb hW inW_X2 hown hK hP 0 rfl rfl 9 (by decide) (hW _ fl_X2_23) (fun _ h9 => h9) rfl dX2_landAfter_14 ?_
    refine lv_iload_n hx hb dX2_landAfter_17 rfl (lv_at hl 2 rfl) ?_
    refine callF (va_runV (As := [.int x1]) (rest := []) ⟨hx, hb, hml, hown, hW⟩ (c_X3_get l D cI cZ (ad (o0 + 3)) (ad (o0 + 11)) 6 (by decide) (S0.2 9) x1 _ rfl) (cwV0 hW mV_X3_get ml_X2_78 ⟨Nat.le_of_ble_eq_true rfl, Nat.le_of_ble_eq_true rfl⟩) (preV0 3 rfl rfl hK hN hP hD [3, 11] rfl rfl) rfl rfl hl.1 rfl (lv_room (Nat.le_of_ble_eq_true rfl)) dX2_landAfter_18 ⟨Nat.le_refl _, Nat.le_refl _⟩) ?_
    refine W.eq (g2 := F0 m 21 ls [.int (F_X3_get 6 (S0.2 9) x1)]) rfl ?_
    refine lv_iconst (v := 1) hx hb dX2_landAfter_21 (by decide) ?_
    refine lv_icmp_ne (tgt := 36) hx hb dX2_landAfter_22 (by decide) (fun c2 => ?_) (fun c2 => ?_)
    · have hw := (if_neg c2).symm.trans hw
      refine lv_aload_n hx hb dX2_landAfter_36 rfl (lv_at hl 1 rfl) ?_
      refine va_get (D := D) (ci := 2) (v := .ref (ad (o0 + 3))) (C := RX2) (T := TX2) (N := 15) hx hb hW inW_X2 hown hK hP 0 rfl rfl 9 (by decide) (hW _ fl_X2_23) (fun _ h9 => h9) rfl dX2_landAfter_37 ?_
      refine lv_iload_n hx hb dX2_landAfter_40 rfl (lv_at hl 2 rfl) ?_
      refine callF (va_runV (As := [.int x1]) (rest := []) ⟨hx, hb, hml, hown, hW⟩ (c_X3_get l D cI cZ (ad (o0 + 3)) (ad (o0 + 11)) 6 (by decide) (S0.2 9) x1 _ rfl) (cwV0 hW mV_X3_get ml_X2_78 ⟨Nat.le_of_ble_eq_true rfl, Nat.le_of_ble_eq_true rfl⟩) (preV0 3 rfl rfl hK hN hP hD [3, 11] rfl rfl) rfl rfl hl.1 rfl (lv_room (Nat.le_of_ble_eq_true rfl)) dX2_landAfter_41 ⟨Nat.le_refl _, Nat.le_refl _⟩) ?_
      refine W.eq (g2 := F0 m 44 ls [.int (F_X3_get 6 (S0.2 9) x1)]) rfl ?_
      refine lv_iconst (v := 2) hx hb dX2_landAfter_44 (by decide) ?_
      refine lv_icmp_ne (tgt := 50) hx hb dX2_landAfter_45 (by decide) (fun c3 => ?_) (fun c3 => ?_)
      · have hw := (if_neg c3).symm.trans hw
        refine lv_iload_n hx hb dX2_landAfter_50 rfl (lv_at hl 2 rfl) ?_
        refine lv_iconst (v := 1) hx hb dX2_landAfter_51 (by decide) ?_
        refine lv_iadd hx hb dX2_landAfter_52 ?_
        refine lv_aload_n hx hb dX2_landAfter_53 rfl (lv_at hl 1 rfl) ?_
        refine va_get (D := D) (ci := 2) (v := .ref (ad (o0 + 1))) (C := RX2) (T := TX2) (N := 15) hx hb hW inW_X2 hown hK hP 0 rfl rfl 7 (by decide) (hW _ fl_X2_14) (fun _ h9 => h9) rfl dX2_landAfter_54 ?_
        refine lv_iload_n hx hb dX2_landAfter_57 rfl (lv_at hl 2 rfl) ?_
        refine callF (va_runV (As := [.int x1]) (rest := [.int (x1 + 1)]) ⟨hx, hb, hml, hown, hW⟩ (c_X3_get l D cI cZ (ad (o0 + 1)) (ad (o0 + 9)) 6 (by decide) (S0.2 7) x1 _ rfl) (cwV0 hW mV_X3_get ml_X2_78 ⟨Nat.le_of_ble_eq_true rfl, Nat.le_of_ble_eq_true rfl⟩) (preV0 1 rfl rfl hK hN hP hD [1, 9] rfl rfl) rfl rfl hl.1 rfl (lv_room (Nat.le_of_ble_eq_true rfl)) dX2_landAfter_58 ⟨Nat.le_refl _, Nat.le_refl _⟩) ?_
        refine W.eq (g2 := F0 m 61 ls [.int (F_X3_get 6 (S0.2 7) x1), .int (x1 + 1)]) rfl ?_
        refine lv_iload_n hx hb dX2_landAfter_61 rfl (lv_at hl 0 rfl) ?_
        refine lv_iadd hx hb dX2_landAfter_62 ?_
        refine lv_aload_n hx hb dX2_landAfter_63 rfl (lv_at hl 1 rfl) ?_
        refine va_get (D := D) (ci := 2) (v := .int (S0.1 0)) (C := RX2) (T := TX2) (N := 15) hx hb hW inW_X2 hown hK hP 0 rfl rfl 0 (by decide) (hW _ fl_X2_41) (fun _ h9 => h9) rfl dX2_landAfter_64 ?_
        refine lv_iconst (v := 1) hx hb dX2_landAfter_67 (by decide) ?_
        refine lv_isub hx hb dX2_landAfter_68 ?_
        refine callF (va_runSN (As := [.int ((F_X3_get 6 (S0.2 7) x1) + x2), .int ((S0.1 0) - 1)]) (rest := [.int (x1 + 1)]) ⟨hx, hb, hml, hown, hW⟩ (c_X6_leftOver l D cI cZ ((F_X3_get 6 (S0.2 7) x1) + x2) ((S0.1 0) - 1) _ rfl) (cwSN0 hW hN mS_X6_leftOver nl_X2_91 ⟨Nat.le_of_ble_eq_true rfl, Nat.le_of_ble_eq_true rfl⟩) (preS0 hK hN hP hD [] rfl rfl) rfl rfl hl.1 rfl (lv_room (Nat.le_of_ble_eq_true rfl)) dX2_landAfter_69 ⟨Nat.le_refl _, Nat.le_refl _⟩) ?_
        refine W.eq (g2 := F0 m 72 ls [.int (F_X6_leftOver ((F_X3_get 6 (S0.2 7) x1) + x2) ((S0.1 0) - 1)), .int (x1 + 1)]) rfl ?_
        refine lv_iadd hx hb dX2_landAfter_72 ?_
        refine lv_aload_n hx hb dX2_landAfter_73 rfl (lv_at hl 1 rfl) ?_
        refine va_get (D := D) (ci := 2) (v := .int (S0.1 0)) (C := RX2) (T := TX2) (N := 15) hx hb hW inW_X2 hown hK hP 0 rfl rfl 0 (by decide) (hW _ fl_X2_41) (fun _ h9 => h9) rfl dX2_landAfter_74 ?_
        refine callF (va_runSN (As := [.int ((x1 + 1) + (F_X6_leftOver ((F_X3_get 6 (S0.2 7) x1) + x2) ((S0.1 0) - 1))), .int (S0.1 0)]) (rest := []) ⟨hx, hb, hml, hown, hW⟩ (c_X6_leftOver l D cI cZ ((x1 + 1) + (F_X6_leftOver ((F_X3_get 6 (S0.2 7) x1) + x2) ((S0.1 0) - 1))) (S0.1 0) _ rfl) (cwSN0 hW hN mS_X6_leftOver nl_X2_91 ⟨Nat.le_of_ble_eq_true rfl, Nat.le_of_ble_eq_true rfl⟩) (preS0 hK hN hP hD [] rfl rfl) rfl rfl hl.1 rfl (lv_room (Nat.le_of_ble_eq_true rfl)) dX2_landAfter_77 ⟨Nat.le_refl _, Nat.le_refl _⟩) ?_
        refine W.eq (g2 := F0 m 80 ls [.int (F_X6_leftOver ((x1 + 1) + (F_X6_leftOver ((F_X3_get 6 (S0.2 7) x1) + x2) ((S0.1 0) - 1))) (S0.1 0))]) rfl ?_
        subst hw
        exact W.iret (v := (F_X6_leftOver ((x1 + 1) + (F_X6_leftOver ((F_X3_get 6 (S0.2 7) x1) + x2) ((S0.1 0) - 1))) (S0.1 0))) hx hb hr (fun t ht _ => ⟨rfl, ht⟩) (fun _ h => by cases h) dX2_landAfter_80
      · have hw := (if_pos c3).symm.trans hw
        refine lv_iconst (v := 0) hx hb dX2_landAfter_48 (by decide) ?_
        refine lv_istore_n (lv' := [(3, .int 0), (0, .ref (ad o0)), (1, .int x1), (2, .int x2)]) hx hb dX2_landAfter_49 rfl hl (by decide) rfl (fun ls hl => ?_)
        refine lv_iload_n hx hb dX2_landAfter_50 rfl (lv_at hl 2 rfl) ?_
        refine lv_iconst (v := 1) hx hb dX2_landAfter_51 (by decide) ?_
        refine lv_iadd hx hb dX2_landAfter_52 ?_
        refine lv_aload_n hx hb dX2_landAfter_53 rfl (lv_at hl 1 rfl) ?_
        refine va_get (D := D) (ci := 2) (v := .ref (ad (o0 + 1))) (C := RX2) (T := TX2) (N := 15) hx hb hW inW_X2 hown hK hP 0 rfl rfl 7 (by decide) (hW _ fl_X2_14) (fun _ h9 => h9) rfl dX2_landAfter_54 ?_
        refine lv_iload_n hx hb dX2_landAfter_57 rfl (lv_at hl 2 rfl) ?_
        refine callF (va_runV (As := [.int x1]) (rest := [.int (x1 + 1)]) ⟨hx, hb, hml, hown, hW⟩ (c_X3_get l D cI cZ (ad (o0 + 1)) (ad (o0 + 9)) 6 (by decide) (S0.2 7) x1 _ rfl) (cwV0 hW mV_X3_get ml_X2_78 ⟨Nat.le_of_ble_eq_true rfl, Nat.le_of_ble_eq_true rfl⟩) (preV0 1 rfl rfl hK hN hP hD [1, 9] rfl rfl) rfl rfl hl.1 rfl (lv_room (Nat.le_of_ble_eq_true rfl)) dX2_landAfter_58 ⟨Nat.le_refl _, Nat.le_refl _⟩) ?_
        refine W.eq (g2 := F0 m 61 ls [.int (F_X3_get 6 (S0.2 7) x1), .int (x1 + 1)]) rfl ?_
        refine lv_iload_n hx hb dX2_landAfter_61 rfl (lv_at hl 0 rfl) ?_
        refine lv_iadd hx hb dX2_landAfter_62 ?_
        refine lv_aload_n hx hb dX2_landAfter_63 rfl (lv_at hl 1 rfl) ?_
        refine va_get (D := D) (ci := 2) (v := .int (S0.1 0)) (C := RX2) (T := TX2) (N := 15) hx hb hW inW_X2 hown hK hP 0 rfl rfl 0 (by decide) (hW _ fl_X2_41) (fun _ h9 => h9) rfl dX2_landAfter_64 ?_
        refine lv_iconst (v := 1) hx hb dX2_landAfter_67 (by decide) ?_
        refine lv_isub hx hb dX2_landAfter_68 ?_
        refine callF (va_runSN (As := [.int ((F_X3_get 6 (S0.2 7) x1) + 0), .int ((S0.1 0) - 1)]) (rest := [.int (x1 + 1)]) ⟨hx, hb, hml, hown, hW⟩ (c_X6_leftOver l D cI cZ ((F_X3_get 6 (S0.2 7) x1) + 0) ((S0.1 0) - 1) _ rfl) (cwSN0 hW hN mS_X6_leftOver nl_X2_91 ⟨Nat.le_of_ble_eq_true rfl, Nat.le_of_ble_eq_true rfl⟩) (preS0 hK hN hP hD [] rfl rfl) rfl rfl hl.1 rfl (lv_room (Nat.le_of_ble_eq_true rfl)) dX2_landAfter_69 ⟨Nat.le_refl _, Nat.le_refl _⟩) ?_
        refine W.eq (g2 := F0 m 72 ls [.int (F_X6_leftOver ((F_X3_get 6 (S0.2 7) x1) + 0) ((S0.1 0) - 1)), .int (x1 + 1)]) rfl ?_
        refine lv_iadd hx hb dX2_landAfter_72 ?_
        refine lv_aload_n hx hb dX2_landAfter_73 rfl (lv_at hl 1 rfl) ?_
        refine va_get (D := D) (ci := 2) (v := .int (S0.1 0)) (C := RX2) (T := TX2) (N := 15) hx hb hW inW_X2 hown hK hP 0 rfl rfl 0 (by decide) (hW _ fl_X2_41) (fun _ h9 => h9) rfl dX2_landAfter_74 ?_
        refine callF (va_runSN (As := [.int ((x1 + 1) + (F_X6_leftOver ((F_X3_get 6 (S0.2 7) x1) + 0) ((S0.1 0) - 1))), .int (S0.1 0)]) (rest := []) ⟨hx, hb, hml, hown, hW⟩ (c_X6_leftOver l D cI cZ ((x1 + 1) + (F_X6_leftOver ((F_X3_get 6 (S0.2 7) x1) + 0) ((S0.1 0) - 1))) (S0.1 0) _ rfl) (cwSN0 hW hN mS_X6_leftOver nl_X2_91 ⟨Nat.le_of_ble_eq_true rfl, Nat.le_of_ble_eq_true rfl⟩) (preS0 hK hN hP hD [] rfl rfl) rfl rfl hl.1 rfl (lv_room (Nat.le_of_ble_eq_true rfl)) dX2_landAfter_77 ⟨Nat.le_refl _, Nat.le_refl _⟩) ?_
        refine W.eq (g2 := F0 m 80 ls [.int (F_X6_leftOver ((x1 + 1) + (F_X6_leftOver ((F_X3_get 6 (S0.2 7) x1) + 0) ((S0.1 0) - 1))) (S0.1 0))]) rfl ?_
        subst hw
        exact W.iret (v := (F_X6_leftOver ((x1 + 1) + (F_X6_leftOver ((F_X3_get 6 (S0.2 7) x1) + 0) ((S0.1 0) - 1))) (S0.1 0))) hx hb hr (fun t ht _ => ⟨rfl, ht⟩) (fun _ h => by cases h) dX2_landAfter_80
    · have hw := (if_pos c2).symm.trans hw
      refine lv_iconst (v := 0) hx hb dX2_landAfter_25 (by decide) ?_
      refine lv_iload_n hx hb dX2_landAfter_26 rfl (lv_at hl 3 rfl) ?_
      refine lv_iconst (v := 1) hx hb dX2_landAfter_27 (by decide) ?_
      refine lv_isub hx hb dX2_landAfter_28 ?_
      refine va_mmax hx hb (hml.trans hl.1.symm) hown (hW _ ml_X2_95) (hW _ st_J9_max_7cf53) (hW _ ini_J9) (hW _ cd_J9_max_7cf53) (Nat.le_of_ble_eq_true rfl) (Nat.le_of_ble_eq_true rfl) (Nat.le_refl _) (Nat.le_refl _) dX2_landAfter_29 ?_
      refine W.eq (g2 := F0 m 32 ls [.int (jmax 0 (x2 - 1))]) rfl ?_
      refine lv_istore_n (lv' := [(3, .int (jmax 0 (x2 - 1))), (0, .ref (ad o0)), (1, .int x1), (2, .int x2)]) hx hb dX2_landAfter_32 rfl hl (by decide) rfl (fun ls hl => ?_)
      refine lv_goto (tgt := 50) hx hb dX2_landAfter_33 (by decide) ?_
      refine lv_iload_n hx hb dX2_landAfter_50 rfl (lv_at hl 2 rfl) ?_
      refine lv_iconst (v := 1) hx hb dX2_landAfter_51 (by decide) ?_
      refine lv_iadd hx hb dX2_landAfter_52 ?_
      refine lv_aload_n hx hb dX2_landAfter_53 rfl (lv_at hl 1 rfl) ?_
      refine va_get (D := D) (ci := 2) (v := .ref (ad (o0 + 1))) (C := RX2) (T := TX2) (N := 15) hx hb hW inW_X2 hown hK hP 0 rfl rfl 7 (by decide) (hW _ fl_X2_14) (fun _ h9 => h9) rfl dX2_landAfter_54 ?_
      refine lv_iload_n hx hb dX2_landAfter_57 rfl (lv_at hl 2 rfl) ?_
      refine callF (va_runV (As := [.int x1]) (rest := [.int (x1 + 1)]) ⟨hx, hb, hml, hown, hW⟩ (c_X3_get l D cI cZ (ad (o0 + 1)) (ad (o0 + 9)) 6 (by decide) (S0.2 7) x1 _ rfl) (cwV0 hW mV_X3_get ml_X2_78 ⟨Nat.le_of_ble_eq_true rfl, Nat.le_of_ble_eq_true rfl⟩) (preV0 1 rfl rfl hK hN hP hD [1, 9] rfl rfl) rfl rfl hl.1 rfl (lv_room (Nat.le_of_ble_eq_true rfl)) dX2_landAfter_58 ⟨Nat.le_refl _, Nat.le_refl _⟩) ?_
      refine W.eq (g2 := F0 m 61 ls [.int (F_X3_get 6 (S0.2 7) x1), .int (x1 + 1)]) rfl ?_
      refine lv_iload_n hx hb dX2_landAfter_61 rfl (lv_at hl 0 rfl) ?_
      refine lv_iadd hx hb dX2_landAfter_62 ?_
      refine lv_aload_n hx hb dX2_landAfter_63 rfl (lv_at hl 1 rfl) ?_
      refine va_get (D := D) (ci := 2) (v := .int (S0.1 0)) (C := RX2) (T := TX2) (N := 15) hx hb hW inW_X2 hown hK hP 0 rfl rfl 0 (by decide) (hW _ fl_X2_41) (fun _ h9 => h9) rfl dX2_landAfter_64 ?_
      refine lv_iconst (v := 1) hx hb dX2_landAfter_67 (by decide) ?_
      refine lv_isub hx hb dX2_landAfter_68 ?_
      refine callF (va_runSN (As := [.int ((F_X3_get 6 (S0.2 7) x1) + (jmax 0 (x2 - 1))), .int ((S0.1 0) - 1)]) (rest := [.int (x1 + 1)]) ⟨hx, hb, hml, hown, hW⟩ (c_X6_leftOver l D cI cZ ((F_X3_get 6 (S0.2 7) x1) + (jmax 0 (x2 - 1))) ((S0.1 0) - 1) _ rfl) (cwSN0 hW hN mS_X6_leftOver nl_X2_91 ⟨Nat.le_of_ble_eq_true rfl, Nat.le_of_ble_eq_true rfl⟩) (preS0 hK hN hP hD [] rfl rfl) rfl rfl hl.1 rfl (lv_room (Nat.le_of_ble_eq_true rfl)) dX2_landAfter_69 ⟨Nat.le_refl _, Nat.le_refl _⟩) ?_
      refine W.eq (g2 := F0 m 72 ls [.int (F_X6_leftOver ((F_X3_get 6 (S0.2 7) x1) + (jmax 0 (x2 - 1))) ((S0.1 0) - 1)), .int (x1 + 1)]) rfl ?_
      refine lv_iadd hx hb dX2_landAfter_72 ?_
      refine lv_aload_n hx hb dX2_landAfter_73 rfl (lv_at hl 1 rfl) ?_
      refine va_get (D := D) (ci := 2) (v := .int (S0.1 0)) (C := RX2) (T := TX2) (N := 15) hx hb hW inW_X2 hown hK hP 0 rfl rfl 0 (by decide) (hW _ fl_X2_41) (fun _ h9 => h9) rfl dX2_landAfter_74 ?_
      refine callF (va_runSN (As := [.int ((x1 + 1) + (F_X6_leftOver ((F_X3_get 6 (S0.2 7) x1) + (jmax 0 (x2 - 1))) ((S0.1 0) - 1))), .int (S0.1 0)]) (rest := []) ⟨hx, hb, hml, hown, hW⟩ (c_X6_leftOver l D cI cZ ((x1 + 1) + (F_X6_leftOver ((F_X3_get 6 (S0.2 7) x1) + (jmax 0 (x2 - 1))) ((S0.1 0) - 1))) (S0.1 0) _ rfl) (cwSN0 hW hN mS_X6_leftOver nl_X2_91 ⟨Nat.le_of_ble_eq_true rfl, Nat.le_of_ble_eq_true rfl⟩) (preS0 hK hN hP hD [] rfl rfl) rfl rfl hl.1 rfl (lv_room (Nat.le_of_ble_eq_true rfl)) dX2_landAfter_77 ⟨Nat.le_refl _, Nat.le_refl _⟩) ?_
      refine W.eq (g2 := F0 m 80 ls [.int (F_X6_leftOver ((x1 + 1) + (F_X6_leftOver ((F_X3_get 6 (S0.2 7) x1) + (jmax 0 (x2 - 1))) ((S0.1 0) - 1))) (S0.1 0))]) rfl ?_
      subst hw
      exact W.iret (v := (F_X6_leftOver ((x1 + 1) + (F_X6_leftOver ((F_X3_get 6 (S0.2 7) x1) + (jmax 0 (x2 - 1))) ((S0.1 0) - 1))) (S0.1 0))) hx hb hr (fun t ht _ => ⟨rfl, ht⟩) (fun _ h => by cases h) dX2_landAfter_80
  · have hw := (if_pos c1).symm.trans hw
    refine lv_bipush (v := (-6)) hx hb dX2_landAfter_8 (by decide) ?_
    subst hw
    exact W.iret (v := (-6)) hx hb hr (fun t ht _ => ⟨rfl, ht⟩) (fun _ h => by cases h) dX2_landAfter_10
set_option maxHeartbeats 4000000 in
set_option maxRecDepth 100000 in
theorem c_X2_bind (l : Launch) (D : va_G) (cI cZ : ClassId) (ad : Nat → Nat) (o0 : Nat) (S0 : St) (x1 : Int32) (x2 : Int32) (k : Int32 → St → Prop) (hw : wp_X2_bind S0 x1 x2 k) : KW l yX2_bind cX2_bind 3 (some .int) 1 22 D cI cZ [.ref (ad o0), .int x1, .int x2] (rcells cI ad o0 S0) (fun v (u : St) => ∃ r, v = some (.int r) ∧ k r u) (fun u : St => rcells cI ad o0 u) := by
  refine Met.ofE (by decide +kernel) (Nat.le_of_ble_eq_true rfl) ?_
  intro p e s m below meth c E ls hl
  obtain ⟨hx, hb, hr, hml, hW, hown, hlocks, hP, hK, hD, hN⟩ := E
  have hl : lv_has ls 3 [(0, .ref (ad o0)), (1, .int x1), (2, .int x2)] := hl
  have hS : va_S (cOf (rcells cI ad o0 S0)) s.heap s.heap [] := va_S.rf
  have hw : (if (F_X2_lives S0 x1) = 0 then (k 1 S0) else (if (F_X3_get 6 (S0.2 9) x1) = 0 then (wp_X3_put 6 (S0.2 9) x1 x2 (fun (Z3 : (Nat → Int32)) => (k 0 (sA S0 9 Z3)))) else (k 4 S0))) := hw
  refine lv_aload_n hx hb dX2_bind_0 rfl (lv_at hl 0 rfl) ?_
  refine lv_iload_n hx hb dX2_bind_1 rfl (lv_at hl 1 rfl) ?_
  refine callF (va_runV (As := [.int x1]) (rest := []) ⟨hx, hb, hml, hown, hW⟩ (c_X2_lives l D cI cZ ad o0 S0 x1 _ rfl) (cwV0 hW mV_X2_lives ml_X2_82 ⟨Nat.le_of_ble_eq_true rfl, Nat.le_of_ble_eq_true rfl⟩) (preV0 0 rfl rfl hK hN hP hD [0, 1, 2, 3, 4, 5, 6, 7, 8, 9, 10, 11, 12, 13, 14, 15, 16] rfl rfl) rfl rfl hl.1 rfl (lv_room (Nat.le_of_ble_eq_true rfl)) dX2_bind_2 ⟨Nat.le_refl _, Nat.le_refl _⟩) ?_
  refine W.eq (g2 := F0 m 5 ls [.int (F_X2_lives S0 x1)]) rfl ?_
  refine lv_if_ne (tgt := 10) hx hb dX2_bind_5 (by decide) (fun c1 => ?_) (fun c1 => ?_)
  · have hw := Eq.mp (if_neg c1) hw
    refine lv_aload_n hx hb dX2_bind_10 rfl (lv_at hl 0 rfl) ?_
    refine va_get (D := D) (ci := 2) (v := .ref (ad (o0 + 3))) (C := RX2) (T := TX2) (N := 15) hx hb hW inW_X2 hown hK hP 0 rfl rfl 9 (by decide) (hW _ fl_X2_23) (fun _ h9 => h9) rfl dX2_bind_11 ?_
    refine lv_iload_n hx hb dX2_bind_14 rfl (lv_at hl 1 rfl) ?_
    refine callF (va_runV (As := [.int x1]) (rest := []) ⟨hx, hb, hml, hown, hW⟩ (c_X3_get l D cI cZ (ad (o0 + 3)) (ad (o0 + 11)) 6 (by decide) (S0.2 9) x1 _ rfl) (cwV0 hW mV_X3_get ml_X2_78 ⟨Nat.le_of_ble_eq_true rfl, Nat.le_of_ble_eq_true rfl⟩) (preV0 3 rfl rfl hK hN hP hD [3, 11] rfl rfl) rfl rfl hl.1 rfl (lv_room (Nat.le_of_ble_eq_true rfl)) dX2_bind_15 ⟨Nat.le_refl _, Nat.le_refl _⟩) ?_
    refine W.eq (g2 := F0 m 18 ls [.int (F_X3_get 6 (S0.2 9) x1)]) rfl ?_
    refine lv_if_eq (tgt := 23) hx hb dX2_bind_18 (by decide) (fun c2 => ?_) (fun c2 => ?_)
    · have hw := Eq.mp (if_pos c2) hw
      refine lv_aload_n hx hb dX2_bind_23 rfl (lv_at hl 0 rfl) ?_
      refine va_get (D := D) (ci := 2) (v := .ref (ad (o0 + 3))) (C := RX2) (T := TX2) (N := 15) hx hb hW inW_X2 hown hK hP 0 rfl rfl 9 (by decide) (hW _ fl_X2_23) (fun _ h9 => h9) rfl dX2_bind_24 ?_
      refine lv_iload_n hx hb dX2_bind_27 rfl (lv_at hl 1 rfl) ?_
      refine lv_iload_n hx hb dX2_bind_28 rfl (lv_at hl 2 rfl) ?_
      refine callW (va_runV (As := [.int x1, .int x2]) (rest := []) ⟨hx, hb, hml, hown, hW⟩ (c_X3_put l D cI cZ (ad (o0 + 3)) (ad (o0 + 11)) 6 (by decide) (S0.2 9) x1 x2 _ hw) (cwV0 hW mV_X3_put ml_X2_63 ⟨Nat.le_of_ble_eq_true rfl, Nat.le_of_ble_eq_true rfl⟩) (preV0 3 rfl rfl hK hN hP hD [3, 11] rfl rfl) rfl rfl hl.1 rfl (lv_room (Nat.le_of_ble_eq_true rfl)) dX2_bind_29 ⟨Nat.le_refl _, Nat.le_refl _⟩) hP hD hS [3, 11] rfl rfl (fun _ => rfl) (fun v9 u9 H locs hq hP hD hS => ?_)
      obtain ⟨rfl, hw⟩ := hq
      obtain ⟨Z3, rfl⟩ : ∃ z, z = u9 := ⟨_, rfl⟩
      have hP : va_P D classes (rcells cI ad o0 (sA S0 9 Z3)) H := hP
      have hD : va_D (cOf (rcells cI ad o0 S0)) (rcells cI ad o0 (sA S0 9 Z3)) := hD
      refine W.eq (g2 := F0 m 32 ls []) rfl ?_
      refine lv_iconst (v := 0) hx hb dX2_bind_32 (by decide) ?_
      exact W.iret (v := 0) hx hb hr (fun t ht _ => ⟨⟨_, ((sA S0 9 Z3)), rfl, ⟨_, rfl, hw⟩, by rw [ht]; exact hP⟩, hS.F ht⟩) hS.2.2 dX2_bind_33
    · have hw := Eq.mp (if_neg c2) hw
      refine lv_iconst (v := 4) hx hb dX2_bind_21 (by decide) ?_
      exact W.iret (v := 4) hx hb hr (fun t ht _ => ⟨⟨_, (S0), rfl, ⟨_, rfl, hw⟩, by rw [ht]; exact hP⟩, hS.F ht⟩) hS.2.2 dX2_bind_22
  · have hw := Eq.mp (if_pos c1) hw
    refine lv_iconst (v := 1) hx hb dX2_bind_8 (by decide) ?_
    exact W.iret (v := 1) hx hb hr (fun t ht _ => ⟨⟨_, (S0), rfl, ⟨_, rfl, hw⟩, by rw [ht]; exact hP⟩, hS.F ht⟩) hS.2.2 dX2_bind_9
set_option maxHeartbeats 4000000 in
set_option maxRecDepth 100000 in
theorem c_X2_passEquinox (l : Launch) (D : va_G) (cI cZ : ClassId) (ad : Nat → Nat) (o0 : Nat) (S0 : St) (k : St → Prop) (hw : wp_X2_passEquinox S0 k) : KW l yX2_passEquinox cX2_passEquinox 2 none 1 22 D cI cZ [.ref (ad o0)] (rcells cI ad o0 S0) (fun v (u : St) => v = none ∧ k u) (fun u : St => rcells cI ad o0 u) := by
  refine Met.ofE (by decide +kernel) (Nat.le_of_ble_eq_true rfl) ?_
  intro p e s m below meth c E ls hl
  obtain ⟨hx, hb, hr, hml, hW, hown, hlocks, hP, hK, hD, hN⟩ := E
  have hl : lv_has ls 2 [(0, .ref (ad o0))] := hl
  have hS : va_S (cOf (rcells cI ad o0 S0)) s.heap s.heap [] := va_S.rf
  have L17 : ∀  (kx : St → Prop), (∀ (S0q : St) (H : Heap) (locs : List Loc), va_P D classes (rcells cI ad o0 S0q) H → va_D (cOf (rcells cI ad o0 S0)) (rcells cI ad o0 S0q) → va_S (cOf (rcells cI ad o0 S0)) s.heap H locs → ∀ ls : Array Slot, lv_has ls 2 [] → kx S0q → W p l e { frames := 1, cells := 0, slots := 0, locals := 22 } s m ([.ref (ad o0)] : List Value).toArray below meth c H locs 0 0 (MQ below (QW (fun v (u : St) => v = none ∧ k u) D (fun u : St => rcells cI ad o0 u) (rcells cI ad o0 S0)) ([.ref (ad o0)] : List Value).toArray s 0 0 (cOf (rcells cI ad o0 S0))) (F0 m 119 ls [])) → ∀ (N : Nat) (y1 : Int32) (S0q : St) (H : Heap) (locs : List Loc), va_P D classes (rcells cI ad o0 S0q) H → va_D (cOf (rcells cI ad o0 S0)) (rcells cI ad o0 S0q) → va_S (cOf (rcells cI ad o0 S0)) s.heap H locs → ∀ ls : Array Slot, lv_has ls 2 [(0, .ref (ad o0)), (1, .int y1)] → wl_X2_passEquinox_17 kx N y1 S0q → W p l e { frames := 1, cells := 0, slots := 0, locals := 22 } s m ([.ref (ad o0)] : List Value).toArray below meth c H locs 0 0 (MQ below (QW (fun v (u : St) => v = none ∧ k u) D (fun u : St => rcells cI ad o0 u) (rcells cI ad o0 S0)) ([.ref (ad o0)] : List Value).toArray s 0 0 (cOf (rcells cI ad o0 S0))) (F0 m 17 ls []) := by
    intro  kx hxt N
    induction N with
    | zero => intro y1 S0q H locs hP hD hS ls hl hw; exact False.elim hw
    | succ N ih =>
      intro y1 S0q H locs hP hD hS ls hl hw
      have hw : (if (S0q.1 0) ≤ y1 then (kx S0q) else (if (F_X3_get 6 (S0q.2 9) y1) = 1 then (wp_X3_put 6 (S0q.2 9) y1 0 (fun (Z3 : (Nat → Int32)) => (wl_X2_passEquinox_17 kx N (y1 + 1) (sA S0q 9 Z3)))) else (if (F_X3_get 6 (S0q.2 9) y1) = 0 then (if (F_X2_lives S0q y1) = 0 then (wl_X2_passEquinox_17 kx N (y1 + 1) S0q) else (wp_X3_put 6 (S0q.2 7) y1 (F_X6_leftOver ((F_X3_get 6 (S0q.2 7) y1) + 1) ((S0q.1 0) - 1)) (fun (Z6 : (Nat → Int32)) => (wp_X3_put 6 (S0q.2 10) y1 ((F_X3_get 6 (S0q.2 10) y1) + 1) (fun (Z7 : (Nat → Int32)) => (wl_X2_passEquinox_17 kx N (y1 + 1) (sA (sA S0q 7 Z6) 10 Z7))))))) else (wl_X2_passEquinox_17 kx N (y1 + 1) S0q)))) := hw
      refine lv_iload_n hx hb dX2_passEquinox_17 rfl (lv_at hl 1 rfl) ?_
      refine lv_aload_n hx hb dX2_passEquinox_18 rfl (lv_at hl 0 rfl) ?_
      refine va_get (D := D) (ci := 2) (v := .int (S0q.1 0)) (C := RX2) (T := TX2) (N := 15) hx hb hW inW_X2 hown hK hP 0 rfl rfl 0 (by decide) (hW _ fl_X2_41) (fun _ h9 => h9) rfl dX2_passEquinox_19 ?_
      refine lv_icmp_ge (tgt := 119) hx hb dX2_passEquinox_22 (by decide) (fun c1 => ?_) (fun c1 => ?_)
      · have hw := Eq.mp (if_pos c1) hw
        exact hxt S0q _ _ hP hD hS _ (lv_sub hl [] rfl) hw
      · have hw := Eq.mp (if_neg c1) hw
        refine lv_aload_n hx hb dX2_passEquinox_25 rfl (lv_at hl 0 rfl) ?_
        refine va_get (D := D) (ci := 2) (v := .ref (ad (o0 + 3))) (C := RX2) (T := TX2) (N := 15) hx hb hW inW_X2 hown hK hP 0 rfl rfl 9 (by decide) (hW _ fl_X2_23) (fun _ h9 => h9) rfl dX2_passEquinox_26 ?_
        refine lv_iload_n hx hb dX2_passEquinox_29 rfl (lv_at hl 1 rfl) ?_
        refine callF (va_runV (As := [.int y1]) (rest := []) ⟨hx, hb, hml, hown, hW⟩ (c_X3_get l D cI cZ (ad (o0 + 3)) (ad (o0 + 11)) 6 (by decide) (S0q.2 9) y1 _ rfl) (cwV0 hW mV_X3_get ml_X2_78 ⟨Nat.le_of_ble_eq_true rfl, Nat.le_of_ble_eq_true rfl⟩) (preV0 3 rfl rfl hK hN hP hD [3, 11] rfl rfl) rfl rfl hl.1 rfl (lv_room (Nat.le_of_ble_eq_true rfl)) dX2_passEquinox_30 ⟨Nat.le_refl _, Nat.le_refl _⟩) ?_
        refine W.eq (g2 := F0 m 33 ls [.int (F_X3_get 6 (S0q.2 9) y1)]) rfl ?_
        refine lv_iconst (v := 1) hx hb dX2_passEquinox_33 (by decide) ?_
        refine lv_icmp_ne (tgt := 49) hx hb dX2_passEquinox_34 (by decide) (fun c2 => ?_) (fun c2 => ?_)
        · have hw := Eq.mp (if_neg c2) hw
          refine lv_aload_n hx hb dX2_passEquinox_49 rfl (lv_at hl 0 rfl) ?_
          refine va_get (D := D) (ci := 2) (v := .ref (ad (o0 + 3))) (C := RX2) (T := TX2) (N := 15) hx hb hW inW_X2 hown hK hP 0 rfl rfl 9 (by decide) (hW _ fl_X2_23) (fun _ h9 => h9) rfl dX2_passEquinox_50 ?_
          refine lv_iload_n hx hb dX2_passEquinox_53 rfl (lv_at hl 1 rfl) ?_
          refine callF (va_runV (As := [.int y1]) (rest := []) ⟨hx, hb, hml, hown, hW⟩ (c_X3_get l D cI cZ (ad (o0 + 3)) (ad (o0 + 11)) 6 (by decide) (S0q.2 9) y1 _ rfl) (cwV0 hW mV_X3_get ml_X2_78 ⟨Nat.le_of_ble_eq_true rfl, Nat.le_of_ble_eq_true rfl⟩) (preV0 3 rfl rfl hK hN hP hD [3, 11] rfl rfl) rfl rfl hl.1 rfl (lv_room (Nat.le_of_ble_eq_true rfl)) dX2_passEquinox_54 ⟨Nat.le_refl _, Nat.le_refl _⟩) ?_
          refine W.eq (g2 := F0 m 57 ls [.int (F_X3_get 6 (S0q.2 9) y1)]) rfl ?_
          refine lv_if_ne (tgt := 113) hx hb dX2_passEquinox_57 (by decide) (fun c4 => ?_) (fun c4 => ?_)
          · have hw := Eq.mp (if_neg c4) hw
            refine lv_iinc (v := (y1 + 1)) (lv' := [(1, .int (y1 + 1)), (0, .ref (ad o0))]) hx hb dX2_passEquinox_113 hl (k := 1) rfl rfl (by decide) rfl (fun ls hl => ?_)
            refine lv_goto (tgt := 17) hx hb dX2_passEquinox_116 (by decide) ?_
            exact ih (y1 + 1) S0q _ _ hP hD hS _ (lv_sub hl [1, 0] rfl) hw
          · have hw := Eq.mp (if_pos c4) hw
            refine lv_aload_n hx hb dX2_passEquinox_60 rfl (lv_at hl 0 rfl) ?_
            refine lv_iload_n hx hb dX2_passEquinox_61 rfl (lv_at hl 1 rfl) ?_
            refine callF (va_runV (As := [.int y1]) (rest := []) ⟨hx, hb, hml, hown, hW⟩ (c_X2_lives l D cI cZ ad o0 S0q y1 _ rfl) (cwV0 hW mV_X2_lives ml_X2_82 ⟨Nat.le_of_ble_eq_true rfl, Nat.le_of_ble_eq_true rfl⟩) (preV0 0 rfl rfl hK hN hP hD [0, 1, 2, 3, 4, 5, 6, 7, 8, 9, 10, 11, 12, 13, 14, 15, 16] rfl rfl) rfl rfl hl.1 rfl (lv_room (Nat.le_of_ble_eq_true rfl)) dX2_passEquinox_62 ⟨Nat.le_refl _, Nat.le_refl _⟩) ?_
            refine W.eq (g2 := F0 m 65 ls [.int (F_X2_lives S0q y1)]) rfl ?_
            refine lv_if_eq (tgt := 113) hx hb dX2_passEquinox_65 (by decide) (fun c5 => ?_) (fun c5 => ?_)
            · have hw := Eq.mp (if_pos c5) hw
              refine lv_iinc (v := (y1 + 1)) (lv' := [(1, .int (y1 + 1)), (0, .ref (ad o0))]) hx hb dX2_passEquinox_113 hl (k := 1) rfl rfl (by decide) rfl (fun ls hl => ?_)
              refine lv_goto (tgt := 17) hx hb dX2_passEquinox_116 (by decide) ?_
              exact ih (y1 + 1) S0q _ _ hP hD hS _ (lv_sub hl [1, 0] rfl) hw
            · have hw := Eq.mp (if_neg c5) hw
              refine lv_aload_n hx hb dX2_passEquinox_68 rfl (lv_at hl 0 rfl) ?_
              refine va_get (D := D) (ci := 2) (v := .ref (ad (o0 + 1))) (C := RX2) (T := TX2) (N := 15) hx hb hW inW_X2 hown hK hP 0 rfl rfl 7 (by decide) (hW _ fl_X2_14) (fun _ h9 => h9) rfl dX2_passEquinox_69 ?_
              refine lv_iload_n hx hb dX2_passEquinox_72 rfl (lv_at hl 1 rfl) ?_
              refine lv_aload_n hx hb dX2_passEquinox_73 rfl (lv_at hl 0 rfl) ?_
              refine va_get (D := D) (ci := 2) (v := .ref (ad (o0 + 1))) (C := RX2) (T := TX2) (N := 15) hx hb hW inW_X2 hown hK hP 0 rfl rfl 7 (by decide) (hW _ fl_X2_14) (fun _ h9 => h9) rfl dX2_passEquinox_74 ?_
              refine lv_iload_n hx hb dX2_passEquinox_77 rfl (lv_at hl 1 rfl) ?_
              refine callF (va_runV (As := [.int y1]) (rest := [.int y1, .ref (ad (o0 + 1))]) ⟨hx, hb, hml, hown, hW⟩ (c_X3_get l D cI cZ (ad (o0 + 1)) (ad (o0 + 9)) 6 (by decide) (S0q.2 7) y1 _ rfl) (cwV0 hW mV_X3_get ml_X2_78 ⟨Nat.le_of_ble_eq_true rfl, Nat.le_of_ble_eq_true rfl⟩) (preV0 1 rfl rfl hK hN hP hD [1, 9] rfl rfl) rfl rfl hl.1 rfl (lv_room (Nat.le_of_ble_eq_true rfl)) dX2_passEquinox_78 ⟨Nat.le_refl _, Nat.le_refl _⟩) ?_
              refine W.eq (g2 := F0 m 81 ls [.int (F_X3_get 6 (S0q.2 7) y1), .int y1, .ref (ad (o0 + 1))]) rfl ?_
              refine lv_iconst (v := 1) hx hb dX2_passEquinox_81 (by decide) ?_
              refine lv_iadd hx hb dX2_passEquinox_82 ?_
              refine lv_aload_n hx hb dX2_passEquinox_83 rfl (lv_at hl 0 rfl) ?_
              refine va_get (D := D) (ci := 2) (v := .int (S0q.1 0)) (C := RX2) (T := TX2) (N := 15) hx hb hW inW_X2 hown hK hP 0 rfl rfl 0 (by decide) (hW _ fl_X2_41) (fun _ h9 => h9) rfl dX2_passEquinox_84 ?_
              refine lv_iconst (v := 1) hx hb dX2_passEquinox_87 (by decide) ?_
              refine lv_isub hx hb dX2_passEquinox_88 ?_
              refine callF (va_runSN (As := [.int ((F_X3_get 6 (S0q.2 7) y1) + 1), .int ((S0q.1 0) - 1)]) (rest := [.int y1, .ref (ad (o0 + 1))]) ⟨hx, hb, hml, hown, hW⟩ (c_X6_leftOver l D cI cZ ((F_X3_get 6 (S0q.2 7) y1) + 1) ((S0q.1 0) - 1) _ rfl) (cwSN0 hW hN mS_X6_leftOver nl_X2_91 ⟨Nat.le_of_ble_eq_true rfl, Nat.le_of_ble_eq_true rfl⟩) (preS0 hK hN hP hD [] rfl rfl) rfl rfl hl.1 rfl (lv_room (Nat.le_of_ble_eq_true rfl)) dX2_passEquinox_89 ⟨Nat.le_refl _, Nat.le_refl _⟩) ?_
              refine W.eq (g2 := F0 m 92 ls [.int (F_X6_leftOver ((F_X3_get 6 (S0q.2 7) y1) + 1) ((S0q.1 0) - 1)), .int y1, .ref (ad (o0 + 1))]) rfl ?_
              refine callW (va_runV (As := [.int y1, .int (F_X6_leftOver ((F_X3_get 6 (S0q.2 7) y1) + 1) ((S0q.1 0) - 1))]) (rest := []) ⟨hx, hb, hml, hown, hW⟩ (c_X3_put l D cI cZ (ad (o0 + 1)) (ad (o0 + 9)) 6 (by decide) (S0q.2 7) y1 (F_X6_leftOver ((F_X3_get 6 (S0q.2 7) y1) + 1) ((S0q.1 0) - 1)) _ hw) (cwV0 hW mV_X3_put ml_X2_63 ⟨Nat.le_of_ble_eq_true rfl, Nat.le_of_ble_eq_true rfl⟩) (preV0 1 rfl rfl hK hN hP hD [1, 9] rfl rfl) rfl rfl hl.1 rfl (lv_room (Nat.le_of_ble_eq_true rfl)) dX2_passEquinox_92 ⟨Nat.le_refl _, Nat.le_refl _⟩) hP hD hS [1, 9] rfl rfl (fun _ => rfl) (fun v9 u9 H locs hq hP hD hS => ?_)
              obtain ⟨rfl, hw⟩ := hq
              obtain ⟨Z6, rfl⟩ : ∃ z, z = u9 := ⟨_, rfl⟩
              have hP : va_P D classes (rcells cI ad o0 (sA S0q 7 Z6)) H := hP
              have hD : va_D (cOf (rcells cI ad o0 S0)) (rcells cI ad o0 (sA S0q 7 Z6)) := hD
              refine W.eq (g2 := F0 m 95 ls []) rfl ?_
              refine lv_aload_n hx hb dX2_passEquinox_95 rfl (lv_at hl 0 rfl) ?_
              refine va_get (D := D) (ci := 2) (v := .ref (ad (o0 + 4))) (C := RX2) (T := TX2) (N := 15) hx hb hW inW_X2 hown hK hP 0 rfl rfl 10 (by decide) (hW _ fl_X2_26) (fun _ h9 => h9) rfl dX2_passEquinox_96 ?_
              refine lv_iload_n hx hb dX2_passEquinox_99 rfl (lv_at hl 1 rfl) ?_
              refine lv_aload_n hx hb dX2_passEquinox_100 rfl (lv_at hl 0 rfl) ?_
              refine va_get (D := D) (ci := 2) (v := .ref (ad (o0 + 4))) (C := RX2) (T := TX2) (N := 15) hx hb hW inW_X2 hown hK hP 0 rfl rfl 10 (by decide) (hW _ fl_X2_26) (fun _ h9 => h9) rfl dX2_passEquinox_101 ?_
              refine lv_iload_n hx hb dX2_passEquinox_104 rfl (lv_at hl 1 rfl) ?_
              refine callF (va_runV (As := [.int y1]) (rest := [.int y1, .ref (ad (o0 + 4))]) ⟨hx, hb, hml, hown, hW⟩ (c_X3_get l D cI cZ (ad (o0 + 4)) (ad (o0 + 12)) 6 (by decide) (S0q.2 10) y1 _ rfl) (cwV0 hW mV_X3_get ml_X2_78 ⟨Nat.le_of_ble_eq_true rfl, Nat.le_of_ble_eq_true rfl⟩) (preV0 4 rfl rfl hK hN hP hD [4, 12] rfl rfl) rfl rfl hl.1 rfl (lv_room (Nat.le_of_ble_eq_true rfl)) dX2_passEquinox_105 ⟨Nat.le_refl _, Nat.le_refl _⟩) ?_
              refine W.eq (g2 := F0 m 108 ls [.int (F_X3_get 6 (S0q.2 10) y1), .int y1, .ref (ad (o0 + 4))]) rfl ?_
              refine lv_iconst (v := 1) hx hb dX2_passEquinox_108 (by decide) ?_
              refine lv_iadd hx hb dX2_passEquinox_109 ?_
              refine callW (va_runV (As := [.int y1, .int ((F_X3_get 6 (S0q.2 10) y1) + 1)]) (rest := []) ⟨hx, hb, hml, hown, hW⟩ (c_X3_put l D cI cZ (ad (o0 + 4)) (ad (o0 + 12)) 6 (by decide) (S0q.2 10) y1 ((F_X3_get 6 (S0q.2 10) y1) + 1) _ hw) (cwV0 hW mV_X3_put ml_X2_63 ⟨Nat.le_of_ble_eq_true rfl, Nat.le_of_ble_eq_true rfl⟩) (preV0 4 rfl rfl hK hN hP hD [4, 12] rfl rfl) rfl rfl hl.1 rfl (lv_room (Nat.le_of_ble_eq_true rfl)) dX2_passEquinox_110 ⟨Nat.le_refl _, Nat.le_refl _⟩) hP hD hS [4, 12] rfl rfl (fun _ => rfl) (fun v9 u9 H locs hq hP hD hS => ?_)
              obtain ⟨rfl, hw⟩ := hq
              obtain ⟨Z7, rfl⟩ : ∃ z, z = u9 := ⟨_, rfl⟩
              have hP : va_P D classes (rcells cI ad o0 (sA (sA S0q 7 Z6) 10 Z7)) H := hP
              have hD : va_D (cOf (rcells cI ad o0 S0)) (rcells cI ad o0 (sA (sA S0q 7 Z6) 10 Z7)) := hD
              refine W.eq (g2 := F0 m 113 ls []) rfl ?_
              refine lv_iinc (v := (y1 + 1)) (lv' := [(1, .int (y1 + 1)), (0, .ref (ad o0))]) hx hb dX2_passEquinox_113 hl (k := 1) rfl rfl (by decide) rfl (fun ls hl => ?_)
              refine lv_goto (tgt := 17) hx hb dX2_passEquinox_116 (by decide) ?_
              exact ih (y1 + 1) (sA (sA S0q 7 Z6) 10 Z7) _ _ hP hD hS _ (lv_sub hl [1, 0] rfl) hw
        · have hw := Eq.mp (if_pos c2) hw
          refine lv_aload_n hx hb dX2_passEquinox_37 rfl (lv_at hl 0 rfl) ?_
          refine va_get (D := D) (ci := 2) (v := .ref (ad (o0 + 3))) (C := RX2) (T := TX2) (N := 15) hx hb hW inW_X2 hown hK hP 0 rfl rfl 9 (by decide) (hW _ fl_X2_23) (fun _ h9 => h9) rfl dX2_passEquinox_38 ?_
          refine lv_iload_n hx hb dX2_passEquinox_41 rfl (lv_at hl 1 rfl) ?_
          refine lv_iconst (v := 0) hx hb dX2_passEquinox_42 (by decide) ?_
          refine callW (va_runV (As := [.int y1, .int 0]) (rest := []) ⟨hx, hb, hml, hown, hW⟩ (c_X3_put l D cI cZ (ad (o0 + 3)) (ad (o0 + 11)) 6 (by decide) (S0q.2 9) y1 0 _ hw) (cwV0 hW mV_X3_put ml_X2_63 ⟨Nat.le_of_ble_eq_true rfl, Nat.le_of_ble_eq_true rfl⟩) (preV0 3 rfl rfl hK hN hP hD [3, 11] rfl rfl) rfl rfl hl.1 rfl (lv_room (Nat.le_of_ble_eq_true rfl)) dX2_passEquinox_43 ⟨Nat.le_refl _, Nat.le_refl _⟩) hP hD hS [3, 11] rfl rfl (fun _ => rfl) (fun v9 u9 H locs hq hP hD hS => ?_)
          obtain ⟨rfl, hw⟩ := hq
          obtain ⟨Z3, rfl⟩ : ∃ z, z = u9 := ⟨_, rfl⟩
          have hP : va_P D classes (rcells cI ad o0 (sA S0q 9 Z3)) H := hP
          have hD : va_D (cOf (rcells cI ad o0 S0)) (rcells cI ad o0 (sA S0q 9 Z3)) := hD
          refine W.eq (g2 := F0 m 46 ls []) rfl ?_
          refine lv_goto (tgt := 113) hx hb dX2_passEquinox_46 (by decide) ?_
          refine lv_iinc (v := (y1 + 1)) (lv' := [(1, .int (y1 + 1)), (0, .ref (ad o0))]) hx hb dX2_passEquinox_113 hl (k := 1) rfl rfl (by decide) rfl (fun ls hl => ?_)
          refine lv_goto (tgt := 17) hx hb dX2_passEquinox_116 (by decide) ?_
          exact ih (y1 + 1) (sA S0q 9 Z3) _ _ hP hD hS _ (lv_sub hl [1, 0] rfl) hw
  have hw : (∃ N, wl_X2_passEquinox_17 (fun (Z8 : St) => (k Z8)) N 0 (sI (sI S0 3 0) 4 ((S0.1 4) + 1))) := hw
  refine lv_aload_n hx hb dX2_passEquinox_0 rfl (lv_at hl 0 rfl) ?_
  refine lv_iconst (v := 0) hx hb dX2_passEquinox_1 (by decide) ?_
  refine va_put (D := D) (ci := 2) (v := .int 0) (ty := .int) (C := RX2) (T := TX2) (N := 15) hx hb hW inW_X2 tyX2 tyX2_ok nmX2 hown hK hP hD hS 0 rfl rfl 3 (by decide) (hW _ fl_X2_48) (fun _ h9 => h9) rfl (by decide +kernel) rfl rfl (Nat.le_of_ble_eq_true rfl) dX2_passEquinox_2 (fun H locs hP hD hS => ?_)
  have hP : va_P D classes (rcells cI ad o0 (sI S0 3 0)) H := hP
  have hD : va_D (cOf (rcells cI ad o0 S0)) (rcells cI ad o0 (sI S0 3 0)) := hD
  refine lv_aload_n hx hb dX2_passEquinox_5 rfl (lv_at hl 0 rfl) ?_
  refine lv_dup hx hb dX2_passEquinox_6 rfl ?_
  refine va_get (D := D) (ci := 2) (v := .int (S0.1 4)) (C := RX2) (T := TX2) (N := 15) hx hb hW inW_X2 hown hK hP 0 rfl rfl 4 (by decide) (hW _ fl_X2_51) (fun _ h9 => h9) rfl dX2_passEquinox_7 ?_
  refine lv_iconst (v := 1) hx hb dX2_passEquinox_10 (by decide) ?_
  refine lv_iadd hx hb dX2_passEquinox_11 ?_
  refine va_put (D := D) (ci := 2) (v := .int ((S0.1 4) + 1)) (ty := .int) (C := RX2) (T := TX2) (N := 15) hx hb hW inW_X2 tyX2 tyX2_ok nmX2 hown hK hP hD hS 0 rfl rfl 4 (by decide) (hW _ fl_X2_51) (fun _ h9 => h9) rfl (by decide +kernel) rfl rfl (Nat.le_of_ble_eq_true rfl) dX2_passEquinox_12 (fun H locs hP hD hS => ?_)
  have hP : va_P D classes (rcells cI ad o0 (sI (sI S0 3 0) 4 ((S0.1 4) + 1))) H := hP
  have hD : va_D (cOf (rcells cI ad o0 S0)) (rcells cI ad o0 (sI (sI S0 3 0) 4 ((S0.1 4) + 1))) := hD
  refine lv_iconst (v := 0) hx hb dX2_passEquinox_15 (by decide) ?_
  refine lv_istore_n (lv' := [(1, .int 0), (0, .ref (ad o0))]) hx hb dX2_passEquinox_16 rfl hl (by decide) rfl (fun ls hl => ?_)
  obtain ⟨N9, hw⟩ := hw
  refine L17  _ (fun Z8 H locs hP hD hS ls hl hw => ?_) N9 0 (sI (sI S0 3 0) 4 ((S0.1 4) + 1)) _ _ hP hD hS _ (lv_sub hl [1, 0] rfl) hw
  exact W.vret hx hb hr (fun t ht _ => ⟨⟨_, (Z8), rfl, ⟨rfl, hw⟩, by rw [ht]; exact hP⟩, hS.F ht⟩) hS.2.2 dX2_passEquinox_119
end
